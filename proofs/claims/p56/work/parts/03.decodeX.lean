theorem dX1_size_0 : decode cX1_size 0 = .ok (.aload_n 0, 1) := by decide +kernel
theorem dX1_size_1 : decode cX1_size 1 = .ok (.getfield 52, 3) := by decide +kernel
theorem dX1_size_4 : decode cX1_size 4 = .ok (.invokevirtual 56, 3) := by decide +kernel
theorem dX1_size_7 : decode cX1_size 7 = .ok (.ireturn, 1) := by decide +kernel
theorem dX1_accepts_0 : decode cX1_accepts 0 = .ok (.iload_n 2, 1) := by decide +kernel
theorem dX1_accepts_1 : decode cX1_accepts 1 = .ok (.ifCond .lt 14, 3) := by decide +kernel
theorem dX1_accepts_4 : decode cX1_accepts 4 = .ok (.iload_n 2, 1) := by decide +kernel
theorem dX1_accepts_5 : decode cX1_accepts 5 = .ok (.aload_n 0, 1) := by decide +kernel
theorem dX1_accepts_6 : decode cX1_accepts 6 = .ok (.getfield 52, 3) := by decide +kernel
theorem dX1_accepts_9 : decode cX1_accepts 9 = .ok (.invokevirtual 56, 3) := by decide +kernel
theorem dX1_accepts_12 : decode cX1_accepts 12 = .ok (.if_icmp .lt 5, 3) := by decide +kernel
theorem dX1_accepts_15 : decode cX1_accepts 15 = .ok (.iconst 0, 1) := by decide +kernel
theorem dX1_accepts_16 : decode cX1_accepts 16 = .ok (.ireturn, 1) := by decide +kernel
theorem dX1_accepts_17 : decode cX1_accepts 17 = .ok (.aload_n 0, 1) := by decide +kernel
theorem dX1_accepts_18 : decode cX1_accepts 18 = .ok (.getfield 52, 3) := by decide +kernel
theorem dX1_accepts_21 : decode cX1_accepts 21 = .ok (.iload_n 2, 1) := by decide +kernel
theorem dX1_accepts_22 : decode cX1_accepts 22 = .ok (.invokevirtual 62, 3) := by decide +kernel
theorem dX1_accepts_25 : decode cX1_accepts 25 = .ok (.istore_n 3, 1) := by decide +kernel
theorem dX1_accepts_26 : decode cX1_accepts 26 = .ok (.iload_n 3, 1) := by decide +kernel
theorem dX1_accepts_27 : decode cX1_accepts 27 = .ok (.bipush 78, 2) := by decide +kernel
theorem dX1_accepts_29 : decode cX1_accepts 29 = .ok (.if_icmp .ne 21, 3) := by decide +kernel
theorem dX1_accepts_32 : decode cX1_accepts 32 = .ok (.iload_n 1, 1) := by decide +kernel
theorem dX1_accepts_33 : decode cX1_accepts 33 = .ok (.bipush 48, 2) := by decide +kernel
theorem dX1_accepts_35 : decode cX1_accepts 35 = .ok (.if_icmp .lt 13, 3) := by decide +kernel
theorem dX1_accepts_38 : decode cX1_accepts 38 = .ok (.iload_n 1, 1) := by decide +kernel
theorem dX1_accepts_39 : decode cX1_accepts 39 = .ok (.bipush 57, 2) := by decide +kernel
theorem dX1_accepts_41 : decode cX1_accepts 41 = .ok (.if_icmp .gt 7, 3) := by decide +kernel
theorem dX1_accepts_44 : decode cX1_accepts 44 = .ok (.iconst 1, 1) := by decide +kernel
theorem dX1_accepts_45 : decode cX1_accepts 45 = .ok (.goto 4, 3) := by decide +kernel
theorem dX1_accepts_48 : decode cX1_accepts 48 = .ok (.iconst 0, 1) := by decide +kernel
theorem dX1_accepts_49 : decode cX1_accepts 49 = .ok (.ireturn, 1) := by decide +kernel
theorem dX1_accepts_50 : decode cX1_accepts 50 = .ok (.iload_n 3, 1) := by decide +kernel
theorem dX1_accepts_51 : decode cX1_accepts 51 = .ok (.bipush 75, 2) := by decide +kernel
theorem dX1_accepts_53 : decode cX1_accepts 53 = .ok (.if_icmp .ne 8, 3) := by decide +kernel
theorem dX1_accepts_56 : decode cX1_accepts 56 = .ok (.iload_n 1, 1) := by decide +kernel
theorem dX1_accepts_57 : decode cX1_accepts 57 = .ok (.invokestatic 66, 3) := by decide +kernel
theorem dX1_accepts_60 : decode cX1_accepts 60 = .ok (.ireturn, 1) := by decide +kernel
theorem dX1_accepts_61 : decode cX1_accepts 61 = .ok (.iload_n 3, 1) := by decide +kernel
theorem dX1_accepts_62 : decode cX1_accepts 62 = .ok (.bipush 67, 2) := by decide +kernel
theorem dX1_accepts_64 : decode cX1_accepts 64 = .ok (.if_icmp .ne 8, 3) := by decide +kernel
theorem dX1_accepts_67 : decode cX1_accepts 67 = .ok (.iload_n 1, 1) := by decide +kernel
theorem dX1_accepts_68 : decode cX1_accepts 68 = .ok (.invokestatic 70, 3) := by decide +kernel
theorem dX1_accepts_71 : decode cX1_accepts 71 = .ok (.ireturn, 1) := by decide +kernel
theorem dX1_accepts_72 : decode cX1_accepts 72 = .ok (.iload_n 1, 1) := by decide +kernel
theorem dX1_accepts_73 : decode cX1_accepts 73 = .ok (.iload_n 3, 1) := by decide +kernel
theorem dX1_accepts_74 : decode cX1_accepts 74 = .ok (.if_icmp .ne 7, 3) := by decide +kernel
theorem dX1_accepts_77 : decode cX1_accepts 77 = .ok (.iconst 1, 1) := by decide +kernel
theorem dX1_accepts_78 : decode cX1_accepts 78 = .ok (.goto 4, 3) := by decide +kernel
theorem dX1_accepts_81 : decode cX1_accepts 81 = .ok (.iconst 0, 1) := by decide +kernel
theorem dX1_accepts_82 : decode cX1_accepts 82 = .ok (.ireturn, 1) := by decide +kernel
theorem dX1_placeOfValue_0 : decode cX1_placeOfValue 0 = .ok (.iconst 0, 1) := by decide +kernel
theorem dX1_placeOfValue_1 : decode cX1_placeOfValue 1 = .ok (.istore_n 2, 1) := by decide +kernel
theorem dX1_placeOfValue_2 : decode cX1_placeOfValue 2 = .ok (.iconst 0, 1) := by decide +kernel
theorem dX1_placeOfValue_3 : decode cX1_placeOfValue 3 = .ok (.istore_n 3, 1) := by decide +kernel
theorem dX1_placeOfValue_4 : decode cX1_placeOfValue 4 = .ok (.iload_n 3, 1) := by decide +kernel
theorem dX1_placeOfValue_5 : decode cX1_placeOfValue 5 = .ok (.aload_n 0, 1) := by decide +kernel
theorem dX1_placeOfValue_6 : decode cX1_placeOfValue 6 = .ok (.getfield 52, 3) := by decide +kernel
theorem dX1_placeOfValue_9 : decode cX1_placeOfValue 9 = .ok (.invokevirtual 56, 3) := by decide +kernel
theorem dX1_placeOfValue_12 : decode cX1_placeOfValue 12 = .ok (.if_icmp .ge 33, 3) := by decide +kernel
theorem dX1_placeOfValue_15 : decode cX1_placeOfValue 15 = .ok (.aload_n 0, 1) := by decide +kernel
theorem dX1_placeOfValue_16 : decode cX1_placeOfValue 16 = .ok (.getfield 52, 3) := by decide +kernel
theorem dX1_placeOfValue_19 : decode cX1_placeOfValue 19 = .ok (.iload_n 3, 1) := by decide +kernel
theorem dX1_placeOfValue_20 : decode cX1_placeOfValue 20 = .ok (.invokevirtual 62, 3) := by decide +kernel
theorem dX1_placeOfValue_23 : decode cX1_placeOfValue 23 = .ok (.invokestatic 73, 3) := by decide +kernel
theorem dX1_placeOfValue_26 : decode cX1_placeOfValue 26 = .ok (.ifCond .eq 13, 3) := by decide +kernel
theorem dX1_placeOfValue_29 : decode cX1_placeOfValue 29 = .ok (.iload_n 2, 1) := by decide +kernel
theorem dX1_placeOfValue_30 : decode cX1_placeOfValue 30 = .ok (.iload_n 1, 1) := by decide +kernel
theorem dX1_placeOfValue_31 : decode cX1_placeOfValue 31 = .ok (.if_icmp .ne 5, 3) := by decide +kernel
theorem dX1_placeOfValue_34 : decode cX1_placeOfValue 34 = .ok (.iload_n 3, 1) := by decide +kernel
theorem dX1_placeOfValue_35 : decode cX1_placeOfValue 35 = .ok (.ireturn, 1) := by decide +kernel
theorem dX1_placeOfValue_36 : decode cX1_placeOfValue 36 = .ok (.iinc 2 1, 3) := by decide +kernel
theorem dX1_placeOfValue_39 : decode cX1_placeOfValue 39 = .ok (.iinc 3 1, 3) := by decide +kernel
theorem dX1_placeOfValue_42 : decode cX1_placeOfValue 42 = .ok (.goto (-38), 3) := by decide +kernel
theorem dX1_placeOfValue_45 : decode cX1_placeOfValue 45 = .ok (.iconst (-1), 1) := by decide +kernel
theorem dX1_placeOfValue_46 : decode cX1_placeOfValue 46 = .ok (.ireturn, 1) := by decide +kernel
theorem dX1_isValue_0 : decode cX1_isValue 0 = .ok (.iload_n 0, 1) := by decide +kernel
theorem dX1_isValue_1 : decode cX1_isValue 1 = .ok (.bipush 78, 2) := by decide +kernel
theorem dX1_isValue_3 : decode cX1_isValue 3 = .ok (.if_icmp .eq 15, 3) := by decide +kernel
theorem dX1_isValue_6 : decode cX1_isValue 6 = .ok (.iload_n 0, 1) := by decide +kernel
theorem dX1_isValue_7 : decode cX1_isValue 7 = .ok (.bipush 75, 2) := by decide +kernel
theorem dX1_isValue_9 : decode cX1_isValue 9 = .ok (.if_icmp .eq 9, 3) := by decide +kernel
theorem dX1_isValue_12 : decode cX1_isValue 12 = .ok (.iload_n 0, 1) := by decide +kernel
theorem dX1_isValue_13 : decode cX1_isValue 13 = .ok (.bipush 67, 2) := by decide +kernel
theorem dX1_isValue_15 : decode cX1_isValue 15 = .ok (.if_icmp .ne 7, 3) := by decide +kernel
theorem dX1_isValue_18 : decode cX1_isValue 18 = .ok (.iconst 1, 1) := by decide +kernel
theorem dX1_isValue_19 : decode cX1_isValue 19 = .ok (.goto 4, 3) := by decide +kernel
theorem dX1_isValue_22 : decode cX1_isValue 22 = .ok (.iconst 0, 1) := by decide +kernel
theorem dX1_isValue_23 : decode cX1_isValue 23 = .ok (.ireturn, 1) := by decide +kernel
theorem dX2_init_0 : decode cX2_init 0 = .ok (.aload_n 0, 1) := by decide +kernel
theorem dX2_init_1 : decode cX2_init 1 = .ok (.invokespecial 3, 3) := by decide +kernel
theorem dX2_init_4 : decode cX2_init 4 = .ok (.aload_n 0, 1) := by decide +kernel
theorem dX2_init_5 : decode cX2_init 5 = .ok (.bipush 9, 2) := by decide +kernel
theorem dX2_init_7 : decode cX2_init 7 = .ok (.newarray .int, 2) := by decide +kernel
theorem dX2_init_9 : decode cX2_init 9 = .ok (.putfield 9, 3) := by decide +kernel
theorem dX2_init_12 : decode cX2_init 12 = .ok (.return_, 1) := by decide +kernel
theorem dX2_cellsConnectedTo_0 : decode cX2_cellsConnectedTo 0 = .ok (.iconst 1, 1) := by decide +kernel
theorem dX2_cellsConnectedTo_1 : decode cX2_cellsConnectedTo 1 = .ok (.iload_n 1, 1) := by decide +kernel
theorem dX2_cellsConnectedTo_2 : decode cX2_cellsConnectedTo 2 = .ok (.ishl, 1) := by decide +kernel
theorem dX2_cellsConnectedTo_3 : decode cX2_cellsConnectedTo 3 = .ok (.istore_n 2, 1) := by decide +kernel
theorem dX2_cellsConnectedTo_4 : decode cX2_cellsConnectedTo 4 = .ok (.iconst 1, 1) := by decide +kernel
theorem dX2_cellsConnectedTo_5 : decode cX2_cellsConnectedTo 5 = .ok (.istore_n 3, 1) := by decide +kernel
theorem dX2_cellsConnectedTo_6 : decode cX2_cellsConnectedTo 6 = .ok (.iload_n 3, 1) := by decide +kernel
theorem dX2_cellsConnectedTo_7 : decode cX2_cellsConnectedTo 7 = .ok (.bipush 9, 2) := by decide +kernel
theorem dX2_cellsConnectedTo_9 : decode cX2_cellsConnectedTo 9 = .ok (.if_icmp .ge 15, 3) := by decide +kernel
theorem dX2_cellsConnectedTo_12 : decode cX2_cellsConnectedTo 12 = .ok (.aload_n 0, 1) := by decide +kernel
theorem dX2_cellsConnectedTo_13 : decode cX2_cellsConnectedTo 13 = .ok (.iload_n 2, 1) := by decide +kernel
theorem dX2_cellsConnectedTo_14 : decode cX2_cellsConnectedTo 14 = .ok (.invokestatic 15, 3) := by decide +kernel
theorem dX2_cellsConnectedTo_17 : decode cX2_cellsConnectedTo 17 = .ok (.istore_n 2, 1) := by decide +kernel
theorem dX2_cellsConnectedTo_18 : decode cX2_cellsConnectedTo 18 = .ok (.iinc 3 1, 3) := by decide +kernel
theorem dX2_cellsConnectedTo_21 : decode cX2_cellsConnectedTo 21 = .ok (.goto (-15), 3) := by decide +kernel
theorem dX2_cellsConnectedTo_24 : decode cX2_cellsConnectedTo 24 = .ok (.iload_n 2, 1) := by decide +kernel
theorem dX2_cellsConnectedTo_25 : decode cX2_cellsConnectedTo 25 = .ok (.ireturn, 1) := by decide +kernel
theorem dX2_withNeighbours_0 : decode cX2_withNeighbours 0 = .ok (.iload_n 1, 1) := by decide +kernel
theorem dX2_withNeighbours_1 : decode cX2_withNeighbours 1 = .ok (.istore_n 2, 1) := by decide +kernel
theorem dX2_withNeighbours_2 : decode cX2_withNeighbours 2 = .ok (.iconst 0, 1) := by decide +kernel
theorem dX2_withNeighbours_3 : decode cX2_withNeighbours 3 = .ok (.istore_n 3, 1) := by decide +kernel
theorem dX2_withNeighbours_4 : decode cX2_withNeighbours 4 = .ok (.iload_n 3, 1) := by decide +kernel
theorem dX2_withNeighbours_5 : decode cX2_withNeighbours 5 = .ok (.bipush 9, 2) := by decide +kernel
theorem dX2_withNeighbours_7 : decode cX2_withNeighbours 7 = .ok (.if_icmp .ge 53, 3) := by decide +kernel
theorem dX2_withNeighbours_10 : decode cX2_withNeighbours 10 = .ok (.iconst 0, 1) := by decide +kernel
theorem dX2_withNeighbours_11 : decode cX2_withNeighbours 11 = .ok (.istore 4, 2) := by decide +kernel
theorem dX2_withNeighbours_13 : decode cX2_withNeighbours 13 = .ok (.iload 4, 2) := by decide +kernel
theorem dX2_withNeighbours_15 : decode cX2_withNeighbours 15 = .ok (.iconst 4, 1) := by decide +kernel
theorem dX2_withNeighbours_16 : decode cX2_withNeighbours 16 = .ok (.if_icmp .ge 38, 3) := by decide +kernel
theorem dX2_withNeighbours_19 : decode cX2_withNeighbours 19 = .ok (.iload_n 1, 1) := by decide +kernel
theorem dX2_withNeighbours_20 : decode cX2_withNeighbours 20 = .ok (.iload_n 3, 1) := by decide +kernel
theorem dX2_withNeighbours_21 : decode cX2_withNeighbours 21 = .ok (.invokestatic 19, 3) := by decide +kernel
theorem dX2_withNeighbours_24 : decode cX2_withNeighbours 24 = .ok (.ifCond .eq 24, 3) := by decide +kernel
theorem dX2_withNeighbours_27 : decode cX2_withNeighbours 27 = .ok (.aload_n 0, 1) := by decide +kernel
theorem dX2_withNeighbours_28 : decode cX2_withNeighbours 28 = .ok (.iload_n 3, 1) := by decide +kernel
theorem dX2_withNeighbours_29 : decode cX2_withNeighbours 29 = .ok (.iload 4, 2) := by decide +kernel
theorem dX2_withNeighbours_31 : decode cX2_withNeighbours 31 = .ok (.invokevirtual 23, 3) := by decide +kernel
theorem dX2_withNeighbours_34 : decode cX2_withNeighbours 34 = .ok (.ifCond .eq 14, 3) := by decide +kernel
theorem dX2_withNeighbours_37 : decode cX2_withNeighbours 37 = .ok (.iload_n 2, 1) := by decide +kernel
theorem dX2_withNeighbours_38 : decode cX2_withNeighbours 38 = .ok (.iconst 1, 1) := by decide +kernel
theorem dX2_withNeighbours_39 : decode cX2_withNeighbours 39 = .ok (.iload_n 3, 1) := by decide +kernel
theorem dX2_withNeighbours_40 : decode cX2_withNeighbours 40 = .ok (.iload 4, 2) := by decide +kernel
theorem dX2_withNeighbours_42 : decode cX2_withNeighbours 42 = .ok (.invokestatic 28, 3) := by decide +kernel
theorem dX2_withNeighbours_45 : decode cX2_withNeighbours 45 = .ok (.ishl, 1) := by decide +kernel
theorem dX2_withNeighbours_46 : decode cX2_withNeighbours 46 = .ok (.ior, 1) := by decide +kernel
theorem dX2_withNeighbours_47 : decode cX2_withNeighbours 47 = .ok (.istore_n 2, 1) := by decide +kernel
theorem dX2_withNeighbours_48 : decode cX2_withNeighbours 48 = .ok (.iinc 4 1, 3) := by decide +kernel
theorem dX2_withNeighbours_51 : decode cX2_withNeighbours 51 = .ok (.goto (-38), 3) := by decide +kernel
theorem dX2_withNeighbours_54 : decode cX2_withNeighbours 54 = .ok (.iinc 3 1, 3) := by decide +kernel
theorem dX2_withNeighbours_57 : decode cX2_withNeighbours 57 = .ok (.goto (-53), 3) := by decide +kernel
theorem dX2_withNeighbours_60 : decode cX2_withNeighbours 60 = .ok (.iload_n 2, 1) := by decide +kernel
theorem dX2_withNeighbours_61 : decode cX2_withNeighbours 61 = .ok (.ireturn, 1) := by decide +kernel
theorem dX2_contains_0 : decode cX2_contains 0 = .ok (.iload_n 0, 1) := by decide +kernel
theorem dX2_contains_1 : decode cX2_contains 1 = .ok (.iload_n 1, 1) := by decide +kernel
theorem dX2_contains_2 : decode cX2_contains 2 = .ok (.ishr, 1) := by decide +kernel
theorem dX2_contains_3 : decode cX2_contains 3 = .ok (.iconst 1, 1) := by decide +kernel
theorem dX2_contains_4 : decode cX2_contains 4 = .ok (.iand, 1) := by decide +kernel
theorem dX2_contains_5 : decode cX2_contains 5 = .ok (.iconst 1, 1) := by decide +kernel
theorem dX2_contains_6 : decode cX2_contains 6 = .ok (.if_icmp .ne 7, 3) := by decide +kernel
theorem dX2_contains_9 : decode cX2_contains 9 = .ok (.iconst 1, 1) := by decide +kernel
theorem dX2_contains_10 : decode cX2_contains 10 = .ok (.goto 4, 3) := by decide +kernel
theorem dX2_contains_13 : decode cX2_contains 13 = .ok (.iconst 0, 1) := by decide +kernel
theorem dX2_contains_14 : decode cX2_contains 14 = .ok (.ireturn, 1) := by decide +kernel
theorem dX2_countByFilling_0 : decode cX2_countByFilling 0 = .ok (.iconst 0, 1) := by decide +kernel
theorem dX2_countByFilling_1 : decode cX2_countByFilling 1 = .ok (.istore_n 1, 1) := by decide +kernel
theorem dX2_countByFilling_2 : decode cX2_countByFilling 2 = .ok (.iconst 0, 1) := by decide +kernel
theorem dX2_countByFilling_3 : decode cX2_countByFilling 3 = .ok (.istore_n 2, 1) := by decide +kernel
theorem dX2_countByFilling_4 : decode cX2_countByFilling 4 = .ok (.iconst 0, 1) := by decide +kernel
theorem dX2_countByFilling_5 : decode cX2_countByFilling 5 = .ok (.istore_n 3, 1) := by decide +kernel
theorem dX2_countByFilling_6 : decode cX2_countByFilling 6 = .ok (.iload_n 3, 1) := by decide +kernel
theorem dX2_countByFilling_7 : decode cX2_countByFilling 7 = .ok (.bipush 9, 2) := by decide +kernel
theorem dX2_countByFilling_9 : decode cX2_countByFilling 9 = .ok (.if_icmp .ge 36, 3) := by decide +kernel
theorem dX2_countByFilling_12 : decode cX2_countByFilling 12 = .ok (.aload_n 0, 1) := by decide +kernel
theorem dX2_countByFilling_13 : decode cX2_countByFilling 13 = .ok (.iload_n 3, 1) := by decide +kernel
theorem dX2_countByFilling_14 : decode cX2_countByFilling 14 = .ok (.invokevirtual 32, 3) := by decide +kernel
theorem dX2_countByFilling_17 : decode cX2_countByFilling 17 = .ok (.ifCond .eq 22, 3) := by decide +kernel
theorem dX2_countByFilling_20 : decode cX2_countByFilling 20 = .ok (.iload_n 1, 1) := by decide +kernel
theorem dX2_countByFilling_21 : decode cX2_countByFilling 21 = .ok (.iload_n 3, 1) := by decide +kernel
theorem dX2_countByFilling_22 : decode cX2_countByFilling 22 = .ok (.invokestatic 19, 3) := by decide +kernel
theorem dX2_countByFilling_25 : decode cX2_countByFilling 25 = .ok (.ifCond .ne 14, 3) := by decide +kernel
theorem dX2_countByFilling_28 : decode cX2_countByFilling 28 = .ok (.iload_n 1, 1) := by decide +kernel
theorem dX2_countByFilling_29 : decode cX2_countByFilling 29 = .ok (.aload_n 0, 1) := by decide +kernel
theorem dX2_countByFilling_30 : decode cX2_countByFilling 30 = .ok (.iload_n 3, 1) := by decide +kernel
theorem dX2_countByFilling_31 : decode cX2_countByFilling 31 = .ok (.invokestatic 36, 3) := by decide +kernel
theorem dX2_countByFilling_34 : decode cX2_countByFilling 34 = .ok (.ior, 1) := by decide +kernel
theorem dX2_countByFilling_35 : decode cX2_countByFilling 35 = .ok (.istore_n 1, 1) := by decide +kernel
theorem dX2_countByFilling_36 : decode cX2_countByFilling 36 = .ok (.iinc 2 1, 3) := by decide +kernel
theorem dX2_countByFilling_39 : decode cX2_countByFilling 39 = .ok (.iinc 3 1, 3) := by decide +kernel
theorem dX2_countByFilling_42 : decode cX2_countByFilling 42 = .ok (.goto (-36), 3) := by decide +kernel
theorem dX2_countByFilling_45 : decode cX2_countByFilling 45 = .ok (.iload_n 2, 1) := by decide +kernel
theorem dX2_countByFilling_46 : decode cX2_countByFilling 46 = .ok (.ireturn, 1) := by decide +kernel
theorem dX3_init_0 : decode cX3_init 0 = .ok (.aload_n 0, 1) := by decide +kernel
theorem dX3_init_1 : decode cX3_init 1 = .ok (.invokespecial 3, 3) := by decide +kernel
theorem dX3_init_4 : decode cX3_init 4 = .ok (.aload_n 0, 1) := by decide +kernel
theorem dX3_init_5 : decode cX3_init 5 = .ok (.bipush 9, 2) := by decide +kernel
theorem dX3_init_7 : decode cX3_init 7 = .ok (.anewarray 11, 3) := by decide +kernel
theorem dX3_init_10 : decode cX3_init 10 = .ok (.putfield 13, 3) := by decide +kernel
theorem dX3_init_13 : decode cX3_init 13 = .ok (.iconst 0, 1) := by decide +kernel
theorem dX3_init_14 : decode cX3_init 14 = .ok (.istore_n 1, 1) := by decide +kernel
theorem dX3_init_15 : decode cX3_init 15 = .ok (.iload_n 1, 1) := by decide +kernel
theorem dX3_init_16 : decode cX3_init 16 = .ok (.bipush 9, 2) := by decide +kernel
theorem dX3_init_18 : decode cX3_init 18 = .ok (.if_icmp .ge 22, 3) := by decide +kernel
theorem dX3_init_21 : decode cX3_init 21 = .ok (.aload_n 0, 1) := by decide +kernel
theorem dX3_init_22 : decode cX3_init 22 = .ok (.getfield 13, 3) := by decide +kernel
theorem dX3_init_25 : decode cX3_init 25 = .ok (.iload_n 1, 1) := by decide +kernel
theorem dX3_init_26 : decode cX3_init 26 = .ok (.new 11, 3) := by decide +kernel
theorem dX3_init_29 : decode cX3_init 29 = .ok (.dup, 1) := by decide +kernel
theorem dX3_init_30 : decode cX3_init 30 = .ok (.invokespecial 17, 3) := by decide +kernel
theorem dX3_init_33 : decode cX3_init 33 = .ok (.aastore, 1) := by decide +kernel
theorem dX3_init_34 : decode cX3_init 34 = .ok (.iinc 1 1, 3) := by decide +kernel
theorem dX3_init_37 : decode cX3_init 37 = .ok (.goto (-22), 3) := by decide +kernel
theorem dX3_init_40 : decode cX3_init 40 = .ok (.return_, 1) := by decide +kernel
theorem dX3_prepare_0 : decode cX3_prepare 0 = .ok (.aload_n 0, 1) := by decide +kernel
theorem dX3_prepare_1 : decode cX3_prepare 1 = .ok (.getfield 13, 3) := by decide +kernel
theorem dX3_prepare_4 : decode cX3_prepare 4 = .ok (.aload_n 0, 1) := by decide +kernel
theorem dX3_prepare_5 : decode cX3_prepare 5 = .ok (.getfield 18, 3) := by decide +kernel
theorem dX3_prepare_8 : decode cX3_prepare 8 = .ok (.aaload, 1) := by decide +kernel
theorem dX3_prepare_9 : decode cX3_prepare 9 = .ok (.aload_n 1, 1) := by decide +kernel
theorem dX3_prepare_10 : decode cX3_prepare 10 = .ok (.invokevirtual 22, 3) := by decide +kernel
theorem dX3_prepare_13 : decode cX3_prepare 13 = .ok (.return_, 1) := by decide +kernel
theorem dX3_keepPrepared_0 : decode cX3_keepPrepared 0 = .ok (.aload_n 0, 1) := by decide +kernel
theorem dX3_keepPrepared_1 : decode cX3_keepPrepared 1 = .ok (.aload_n 0, 1) := by decide +kernel
theorem dX3_keepPrepared_2 : decode cX3_keepPrepared 2 = .ok (.getfield 18, 3) := by decide +kernel
theorem dX3_keepPrepared_5 : decode cX3_keepPrepared 5 = .ok (.iconst 1, 1) := by decide +kernel
theorem dX3_keepPrepared_6 : decode cX3_keepPrepared 6 = .ok (.iadd, 1) := by decide +kernel
theorem dX3_keepPrepared_7 : decode cX3_keepPrepared 7 = .ok (.bipush 9, 2) := by decide +kernel
theorem dX3_keepPrepared_9 : decode cX3_keepPrepared 9 = .ok (.irem, 1) := by decide +kernel
theorem dX3_keepPrepared_10 : decode cX3_keepPrepared 10 = .ok (.putfield 18, 3) := by decide +kernel
theorem dX3_keepPrepared_13 : decode cX3_keepPrepared 13 = .ok (.aload_n 0, 1) := by decide +kernel
theorem dX3_keepPrepared_14 : decode cX3_keepPrepared 14 = .ok (.bipush 8, 2) := by decide +kernel
theorem dX3_keepPrepared_16 : decode cX3_keepPrepared 16 = .ok (.aload_n 0, 1) := by decide +kernel
theorem dX3_keepPrepared_17 : decode cX3_keepPrepared 17 = .ok (.getfield 26, 3) := by decide +kernel
theorem dX3_keepPrepared_20 : decode cX3_keepPrepared 20 = .ok (.iconst 1, 1) := by decide +kernel
theorem dX3_keepPrepared_21 : decode cX3_keepPrepared 21 = .ok (.iadd, 1) := by decide +kernel
theorem dX3_keepPrepared_22 : decode cX3_keepPrepared 22 = .ok (.invokestatic 29, 3) := by decide +kernel
theorem dX3_keepPrepared_25 : decode cX3_keepPrepared 25 = .ok (.putfield 26, 3) := by decide +kernel
theorem dX3_keepPrepared_28 : decode cX3_keepPrepared 28 = .ok (.return_, 1) := by decide +kernel
theorem dX3_returnToPrepared_0 : decode cX3_returnToPrepared 0 = .ok (.aload_n 1, 1) := by decide +kernel
theorem dX3_returnToPrepared_1 : decode cX3_returnToPrepared 1 = .ok (.aload_n 0, 1) := by decide +kernel
theorem dX3_returnToPrepared_2 : decode cX3_returnToPrepared 2 = .ok (.getfield 13, 3) := by decide +kernel
theorem dX3_returnToPrepared_5 : decode cX3_returnToPrepared 5 = .ok (.aload_n 0, 1) := by decide +kernel
theorem dX3_returnToPrepared_6 : decode cX3_returnToPrepared 6 = .ok (.getfield 18, 3) := by decide +kernel
theorem dX3_returnToPrepared_9 : decode cX3_returnToPrepared 9 = .ok (.aaload, 1) := by decide +kernel
theorem dX3_returnToPrepared_10 : decode cX3_returnToPrepared 10 = .ok (.invokevirtual 22, 3) := by decide +kernel
theorem dX3_returnToPrepared_13 : decode cX3_returnToPrepared 13 = .ok (.return_, 1) := by decide +kernel
theorem dX3_stepBack_0 : decode cX3_stepBack 0 = .ok (.aload_n 0, 1) := by decide +kernel
theorem dX3_stepBack_1 : decode cX3_stepBack 1 = .ok (.aload_n 0, 1) := by decide +kernel
theorem dX3_stepBack_2 : decode cX3_stepBack 2 = .ok (.getfield 18, 3) := by decide +kernel
theorem dX3_stepBack_5 : decode cX3_stepBack 5 = .ok (.bipush 9, 2) := by decide +kernel
theorem dX3_stepBack_7 : decode cX3_stepBack 7 = .ok (.iadd, 1) := by decide +kernel
theorem dX3_stepBack_8 : decode cX3_stepBack 8 = .ok (.iconst 1, 1) := by decide +kernel
theorem dX3_stepBack_9 : decode cX3_stepBack 9 = .ok (.isub, 1) := by decide +kernel
theorem dX3_stepBack_10 : decode cX3_stepBack 10 = .ok (.bipush 9, 2) := by decide +kernel
theorem dX3_stepBack_12 : decode cX3_stepBack 12 = .ok (.irem, 1) := by decide +kernel
theorem dX3_stepBack_13 : decode cX3_stepBack 13 = .ok (.putfield 18, 3) := by decide +kernel
theorem dX3_stepBack_16 : decode cX3_stepBack 16 = .ok (.aload_n 0, 1) := by decide +kernel
theorem dX3_stepBack_17 : decode cX3_stepBack 17 = .ok (.dup, 1) := by decide +kernel
theorem dX3_stepBack_18 : decode cX3_stepBack 18 = .ok (.getfield 26, 3) := by decide +kernel
theorem dX3_stepBack_21 : decode cX3_stepBack 21 = .ok (.iconst 1, 1) := by decide +kernel
theorem dX3_stepBack_22 : decode cX3_stepBack 22 = .ok (.isub, 1) := by decide +kernel
theorem dX3_stepBack_23 : decode cX3_stepBack 23 = .ok (.putfield 26, 3) := by decide +kernel
theorem dX3_stepBack_26 : decode cX3_stepBack 26 = .ok (.aload_n 1, 1) := by decide +kernel
theorem dX3_stepBack_27 : decode cX3_stepBack 27 = .ok (.aload_n 0, 1) := by decide +kernel
theorem dX3_stepBack_28 : decode cX3_stepBack 28 = .ok (.getfield 13, 3) := by decide +kernel
theorem dX3_stepBack_31 : decode cX3_stepBack 31 = .ok (.aload_n 0, 1) := by decide +kernel
theorem dX3_stepBack_32 : decode cX3_stepBack 32 = .ok (.getfield 18, 3) := by decide +kernel
theorem dX3_stepBack_35 : decode cX3_stepBack 35 = .ok (.aaload, 1) := by decide +kernel
theorem dX3_stepBack_36 : decode cX3_stepBack 36 = .ok (.invokevirtual 22, 3) := by decide +kernel
theorem dX3_stepBack_39 : decode cX3_stepBack 39 = .ok (.return_, 1) := by decide +kernel
theorem dX3_forget_0 : decode cX3_forget 0 = .ok (.aload_n 0, 1) := by decide +kernel
theorem dX3_forget_1 : decode cX3_forget 1 = .ok (.iconst 0, 1) := by decide +kernel
theorem dX3_forget_2 : decode cX3_forget 2 = .ok (.putfield 26, 3) := by decide +kernel
theorem dX3_forget_5 : decode cX3_forget 5 = .ok (.return_, 1) := by decide +kernel
theorem dX4_init_0 : decode cX4_init 0 = .ok (.aload_n 0, 1) := by decide +kernel
theorem dX4_init_1 : decode cX4_init 1 = .ok (.invokespecial 3, 3) := by decide +kernel
theorem dX4_init_4 : decode cX4_init 4 = .ok (.aload_n 0, 1) := by decide +kernel
theorem dX4_init_5 : decode cX4_init 5 = .ok (.bipush 22, 2) := by decide +kernel
theorem dX4_init_7 : decode cX4_init 7 = .ok (.newarray .char, 2) := by decide +kernel
theorem dX4_init_9 : decode cX4_init 9 = .ok (.putfield 9, 3) := by decide +kernel
theorem dX4_init_12 : decode cX4_init 12 = .ok (.return_, 1) := by decide +kernel
theorem dX4_describeTable_0 : decode cX4_describeTable 0 = .ok (.aload_n 0, 1) := by decide +kernel
theorem dX4_describeTable_1 : decode cX4_describeTable 1 = .ok (.iconst 0, 1) := by decide +kernel
theorem dX4_describeTable_2 : decode cX4_describeTable 2 = .ok (.putfield 15, 3) := by decide +kernel
theorem dX4_describeTable_5 : decode cX4_describeTable 5 = .ok (.iconst 0, 1) := by decide +kernel
theorem dX4_describeTable_6 : decode cX4_describeTable 6 = .ok (.istore_n 2, 1) := by decide +kernel
theorem dX4_describeTable_7 : decode cX4_describeTable 7 = .ok (.iload_n 2, 1) := by decide +kernel
theorem dX4_describeTable_8 : decode cX4_describeTable 8 = .ok (.bipush 9, 2) := by decide +kernel
theorem dX4_describeTable_10 : decode cX4_describeTable 10 = .ok (.if_icmp .ge 65, 3) := by decide +kernel
theorem dX4_describeTable_13 : decode cX4_describeTable 13 = .ok (.iload_n 2, 1) := by decide +kernel
theorem dX4_describeTable_14 : decode cX4_describeTable 14 = .ok (.ifCond .le 15, 3) := by decide +kernel
theorem dX4_describeTable_17 : decode cX4_describeTable 17 = .ok (.iload_n 2, 1) := by decide +kernel
theorem dX4_describeTable_18 : decode cX4_describeTable 18 = .ok (.iconst 3, 1) := by decide +kernel
theorem dX4_describeTable_19 : decode cX4_describeTable 19 = .ok (.irem, 1) := by decide +kernel
theorem dX4_describeTable_20 : decode cX4_describeTable 20 = .ok (.ifCond .ne 9, 3) := by decide +kernel
theorem dX4_describeTable_23 : decode cX4_describeTable 23 = .ok (.aload_n 0, 1) := by decide +kernel
theorem dX4_describeTable_24 : decode cX4_describeTable 24 = .ok (.bipush 47, 2) := by decide +kernel
theorem dX4_describeTable_26 : decode cX4_describeTable 26 = .ok (.invokevirtual 19, 3) := by decide +kernel
theorem dX4_describeTable_29 : decode cX4_describeTable 29 = .ok (.aload_n 1, 1) := by decide +kernel
theorem dX4_describeTable_30 : decode cX4_describeTable 30 = .ok (.iload_n 2, 1) := by decide +kernel
theorem dX4_describeTable_31 : decode cX4_describeTable 31 = .ok (.invokevirtual 23, 3) := by decide +kernel
theorem dX4_describeTable_34 : decode cX4_describeTable 34 = .ok (.ifCond .eq 28, 3) := by decide +kernel
theorem dX4_describeTable_37 : decode cX4_describeTable 37 = .ok (.aload_n 0, 1) := by decide +kernel
theorem dX4_describeTable_38 : decode cX4_describeTable 38 = .ok (.aload_n 1, 1) := by decide +kernel
theorem dX4_describeTable_39 : decode cX4_describeTable 39 = .ok (.getfield 29, 3) := by decide +kernel
theorem dX4_describeTable_42 : decode cX4_describeTable 42 = .ok (.iload_n 2, 1) := by decide +kernel
theorem dX4_describeTable_43 : decode cX4_describeTable 43 = .ok (.iaload, 1) := by decide +kernel
theorem dX4_describeTable_44 : decode cX4_describeTable 44 = .ok (.invokevirtual 33, 3) := by decide +kernel
theorem dX4_describeTable_47 : decode cX4_describeTable 47 = .ok (.aload_n 0, 1) := by decide +kernel
theorem dX4_describeTable_48 : decode cX4_describeTable 48 = .ok (.aload_n 1, 1) := by decide +kernel
theorem dX4_describeTable_49 : decode cX4_describeTable 49 = .ok (.iload_n 2, 1) := by decide +kernel
theorem dX4_describeTable_50 : decode cX4_describeTable 50 = .ok (.invokevirtual 37, 3) := by decide +kernel
theorem dX4_describeTable_53 : decode cX4_describeTable 53 = .ok (.getfield 41, 3) := by decide +kernel
theorem dX4_describeTable_56 : decode cX4_describeTable 56 = .ok (.invokevirtual 33, 3) := by decide +kernel
theorem dX4_describeTable_59 : decode cX4_describeTable 59 = .ok (.goto 10, 3) := by decide +kernel
theorem dX4_describeTable_62 : decode cX4_describeTable 62 = .ok (.aload_n 0, 1) := by decide +kernel
theorem dX4_describeTable_63 : decode cX4_describeTable 63 = .ok (.bipush 46, 2) := by decide +kernel
theorem dX4_describeTable_65 : decode cX4_describeTable 65 = .ok (.iconst 2, 1) := by decide +kernel
theorem dX4_describeTable_66 : decode cX4_describeTable 66 = .ok (.invokevirtual 46, 3) := by decide +kernel
theorem dX4_describeTable_69 : decode cX4_describeTable 69 = .ok (.iinc 2 1, 3) := by decide +kernel
theorem dX4_describeTable_72 : decode cX4_describeTable 72 = .ok (.goto (-65), 3) := by decide +kernel
theorem dX4_describeTable_75 : decode cX4_describeTable 75 = .ok (.return_, 1) := by decide +kernel
theorem dX4_describeSheet_0 : decode cX4_describeSheet 0 = .ok (.aload_n 0, 1) := by decide +kernel
theorem dX4_describeSheet_1 : decode cX4_describeSheet 1 = .ok (.iconst 0, 1) := by decide +kernel
theorem dX4_describeSheet_2 : decode cX4_describeSheet 2 = .ok (.putfield 15, 3) := by decide +kernel
theorem dX4_describeSheet_5 : decode cX4_describeSheet 5 = .ok (.aload_n 0, 1) := by decide +kernel
theorem dX4_describeSheet_6 : decode cX4_describeSheet 6 = .ok (.aload_n 1, 1) := by decide +kernel
theorem dX4_describeSheet_7 : decode cX4_describeSheet 7 = .ok (.getfield 50, 3) := by decide +kernel
theorem dX4_describeSheet_10 : decode cX4_describeSheet 10 = .ok (.invokevirtual 19, 3) := by decide +kernel
theorem dX4_describeSheet_13 : decode cX4_describeSheet 13 = .ok (.iconst 0, 1) := by decide +kernel
theorem dX4_describeSheet_14 : decode cX4_describeSheet 14 = .ok (.istore_n 2, 1) := by decide +kernel
theorem dX4_describeSheet_15 : decode cX4_describeSheet 15 = .ok (.iload_n 2, 1) := by decide +kernel
theorem dX4_describeSheet_16 : decode cX4_describeSheet 16 = .ok (.iconst 4, 1) := by decide +kernel
theorem dX4_describeSheet_17 : decode cX4_describeSheet 17 = .ok (.if_icmp .ge 19, 3) := by decide +kernel
theorem dX4_describeSheet_20 : decode cX4_describeSheet 20 = .ok (.aload_n 0, 1) := by decide +kernel
theorem dX4_describeSheet_21 : decode cX4_describeSheet 21 = .ok (.aload_n 1, 1) := by decide +kernel
theorem dX4_describeSheet_22 : decode cX4_describeSheet 22 = .ok (.iload_n 2, 1) := by decide +kernel
theorem dX4_describeSheet_23 : decode cX4_describeSheet 23 = .ok (.iconst 0, 1) := by decide +kernel
theorem dX4_describeSheet_24 : decode cX4_describeSheet 24 = .ok (.invokevirtual 54, 3) := by decide +kernel
theorem dX4_describeSheet_27 : decode cX4_describeSheet 27 = .ok (.invokevirtual 33, 3) := by decide +kernel
theorem dX4_describeSheet_30 : decode cX4_describeSheet 30 = .ok (.iinc 2 1, 3) := by decide +kernel
theorem dX4_describeSheet_33 : decode cX4_describeSheet 33 = .ok (.goto (-18), 3) := by decide +kernel
theorem dX4_describeSheet_36 : decode cX4_describeSheet 36 = .ok (.aload_n 1, 1) := by decide +kernel
theorem dX4_describeSheet_37 : decode cX4_describeSheet 37 = .ok (.getfield 58, 3) := by decide +kernel
theorem dX4_describeSheet_40 : decode cX4_describeSheet 40 = .ok (.ifCond .le 9, 3) := by decide +kernel
theorem dX4_describeSheet_43 : decode cX4_describeSheet 43 = .ok (.aload_n 0, 1) := by decide +kernel
theorem dX4_describeSheet_44 : decode cX4_describeSheet 44 = .ok (.bipush 124, 2) := by decide +kernel
theorem dX4_describeSheet_46 : decode cX4_describeSheet 46 = .ok (.invokevirtual 19, 3) := by decide +kernel
theorem dX4_describeSheet_49 : decode cX4_describeSheet 49 = .ok (.iconst 0, 1) := by decide +kernel
theorem dX4_describeSheet_50 : decode cX4_describeSheet 50 = .ok (.istore_n 2, 1) := by decide +kernel
theorem dX4_describeSheet_51 : decode cX4_describeSheet 51 = .ok (.iload_n 2, 1) := by decide +kernel
theorem dX4_describeSheet_52 : decode cX4_describeSheet 52 = .ok (.aload_n 1, 1) := by decide +kernel
theorem dX4_describeSheet_53 : decode cX4_describeSheet 53 = .ok (.getfield 58, 3) := by decide +kernel
theorem dX4_describeSheet_56 : decode cX4_describeSheet 56 = .ok (.if_icmp .ge 19, 3) := by decide +kernel
theorem dX4_describeSheet_59 : decode cX4_describeSheet 59 = .ok (.aload_n 0, 1) := by decide +kernel
theorem dX4_describeSheet_60 : decode cX4_describeSheet 60 = .ok (.aload_n 1, 1) := by decide +kernel
theorem dX4_describeSheet_61 : decode cX4_describeSheet 61 = .ok (.getfield 61, 3) := by decide +kernel
theorem dX4_describeSheet_64 : decode cX4_describeSheet 64 = .ok (.iload_n 2, 1) := by decide +kernel
theorem dX4_describeSheet_65 : decode cX4_describeSheet 65 = .ok (.caload, 1) := by decide +kernel
theorem dX4_describeSheet_66 : decode cX4_describeSheet 66 = .ok (.invokevirtual 19, 3) := by decide +kernel
theorem dX4_describeSheet_69 : decode cX4_describeSheet 69 = .ok (.iinc 2 1, 3) := by decide +kernel
theorem dX4_describeSheet_72 : decode cX4_describeSheet 72 = .ok (.goto (-21), 3) := by decide +kernel
theorem dX4_describeSheet_75 : decode cX4_describeSheet 75 = .ok (.aload_n 0, 1) := by decide +kernel
theorem dX4_describeSheet_76 : decode cX4_describeSheet 76 = .ok (.bipush 42, 2) := by decide +kernel
theorem dX4_describeSheet_78 : decode cX4_describeSheet 78 = .ok (.aload_n 1, 1) := by decide +kernel
theorem dX4_describeSheet_79 : decode cX4_describeSheet 79 = .ok (.getfield 64, 3) := by decide +kernel
theorem dX4_describeSheet_82 : decode cX4_describeSheet 82 = .ok (.invokevirtual 46, 3) := by decide +kernel
theorem dX4_describeSheet_85 : decode cX4_describeSheet 85 = .ok (.aload_n 0, 1) := by decide +kernel
theorem dX4_describeSheet_86 : decode cX4_describeSheet 86 = .ok (.bipush 35, 2) := by decide +kernel
theorem dX4_describeSheet_88 : decode cX4_describeSheet 88 = .ok (.aload_n 1, 1) := by decide +kernel
theorem dX4_describeSheet_89 : decode cX4_describeSheet 89 = .ok (.getfield 67, 3) := by decide +kernel
theorem dX4_describeSheet_92 : decode cX4_describeSheet 92 = .ok (.ifCond .eq 7, 3) := by decide +kernel
theorem dX4_describeSheet_95 : decode cX4_describeSheet 95 = .ok (.iconst 1, 1) := by decide +kernel
theorem dX4_describeSheet_96 : decode cX4_describeSheet 96 = .ok (.goto 4, 3) := by decide +kernel
theorem dX4_describeSheet_99 : decode cX4_describeSheet 99 = .ok (.iconst 0, 1) := by decide +kernel
theorem dX4_describeSheet_100 : decode cX4_describeSheet 100 = .ok (.invokevirtual 46, 3) := by decide +kernel
theorem dX4_describeSheet_103 : decode cX4_describeSheet 103 = .ok (.return_, 1) := by decide +kernel
theorem dX4_writeDigit_0 : decode cX4_writeDigit 0 = .ok (.aload_n 0, 1) := by decide +kernel
theorem dX4_writeDigit_1 : decode cX4_writeDigit 1 = .ok (.bipush 48, 2) := by decide +kernel
theorem dX4_writeDigit_3 : decode cX4_writeDigit 3 = .ok (.iload_n 1, 1) := by decide +kernel
theorem dX4_writeDigit_4 : decode cX4_writeDigit 4 = .ok (.iadd, 1) := by decide +kernel
theorem dX4_writeDigit_5 : decode cX4_writeDigit 5 = .ok (.i2c, 1) := by decide +kernel
theorem dX4_writeDigit_6 : decode cX4_writeDigit 6 = .ok (.invokevirtual 19, 3) := by decide +kernel
theorem dX4_writeDigit_9 : decode cX4_writeDigit 9 = .ok (.return_, 1) := by decide +kernel
theorem dX4_writeTimes_0 : decode cX4_writeTimes 0 = .ok (.iconst 0, 1) := by decide +kernel
theorem dX4_writeTimes_1 : decode cX4_writeTimes 1 = .ok (.istore_n 3, 1) := by decide +kernel
theorem dX4_writeTimes_2 : decode cX4_writeTimes 2 = .ok (.iload_n 3, 1) := by decide +kernel
theorem dX4_writeTimes_3 : decode cX4_writeTimes 3 = .ok (.iload_n 2, 1) := by decide +kernel
theorem dX4_writeTimes_4 : decode cX4_writeTimes 4 = .ok (.if_icmp .ge 14, 3) := by decide +kernel
theorem dX4_writeTimes_7 : decode cX4_writeTimes 7 = .ok (.aload_n 0, 1) := by decide +kernel
theorem dX4_writeTimes_8 : decode cX4_writeTimes 8 = .ok (.iload_n 1, 1) := by decide +kernel
theorem dX4_writeTimes_9 : decode cX4_writeTimes 9 = .ok (.invokevirtual 19, 3) := by decide +kernel
theorem dX4_writeTimes_12 : decode cX4_writeTimes 12 = .ok (.iinc 3 1, 3) := by decide +kernel
theorem dX4_writeTimes_15 : decode cX4_writeTimes 15 = .ok (.goto (-13), 3) := by decide +kernel
theorem dX4_writeTimes_18 : decode cX4_writeTimes 18 = .ok (.return_, 1) := by decide +kernel
theorem dX4_write_0 : decode cX4_write 0 = .ok (.aload_n 0, 1) := by decide +kernel
theorem dX4_write_1 : decode cX4_write 1 = .ok (.getfield 15, 3) := by decide +kernel
theorem dX4_write_4 : decode cX4_write 4 = .ok (.bipush 22, 2) := by decide +kernel
theorem dX4_write_6 : decode cX4_write 6 = .ok (.if_icmp .ge 23, 3) := by decide +kernel
theorem dX4_write_9 : decode cX4_write 9 = .ok (.aload_n 0, 1) := by decide +kernel
theorem dX4_write_10 : decode cX4_write 10 = .ok (.getfield 9, 3) := by decide +kernel
theorem dX4_write_13 : decode cX4_write 13 = .ok (.aload_n 0, 1) := by decide +kernel
theorem dX4_write_14 : decode cX4_write 14 = .ok (.getfield 15, 3) := by decide +kernel
theorem dX4_write_17 : decode cX4_write 17 = .ok (.iload_n 1, 1) := by decide +kernel
theorem dX4_write_18 : decode cX4_write 18 = .ok (.castore, 1) := by decide +kernel
theorem dX4_write_19 : decode cX4_write 19 = .ok (.aload_n 0, 1) := by decide +kernel
theorem dX4_write_20 : decode cX4_write 20 = .ok (.dup, 1) := by decide +kernel
theorem dX4_write_21 : decode cX4_write 21 = .ok (.getfield 15, 3) := by decide +kernel
theorem dX4_write_24 : decode cX4_write 24 = .ok (.iconst 1, 1) := by decide +kernel
theorem dX4_write_25 : decode cX4_write 25 = .ok (.iadd, 1) := by decide +kernel
theorem dX4_write_26 : decode cX4_write 26 = .ok (.putfield 15, 3) := by decide +kernel
theorem dX4_write_29 : decode cX4_write 29 = .ok (.return_, 1) := by decide +kernel
theorem dX5_inCell_0 : decode cX5_inCell 0 = .ok (.aload_n 0, 1) := by decide +kernel
theorem dX5_inCell_1 : decode cX5_inCell 1 = .ok (.iload_n 1, 1) := by decide +kernel
theorem dX5_inCell_2 : decode cX5_inCell 2 = .ok (.invokevirtual 9, 3) := by decide +kernel
theorem dX5_inCell_5 : decode cX5_inCell 5 = .ok (.getfield 15, 3) := by decide +kernel
theorem dX5_inCell_8 : decode cX5_inCell 8 = .ok (.istore_n 2, 1) := by decide +kernel
theorem dX5_inCell_9 : decode cX5_inCell 9 = .ok (.iload_n 2, 1) := by decide +kernel
theorem dX5_inCell_10 : decode cX5_inCell 10 = .ok (.bipush 115, 2) := by decide +kernel
theorem dX5_inCell_12 : decode cX5_inCell 12 = .ok (.if_icmp .ne 13, 3) := by decide +kernel
theorem dX5_inCell_15 : decode cX5_inCell 15 = .ok (.iconst 1, 1) := by decide +kernel
theorem dX5_inCell_16 : decode cX5_inCell 16 = .ok (.aload_n 0, 1) := by decide +kernel
theorem dX5_inCell_17 : decode cX5_inCell 17 = .ok (.iload_n 1, 1) := by decide +kernel
theorem dX5_inCell_18 : decode cX5_inCell 18 = .ok (.bipush 115, 2) := by decide +kernel
theorem dX5_inCell_20 : decode cX5_inCell 20 = .ok (.invokevirtual 23, 3) := by decide +kernel
theorem dX5_inCell_23 : decode cX5_inCell 23 = .ok (.iadd, 1) := by decide +kernel
theorem dX5_inCell_24 : decode cX5_inCell 24 = .ok (.ireturn, 1) := by decide +kernel
theorem dX5_inCell_25 : decode cX5_inCell 25 = .ok (.iload_n 2, 1) := by decide +kernel
theorem dX5_inCell_26 : decode cX5_inCell 26 = .ok (.bipush 108, 2) := by decide +kernel
theorem dX5_inCell_28 : decode cX5_inCell 28 = .ok (.if_icmp .ne 19, 3) := by decide +kernel
theorem dX5_inCell_31 : decode cX5_inCell 31 = .ok (.iconst 2, 1) := by decide +kernel
theorem dX5_inCell_32 : decode cX5_inCell 32 = .ok (.aload_n 0, 1) := by decide +kernel
theorem dX5_inCell_33 : decode cX5_inCell 33 = .ok (.iload_n 1, 1) := by decide +kernel
theorem dX5_inCell_34 : decode cX5_inCell 34 = .ok (.invokevirtual 27, 3) := by decide +kernel
theorem dX5_inCell_37 : decode cX5_inCell 37 = .ok (.iadd, 1) := by decide +kernel
theorem dX5_inCell_38 : decode cX5_inCell 38 = .ok (.aload_n 0, 1) := by decide +kernel
theorem dX5_inCell_39 : decode cX5_inCell 39 = .ok (.iload_n 1, 1) := by decide +kernel
theorem dX5_inCell_40 : decode cX5_inCell 40 = .ok (.bipush 108, 2) := by decide +kernel
theorem dX5_inCell_42 : decode cX5_inCell 42 = .ok (.invokevirtual 23, 3) := by decide +kernel
theorem dX5_inCell_45 : decode cX5_inCell 45 = .ok (.isub, 1) := by decide +kernel
theorem dX5_inCell_46 : decode cX5_inCell 46 = .ok (.ireturn, 1) := by decide +kernel
theorem dX5_inCell_47 : decode cX5_inCell 47 = .ok (.aload_n 0, 1) := by decide +kernel
theorem dX5_inCell_48 : decode cX5_inCell 48 = .ok (.iload_n 1, 1) := by decide +kernel
theorem dX5_inCell_49 : decode cX5_inCell 49 = .ok (.invokestatic 31, 3) := by decide +kernel
theorem dX5_inCell_52 : decode cX5_inCell 52 = .ok (.ireturn, 1) := by decide +kernel
theorem dX5_sheetBySheet_0 : decode cX5_sheetBySheet 0 = .ok (.iconst 0, 1) := by decide +kernel
theorem dX5_sheetBySheet_1 : decode cX5_sheetBySheet 1 = .ok (.istore_n 1, 1) := by decide +kernel
theorem dX5_sheetBySheet_2 : decode cX5_sheetBySheet 2 = .ok (.iconst 0, 1) := by decide +kernel
theorem dX5_sheetBySheet_3 : decode cX5_sheetBySheet 3 = .ok (.istore_n 2, 1) := by decide +kernel
theorem dX5_sheetBySheet_4 : decode cX5_sheetBySheet 4 = .ok (.iload_n 2, 1) := by decide +kernel
theorem dX5_sheetBySheet_5 : decode cX5_sheetBySheet 5 = .ok (.bipush 9, 2) := by decide +kernel
theorem dX5_sheetBySheet_7 : decode cX5_sheetBySheet 7 = .ok (.if_icmp .ge 25, 3) := by decide +kernel
theorem dX5_sheetBySheet_10 : decode cX5_sheetBySheet 10 = .ok (.aload_n 0, 1) := by decide +kernel
theorem dX5_sheetBySheet_11 : decode cX5_sheetBySheet 11 = .ok (.iload_n 2, 1) := by decide +kernel
theorem dX5_sheetBySheet_12 : decode cX5_sheetBySheet 12 = .ok (.invokevirtual 35, 3) := by decide +kernel
theorem dX5_sheetBySheet_15 : decode cX5_sheetBySheet 15 = .ok (.ifCond .eq 11, 3) := by decide +kernel
theorem dX5_sheetBySheet_18 : decode cX5_sheetBySheet 18 = .ok (.iload_n 1, 1) := by decide +kernel
theorem dX5_sheetBySheet_19 : decode cX5_sheetBySheet 19 = .ok (.aload_n 0, 1) := by decide +kernel
theorem dX5_sheetBySheet_20 : decode cX5_sheetBySheet 20 = .ok (.iload_n 2, 1) := by decide +kernel
theorem dX5_sheetBySheet_21 : decode cX5_sheetBySheet 21 = .ok (.invokestatic 39, 3) := by decide +kernel
theorem dX5_sheetBySheet_24 : decode cX5_sheetBySheet 24 = .ok (.iadd, 1) := by decide +kernel
theorem dX5_sheetBySheet_25 : decode cX5_sheetBySheet 25 = .ok (.istore_n 1, 1) := by decide +kernel
theorem dX5_sheetBySheet_26 : decode cX5_sheetBySheet 26 = .ok (.iinc 2 1, 3) := by decide +kernel
theorem dX5_sheetBySheet_29 : decode cX5_sheetBySheet 29 = .ok (.goto (-25), 3) := by decide +kernel
theorem dX5_sheetBySheet_32 : decode cX5_sheetBySheet 32 = .ok (.iload_n 1, 1) := by decide +kernel
theorem dX5_sheetBySheet_33 : decode cX5_sheetBySheet 33 = .ok (.ireturn, 1) := by decide +kernel
theorem dX5_ofCity_0 : decode cX5_ofCity 0 = .ok (.iconst 0, 1) := by decide +kernel
theorem dX5_ofCity_1 : decode cX5_ofCity 1 = .ok (.bipush 6, 2) := by decide +kernel
theorem dX5_ofCity_3 : decode cX5_ofCity 3 = .ok (.iconst 2, 1) := by decide +kernel
theorem dX5_ofCity_4 : decode cX5_ofCity 4 = .ok (.aload_n 0, 1) := by decide +kernel
theorem dX5_ofCity_5 : decode cX5_ofCity 5 = .ok (.iload_n 1, 1) := by decide +kernel
theorem dX5_ofCity_6 : decode cX5_ofCity 6 = .ok (.bipush 99, 2) := by decide +kernel
theorem dX5_ofCity_8 : decode cX5_ofCity 8 = .ok (.invokevirtual 23, 3) := by decide +kernel
theorem dX5_ofCity_11 : decode cX5_ofCity 11 = .ok (.imul, 1) := by decide +kernel
theorem dX5_ofCity_12 : decode cX5_ofCity 12 = .ok (.isub, 1) := by decide +kernel
theorem dX5_ofCity_13 : decode cX5_ofCity 13 = .ok (.invokestatic 50, 3) := by decide +kernel
theorem dX5_ofCity_16 : decode cX5_ofCity 16 = .ok (.ireturn, 1) := by decide +kernel
theorem dX6_init_0 : decode cX6_init 0 = .ok (.aload_n 0, 1) := by decide +kernel
theorem dX6_init_1 : decode cX6_init 1 = .ok (.invokespecial 3, 3) := by decide +kernel
theorem dX6_init_4 : decode cX6_init 4 = .ok (.aload_n 0, 1) := by decide +kernel
theorem dX6_init_5 : decode cX6_init 5 = .ok (.bipush 60, 2) := by decide +kernel
theorem dX6_init_7 : decode cX6_init 7 = .ok (.newarray .char, 2) := by decide +kernel
theorem dX6_init_9 : decode cX6_init 9 = .ok (.putfield 9, 3) := by decide +kernel
theorem dX6_init_12 : decode cX6_init 12 = .ok (.aload_n 0, 1) := by decide +kernel
theorem dX6_init_13 : decode cX6_init 13 = .ok (.bipush 60, 2) := by decide +kernel
theorem dX6_init_15 : decode cX6_init 15 = .ok (.newarray .int, 2) := by decide +kernel
theorem dX6_init_17 : decode cX6_init 17 = .ok (.putfield 15, 3) := by decide +kernel
theorem dX6_init_20 : decode cX6_init 20 = .ok (.aload_n 0, 1) := by decide +kernel
theorem dX6_init_21 : decode cX6_init 21 = .ok (.bipush 60, 2) := by decide +kernel
theorem dX6_init_23 : decode cX6_init 23 = .ok (.newarray .int, 2) := by decide +kernel
theorem dX6_init_25 : decode cX6_init 25 = .ok (.putfield 19, 3) := by decide +kernel
theorem dX6_init_28 : decode cX6_init 28 = .ok (.return_, 1) := by decide +kernel
theorem dX6_isFull_0 : decode cX6_isFull 0 = .ok (.aload_n 0, 1) := by decide +kernel
theorem dX6_isFull_1 : decode cX6_isFull 1 = .ok (.getfield 22, 3) := by decide +kernel
theorem dX6_isFull_4 : decode cX6_isFull 4 = .ok (.bipush 60, 2) := by decide +kernel
theorem dX6_isFull_6 : decode cX6_isFull 6 = .ok (.if_icmp .lt 7, 3) := by decide +kernel
theorem dX6_isFull_9 : decode cX6_isFull 9 = .ok (.iconst 1, 1) := by decide +kernel
theorem dX6_isFull_10 : decode cX6_isFull 10 = .ok (.goto 4, 3) := by decide +kernel
theorem dX6_isFull_13 : decode cX6_isFull 13 = .ok (.iconst 0, 1) := by decide +kernel
theorem dX6_isFull_14 : decode cX6_isFull 14 = .ok (.ireturn, 1) := by decide +kernel
theorem dX6_append_0 : decode cX6_append 0 = .ok (.aload_n 0, 1) := by decide +kernel
theorem dX6_append_1 : decode cX6_append 1 = .ok (.getfield 9, 3) := by decide +kernel
theorem dX6_append_4 : decode cX6_append 4 = .ok (.aload_n 0, 1) := by decide +kernel
theorem dX6_append_5 : decode cX6_append 5 = .ok (.getfield 22, 3) := by decide +kernel
theorem dX6_append_8 : decode cX6_append 8 = .ok (.iload_n 1, 1) := by decide +kernel
theorem dX6_append_9 : decode cX6_append 9 = .ok (.castore, 1) := by decide +kernel
theorem dX6_append_10 : decode cX6_append 10 = .ok (.aload_n 0, 1) := by decide +kernel
theorem dX6_append_11 : decode cX6_append 11 = .ok (.dup, 1) := by decide +kernel
theorem dX6_append_12 : decode cX6_append 12 = .ok (.getfield 22, 3) := by decide +kernel
theorem dX6_append_15 : decode cX6_append 15 = .ok (.iconst 1, 1) := by decide +kernel
theorem dX6_append_16 : decode cX6_append 16 = .ok (.iadd, 1) := by decide +kernel
theorem dX6_append_17 : decode cX6_append 17 = .ok (.putfield 22, 3) := by decide +kernel
theorem dX6_append_20 : decode cX6_append 20 = .ok (.return_, 1) := by decide +kernel
theorem dX6_empty_0 : decode cX6_empty 0 = .ok (.aload_n 0, 1) := by decide +kernel
theorem dX6_empty_1 : decode cX6_empty 1 = .ok (.iconst 0, 1) := by decide +kernel
theorem dX6_empty_2 : decode cX6_empty 2 = .ok (.putfield 22, 3) := by decide +kernel
theorem dX6_empty_5 : decode cX6_empty 5 = .ok (.return_, 1) := by decide +kernel
theorem dX6_read_0 : decode cX6_read 0 = .ok (.aload_n 0, 1) := by decide +kernel
theorem dX6_read_1 : decode cX6_read 1 = .ok (.iconst 0, 1) := by decide +kernel
theorem dX6_read_2 : decode cX6_read 2 = .ok (.putfield 26, 3) := by decide +kernel
theorem dX6_read_5 : decode cX6_read 5 = .ok (.iconst 0, 1) := by decide +kernel
theorem dX6_read_6 : decode cX6_read 6 = .ok (.istore_n 1, 1) := by decide +kernel
theorem dX6_read_7 : decode cX6_read 7 = .ok (.invokestatic 29, 3) := by decide +kernel
theorem dX6_read_10 : decode cX6_read 10 = .ok (.istore_n 2, 1) := by decide +kernel
theorem dX6_read_11 : decode cX6_read 11 = .ok (.iconst 0, 1) := by decide +kernel
theorem dX6_read_12 : decode cX6_read 12 = .ok (.istore_n 3, 1) := by decide +kernel
theorem dX6_read_13 : decode cX6_read 13 = .ok (.iload_n 3, 1) := by decide +kernel
theorem dX6_read_14 : decode cX6_read 14 = .ok (.aload_n 0, 1) := by decide +kernel
theorem dX6_read_15 : decode cX6_read 15 = .ok (.getfield 22, 3) := by decide +kernel
theorem dX6_read_18 : decode cX6_read 18 = .ok (.if_icmp .ge 63, 3) := by decide +kernel
theorem dX6_read_21 : decode cX6_read 21 = .ok (.aload_n 0, 1) := by decide +kernel
theorem dX6_read_22 : decode cX6_read 22 = .ok (.getfield 9, 3) := by decide +kernel
theorem dX6_read_25 : decode cX6_read 25 = .ok (.iload_n 3, 1) := by decide +kernel
theorem dX6_read_26 : decode cX6_read 26 = .ok (.caload, 1) := by decide +kernel
theorem dX6_read_27 : decode cX6_read 27 = .ok (.bipush 59, 2) := by decide +kernel
theorem dX6_read_29 : decode cX6_read 29 = .ok (.if_icmp .ne 26, 3) := by decide +kernel
theorem dX6_read_32 : decode cX6_read 32 = .ok (.aload_n 0, 1) := by decide +kernel
theorem dX6_read_33 : decode cX6_read 33 = .ok (.iload_n 2, 1) := by decide +kernel
theorem dX6_read_34 : decode cX6_read 34 = .ok (.iload_n 1, 1) := by decide +kernel
theorem dX6_read_35 : decode cX6_read 35 = .ok (.iload_n 3, 1) := by decide +kernel
theorem dX6_read_36 : decode cX6_read 36 = .ok (.invokevirtual 33, 3) := by decide +kernel
theorem dX6_read_39 : decode cX6_read 39 = .ok (.ifCond .ne 5, 3) := by decide +kernel
theorem dX6_read_42 : decode cX6_read 42 = .ok (.iload_n 3, 1) := by decide +kernel
theorem dX6_read_43 : decode cX6_read 43 = .ok (.ireturn, 1) := by decide +kernel
theorem dX6_read_44 : decode cX6_read 44 = .ok (.iload_n 3, 1) := by decide +kernel
theorem dX6_read_45 : decode cX6_read 45 = .ok (.iconst 1, 1) := by decide +kernel
theorem dX6_read_46 : decode cX6_read 46 = .ok (.iadd, 1) := by decide +kernel
theorem dX6_read_47 : decode cX6_read 47 = .ok (.istore_n 1, 1) := by decide +kernel
theorem dX6_read_48 : decode cX6_read 48 = .ok (.invokestatic 29, 3) := by decide +kernel
theorem dX6_read_51 : decode cX6_read 51 = .ok (.istore_n 2, 1) := by decide +kernel
theorem dX6_read_52 : decode cX6_read 52 = .ok (.goto 23, 3) := by decide +kernel
theorem dX6_read_55 : decode cX6_read 55 = .ok (.iload_n 2, 1) := by decide +kernel
theorem dX6_read_56 : decode cX6_read 56 = .ok (.aload_n 0, 1) := by decide +kernel
theorem dX6_read_57 : decode cX6_read 57 = .ok (.getfield 9, 3) := by decide +kernel
theorem dX6_read_60 : decode cX6_read 60 = .ok (.iload_n 3, 1) := by decide +kernel
theorem dX6_read_61 : decode cX6_read 61 = .ok (.caload, 1) := by decide +kernel
theorem dX6_read_62 : decode cX6_read 62 = .ok (.iload_n 3, 1) := by decide +kernel
theorem dX6_read_63 : decode cX6_read 63 = .ok (.iload_n 1, 1) := by decide +kernel
theorem dX6_read_64 : decode cX6_read 64 = .ok (.isub, 1) := by decide +kernel
theorem dX6_read_65 : decode cX6_read 65 = .ok (.invokestatic 37, 3) := by decide +kernel
theorem dX6_read_68 : decode cX6_read 68 = .ok (.istore_n 2, 1) := by decide +kernel
theorem dX6_read_69 : decode cX6_read 69 = .ok (.iload_n 2, 1) := by decide +kernel
theorem dX6_read_70 : decode cX6_read 70 = .ok (.ifCond .ne 5, 3) := by decide +kernel
theorem dX6_read_73 : decode cX6_read 73 = .ok (.iload_n 3, 1) := by decide +kernel
theorem dX6_read_74 : decode cX6_read 74 = .ok (.ireturn, 1) := by decide +kernel
theorem dX6_read_75 : decode cX6_read 75 = .ok (.iinc 3 1, 3) := by decide +kernel
theorem dX6_read_78 : decode cX6_read 78 = .ok (.goto (-65), 3) := by decide +kernel
theorem dX6_read_81 : decode cX6_read 81 = .ok (.aload_n 0, 1) := by decide +kernel
theorem dX6_read_82 : decode cX6_read 82 = .ok (.iload_n 2, 1) := by decide +kernel
theorem dX6_read_83 : decode cX6_read 83 = .ok (.iload_n 1, 1) := by decide +kernel
theorem dX6_read_84 : decode cX6_read 84 = .ok (.aload_n 0, 1) := by decide +kernel
theorem dX6_read_85 : decode cX6_read 85 = .ok (.getfield 22, 3) := by decide +kernel
theorem dX6_read_88 : decode cX6_read 88 = .ok (.invokevirtual 33, 3) := by decide +kernel
theorem dX6_read_91 : decode cX6_read 91 = .ok (.ifCond .eq 7, 3) := by decide +kernel
theorem dX6_read_94 : decode cX6_read 94 = .ok (.iconst (-1), 1) := by decide +kernel
theorem dX6_read_95 : decode cX6_read 95 = .ok (.goto 7, 3) := by decide +kernel
theorem dX6_read_98 : decode cX6_read 98 = .ok (.aload_n 0, 1) := by decide +kernel
theorem dX6_read_99 : decode cX6_read 99 = .ok (.getfield 22, 3) := by decide +kernel
theorem dX6_read_102 : decode cX6_read 102 = .ok (.ireturn, 1) := by decide +kernel
theorem dX6_allForms_0 : decode cX6_allForms 0 = .ok (.iconst 1, 1) := by decide +kernel
theorem dX6_allForms_1 : decode cX6_allForms 1 = .ok (.getstatic 41, 3) := by decide +kernel
theorem dX6_allForms_4 : decode cX6_allForms 4 = .ok (.arraylength, 1) := by decide +kernel
theorem dX6_allForms_5 : decode cX6_allForms 5 = .ok (.ishl, 1) := by decide +kernel
theorem dX6_allForms_6 : decode cX6_allForms 6 = .ok (.iconst 1, 1) := by decide +kernel
theorem dX6_allForms_7 : decode cX6_allForms 7 = .ok (.isub, 1) := by decide +kernel
theorem dX6_allForms_8 : decode cX6_allForms 8 = .ok (.ireturn, 1) := by decide +kernel
theorem dX6_stillAlive_0 : decode cX6_stillAlive 0 = .ok (.iconst 0, 1) := by decide +kernel
theorem dX6_stillAlive_1 : decode cX6_stillAlive 1 = .ok (.istore_n 3, 1) := by decide +kernel
theorem dX6_stillAlive_2 : decode cX6_stillAlive 2 = .ok (.iconst 0, 1) := by decide +kernel
theorem dX6_stillAlive_3 : decode cX6_stillAlive 3 = .ok (.istore 4, 2) := by decide +kernel
theorem dX6_stillAlive_5 : decode cX6_stillAlive 5 = .ok (.iload 4, 2) := by decide +kernel
theorem dX6_stillAlive_7 : decode cX6_stillAlive 7 = .ok (.getstatic 41, 3) := by decide +kernel
theorem dX6_stillAlive_10 : decode cX6_stillAlive 10 = .ok (.arraylength, 1) := by decide +kernel
theorem dX6_stillAlive_11 : decode cX6_stillAlive 11 = .ok (.if_icmp .ge 40, 3) := by decide +kernel
theorem dX6_stillAlive_14 : decode cX6_stillAlive 14 = .ok (.iload_n 0, 1) := by decide +kernel
theorem dX6_stillAlive_15 : decode cX6_stillAlive 15 = .ok (.iload 4, 2) := by decide +kernel
theorem dX6_stillAlive_17 : decode cX6_stillAlive 17 = .ok (.ishr, 1) := by decide +kernel
theorem dX6_stillAlive_18 : decode cX6_stillAlive 18 = .ok (.iconst 1, 1) := by decide +kernel
theorem dX6_stillAlive_19 : decode cX6_stillAlive 19 = .ok (.iand, 1) := by decide +kernel
theorem dX6_stillAlive_20 : decode cX6_stillAlive 20 = .ok (.iconst 1, 1) := by decide +kernel
theorem dX6_stillAlive_21 : decode cX6_stillAlive 21 = .ok (.if_icmp .ne 24, 3) := by decide +kernel
theorem dX6_stillAlive_24 : decode cX6_stillAlive 24 = .ok (.getstatic 41, 3) := by decide +kernel
theorem dX6_stillAlive_27 : decode cX6_stillAlive 27 = .ok (.iload 4, 2) := by decide +kernel
theorem dX6_stillAlive_29 : decode cX6_stillAlive 29 = .ok (.aaload, 1) := by decide +kernel
theorem dX6_stillAlive_30 : decode cX6_stillAlive 30 = .ok (.iload_n 1, 1) := by decide +kernel
theorem dX6_stillAlive_31 : decode cX6_stillAlive 31 = .ok (.iload_n 2, 1) := by decide +kernel
theorem dX6_stillAlive_32 : decode cX6_stillAlive 32 = .ok (.invokevirtual 45, 3) := by decide +kernel
theorem dX6_stillAlive_35 : decode cX6_stillAlive 35 = .ok (.ifCond .eq 10, 3) := by decide +kernel
theorem dX6_stillAlive_38 : decode cX6_stillAlive 38 = .ok (.iload_n 3, 1) := by decide +kernel
theorem dX6_stillAlive_39 : decode cX6_stillAlive 39 = .ok (.iconst 1, 1) := by decide +kernel
theorem dX6_stillAlive_40 : decode cX6_stillAlive 40 = .ok (.iload 4, 2) := by decide +kernel
theorem dX6_stillAlive_42 : decode cX6_stillAlive 42 = .ok (.ishl, 1) := by decide +kernel
theorem dX6_stillAlive_43 : decode cX6_stillAlive 43 = .ok (.ior, 1) := by decide +kernel
theorem dX6_stillAlive_44 : decode cX6_stillAlive 44 = .ok (.istore_n 3, 1) := by decide +kernel
theorem dX6_stillAlive_45 : decode cX6_stillAlive 45 = .ok (.iinc 4 1, 3) := by decide +kernel
theorem dX6_stillAlive_48 : decode cX6_stillAlive 48 = .ok (.goto (-43), 3) := by decide +kernel
theorem dX6_stillAlive_51 : decode cX6_stillAlive 51 = .ok (.iload_n 3, 1) := by decide +kernel
theorem dX6_stillAlive_52 : decode cX6_stillAlive 52 = .ok (.ireturn, 1) := by decide +kernel
theorem dX6_noteCommand_0 : decode cX6_noteCommand 0 = .ok (.iconst 0, 1) := by decide +kernel
theorem dX6_noteCommand_1 : decode cX6_noteCommand 1 = .ok (.istore 4, 2) := by decide +kernel
theorem dX6_noteCommand_3 : decode cX6_noteCommand 3 = .ok (.iload 4, 2) := by decide +kernel
theorem dX6_noteCommand_5 : decode cX6_noteCommand 5 = .ok (.getstatic 41, 3) := by decide +kernel
theorem dX6_noteCommand_8 : decode cX6_noteCommand 8 = .ok (.arraylength, 1) := by decide +kernel
theorem dX6_noteCommand_9 : decode cX6_noteCommand 9 = .ok (.if_icmp .ge 67, 3) := by decide +kernel
theorem dX6_noteCommand_12 : decode cX6_noteCommand 12 = .ok (.iload_n 1, 1) := by decide +kernel
theorem dX6_noteCommand_13 : decode cX6_noteCommand 13 = .ok (.iload 4, 2) := by decide +kernel
theorem dX6_noteCommand_15 : decode cX6_noteCommand 15 = .ok (.ishr, 1) := by decide +kernel
theorem dX6_noteCommand_16 : decode cX6_noteCommand 16 = .ok (.iconst 1, 1) := by decide +kernel
theorem dX6_noteCommand_17 : decode cX6_noteCommand 17 = .ok (.iand, 1) := by decide +kernel
theorem dX6_noteCommand_18 : decode cX6_noteCommand 18 = .ok (.iconst 1, 1) := by decide +kernel
theorem dX6_noteCommand_19 : decode cX6_noteCommand 19 = .ok (.if_icmp .ne 51, 3) := by decide +kernel
theorem dX6_noteCommand_22 : decode cX6_noteCommand 22 = .ok (.getstatic 41, 3) := by decide +kernel
theorem dX6_noteCommand_25 : decode cX6_noteCommand 25 = .ok (.iload 4, 2) := by decide +kernel
theorem dX6_noteCommand_27 : decode cX6_noteCommand 27 = .ok (.aaload, 1) := by decide +kernel
theorem dX6_noteCommand_28 : decode cX6_noteCommand 28 = .ok (.invokevirtual 51, 3) := by decide +kernel
theorem dX6_noteCommand_31 : decode cX6_noteCommand 31 = .ok (.iload_n 3, 1) := by decide +kernel
theorem dX6_noteCommand_32 : decode cX6_noteCommand 32 = .ok (.iload_n 2, 1) := by decide +kernel
theorem dX6_noteCommand_33 : decode cX6_noteCommand 33 = .ok (.isub, 1) := by decide +kernel
theorem dX6_noteCommand_34 : decode cX6_noteCommand 34 = .ok (.if_icmp .ne 36, 3) := by decide +kernel
theorem dX6_noteCommand_37 : decode cX6_noteCommand 37 = .ok (.aload_n 0, 1) := by decide +kernel
theorem dX6_noteCommand_38 : decode cX6_noteCommand 38 = .ok (.getfield 15, 3) := by decide +kernel
theorem dX6_noteCommand_41 : decode cX6_noteCommand 41 = .ok (.aload_n 0, 1) := by decide +kernel
theorem dX6_noteCommand_42 : decode cX6_noteCommand 42 = .ok (.getfield 26, 3) := by decide +kernel
theorem dX6_noteCommand_45 : decode cX6_noteCommand 45 = .ok (.iload_n 2, 1) := by decide +kernel
theorem dX6_noteCommand_46 : decode cX6_noteCommand 46 = .ok (.iastore, 1) := by decide +kernel
theorem dX6_noteCommand_47 : decode cX6_noteCommand 47 = .ok (.aload_n 0, 1) := by decide +kernel
theorem dX6_noteCommand_48 : decode cX6_noteCommand 48 = .ok (.getfield 19, 3) := by decide +kernel
theorem dX6_noteCommand_51 : decode cX6_noteCommand 51 = .ok (.aload_n 0, 1) := by decide +kernel
theorem dX6_noteCommand_52 : decode cX6_noteCommand 52 = .ok (.getfield 26, 3) := by decide +kernel
theorem dX6_noteCommand_55 : decode cX6_noteCommand 55 = .ok (.iload 4, 2) := by decide +kernel
theorem dX6_noteCommand_57 : decode cX6_noteCommand 57 = .ok (.iastore, 1) := by decide +kernel
theorem dX6_noteCommand_58 : decode cX6_noteCommand 58 = .ok (.aload_n 0, 1) := by decide +kernel
theorem dX6_noteCommand_59 : decode cX6_noteCommand 59 = .ok (.dup, 1) := by decide +kernel
theorem dX6_noteCommand_60 : decode cX6_noteCommand 60 = .ok (.getfield 26, 3) := by decide +kernel
theorem dX6_noteCommand_63 : decode cX6_noteCommand 63 = .ok (.iconst 1, 1) := by decide +kernel
theorem dX6_noteCommand_64 : decode cX6_noteCommand 64 = .ok (.iadd, 1) := by decide +kernel
theorem dX6_noteCommand_65 : decode cX6_noteCommand 65 = .ok (.putfield 26, 3) := by decide +kernel
theorem dX6_noteCommand_68 : decode cX6_noteCommand 68 = .ok (.iconst 1, 1) := by decide +kernel
theorem dX6_noteCommand_69 : decode cX6_noteCommand 69 = .ok (.ireturn, 1) := by decide +kernel
theorem dX6_noteCommand_70 : decode cX6_noteCommand 70 = .ok (.iinc 4 1, 3) := by decide +kernel
theorem dX6_noteCommand_73 : decode cX6_noteCommand 73 = .ok (.goto (-70), 3) := by decide +kernel
theorem dX6_noteCommand_76 : decode cX6_noteCommand 76 = .ok (.iconst 0, 1) := by decide +kernel
theorem dX6_noteCommand_77 : decode cX6_noteCommand 77 = .ok (.ireturn, 1) := by decide +kernel
theorem dX6_signIn_0 : decode cX6_signIn 0 = .ok (.getstatic 41, 3) := by decide +kernel
theorem dX6_signIn_3 : decode cX6_signIn 3 = .ok (.aload_n 0, 1) := by decide +kernel
theorem dX6_signIn_4 : decode cX6_signIn 4 = .ok (.getfield 19, 3) := by decide +kernel
theorem dX6_signIn_7 : decode cX6_signIn 7 = .ok (.iload_n 1, 1) := by decide +kernel
theorem dX6_signIn_8 : decode cX6_signIn 8 = .ok (.iaload, 1) := by decide +kernel
theorem dX6_signIn_9 : decode cX6_signIn 9 = .ok (.aaload, 1) := by decide +kernel
theorem dX6_signIn_10 : decode cX6_signIn 10 = .ok (.iload_n 2, 1) := by decide +kernel
theorem dX6_signIn_11 : decode cX6_signIn 11 = .ok (.invokevirtual 54, 3) := by decide +kernel
theorem dX6_signIn_14 : decode cX6_signIn 14 = .ok (.istore_n 3, 1) := by decide +kernel
theorem dX6_signIn_15 : decode cX6_signIn 15 = .ok (.iload_n 3, 1) := by decide +kernel
theorem dX6_signIn_16 : decode cX6_signIn 16 = .ok (.iconst (-1), 1) := by decide +kernel
theorem dX6_signIn_17 : decode cX6_signIn 17 = .ok (.if_icmp .ne 8, 3) := by decide +kernel
theorem dX6_signIn_20 : decode cX6_signIn 20 = .ok (.bipush 32, 2) := by decide +kernel
theorem dX6_signIn_22 : decode cX6_signIn 22 = .ok (.goto 16, 3) := by decide +kernel
theorem dX6_signIn_25 : decode cX6_signIn 25 = .ok (.aload_n 0, 1) := by decide +kernel
theorem dX6_signIn_26 : decode cX6_signIn 26 = .ok (.getfield 9, 3) := by decide +kernel
theorem dX6_signIn_29 : decode cX6_signIn 29 = .ok (.aload_n 0, 1) := by decide +kernel
theorem dX6_signIn_30 : decode cX6_signIn 30 = .ok (.getfield 15, 3) := by decide +kernel
theorem dX6_signIn_33 : decode cX6_signIn 33 = .ok (.iload_n 1, 1) := by decide +kernel
theorem dX6_signIn_34 : decode cX6_signIn 34 = .ok (.iaload, 1) := by decide +kernel
theorem dX6_signIn_35 : decode cX6_signIn 35 = .ok (.iload_n 3, 1) := by decide +kernel
theorem dX6_signIn_36 : decode cX6_signIn 36 = .ok (.iadd, 1) := by decide +kernel
theorem dX6_signIn_37 : decode cX6_signIn 37 = .ok (.caload, 1) := by decide +kernel
theorem dX6_signIn_38 : decode cX6_signIn 38 = .ok (.ireturn, 1) := by decide +kernel
theorem dX6_numberIn_0 : decode cX6_numberIn 0 = .ok (.aload_n 0, 1) := by decide +kernel
theorem dX6_numberIn_1 : decode cX6_numberIn 1 = .ok (.iload_n 1, 1) := by decide +kernel
theorem dX6_numberIn_2 : decode cX6_numberIn 2 = .ok (.iload_n 2, 1) := by decide +kernel
theorem dX6_numberIn_3 : decode cX6_numberIn 3 = .ok (.invokevirtual 58, 3) := by decide +kernel
theorem dX6_numberIn_6 : decode cX6_numberIn 6 = .ok (.bipush 48, 2) := by decide +kernel
theorem dX6_numberIn_8 : decode cX6_numberIn 8 = .ok (.isub, 1) := by decide +kernel
theorem dX6_numberIn_9 : decode cX6_numberIn 9 = .ok (.ireturn, 1) := by decide +kernel
theorem dX7_init_0 : decode cX7_init 0 = .ok (.aload_n 0, 1) := by decide +kernel
theorem dX7_init_1 : decode cX7_init 1 = .ok (.invokespecial 3, 3) := by decide +kernel
theorem dX7_init_4 : decode cX7_init 4 = .ok (.aload_n 0, 1) := by decide +kernel
theorem dX7_init_5 : decode cX7_init 5 = .ok (.iconst 4, 1) := by decide +kernel
theorem dX7_init_6 : decode cX7_init 6 = .ok (.newarray .int, 2) := by decide +kernel
theorem dX7_init_8 : decode cX7_init 8 = .ok (.putfield 9, 3) := by decide +kernel
theorem dX7_init_11 : decode cX7_init 11 = .ok (.aload_n 0, 1) := by decide +kernel
theorem dX7_init_12 : decode cX7_init 12 = .ok (.bipush 6, 2) := by decide +kernel
theorem dX7_init_14 : decode cX7_init 14 = .ok (.newarray .char, 2) := by decide +kernel
theorem dX7_init_16 : decode cX7_init 16 = .ok (.putfield 15, 3) := by decide +kernel
theorem dX7_init_19 : decode cX7_init 19 = .ok (.aload_n 0, 1) := by decide +kernel
theorem dX7_init_20 : decode cX7_init 20 = .ok (.bipush 115, 2) := by decide +kernel
theorem dX7_init_22 : decode cX7_init 22 = .ok (.putfield 19, 3) := by decide +kernel
theorem dX7_init_25 : decode cX7_init 25 = .ok (.aload_n 0, 1) := by decide +kernel
theorem dX7_init_26 : decode cX7_init 26 = .ok (.iconst (-1), 1) := by decide +kernel
theorem dX7_init_27 : decode cX7_init 27 = .ok (.putfield 23, 3) := by decide +kernel
theorem dX7_init_30 : decode cX7_init 30 = .ok (.return_, 1) := by decide +kernel
theorem dX7_begin_0 : decode cX7_begin 0 = .ok (.aload_n 0, 1) := by decide +kernel
theorem dX7_begin_1 : decode cX7_begin 1 = .ok (.getfield 9, 3) := by decide +kernel
theorem dX7_begin_4 : decode cX7_begin 4 = .ok (.iconst 0, 1) := by decide +kernel
theorem dX7_begin_5 : decode cX7_begin 5 = .ok (.iload_n 1, 1) := by decide +kernel
theorem dX7_begin_6 : decode cX7_begin 6 = .ok (.iastore, 1) := by decide +kernel
theorem dX7_begin_7 : decode cX7_begin 7 = .ok (.aload_n 0, 1) := by decide +kernel
theorem dX7_begin_8 : decode cX7_begin 8 = .ok (.getfield 9, 3) := by decide +kernel
theorem dX7_begin_11 : decode cX7_begin 11 = .ok (.iconst 1, 1) := by decide +kernel
theorem dX7_begin_12 : decode cX7_begin 12 = .ok (.iload_n 2, 1) := by decide +kernel
theorem dX7_begin_13 : decode cX7_begin 13 = .ok (.iastore, 1) := by decide +kernel
theorem dX7_begin_14 : decode cX7_begin 14 = .ok (.aload_n 0, 1) := by decide +kernel
theorem dX7_begin_15 : decode cX7_begin 15 = .ok (.getfield 9, 3) := by decide +kernel
theorem dX7_begin_18 : decode cX7_begin 18 = .ok (.iconst 2, 1) := by decide +kernel
theorem dX7_begin_19 : decode cX7_begin 19 = .ok (.iload_n 3, 1) := by decide +kernel
theorem dX7_begin_20 : decode cX7_begin 20 = .ok (.iastore, 1) := by decide +kernel
theorem dX7_begin_21 : decode cX7_begin 21 = .ok (.aload_n 0, 1) := by decide +kernel
theorem dX7_begin_22 : decode cX7_begin 22 = .ok (.getfield 9, 3) := by decide +kernel
theorem dX7_begin_25 : decode cX7_begin 25 = .ok (.iconst 3, 1) := by decide +kernel
theorem dX7_begin_26 : decode cX7_begin 26 = .ok (.iload 4, 2) := by decide +kernel
theorem dX7_begin_28 : decode cX7_begin 28 = .ok (.iastore, 1) := by decide +kernel
theorem dX7_begin_29 : decode cX7_begin 29 = .ok (.aload_n 0, 1) := by decide +kernel
theorem dX7_begin_30 : decode cX7_begin 30 = .ok (.iload 5, 2) := by decide +kernel
theorem dX7_begin_32 : decode cX7_begin 32 = .ok (.putfield 19, 3) := by decide +kernel
theorem dX7_begin_35 : decode cX7_begin 35 = .ok (.return_, 1) := by decide +kernel
theorem dX7_copyFrom_0 : decode cX7_copyFrom 0 = .ok (.aload_n 1, 1) := by decide +kernel
theorem dX7_copyFrom_1 : decode cX7_copyFrom 1 = .ok (.getfield 9, 3) := by decide +kernel
theorem dX7_copyFrom_4 : decode cX7_copyFrom 4 = .ok (.iconst 0, 1) := by decide +kernel
theorem dX7_copyFrom_5 : decode cX7_copyFrom 5 = .ok (.aload_n 0, 1) := by decide +kernel
theorem dX7_copyFrom_6 : decode cX7_copyFrom 6 = .ok (.getfield 9, 3) := by decide +kernel
theorem dX7_copyFrom_9 : decode cX7_copyFrom 9 = .ok (.iconst 0, 1) := by decide +kernel
theorem dX7_copyFrom_10 : decode cX7_copyFrom 10 = .ok (.iconst 4, 1) := by decide +kernel
theorem dX7_copyFrom_11 : decode cX7_copyFrom 11 = .ok (.invokestatic 27, 3) := by decide +kernel
theorem dX7_copyFrom_14 : decode cX7_copyFrom 14 = .ok (.aload_n 1, 1) := by decide +kernel
theorem dX7_copyFrom_15 : decode cX7_copyFrom 15 = .ok (.getfield 15, 3) := by decide +kernel
theorem dX7_copyFrom_18 : decode cX7_copyFrom 18 = .ok (.iconst 0, 1) := by decide +kernel
theorem dX7_copyFrom_19 : decode cX7_copyFrom 19 = .ok (.aload_n 0, 1) := by decide +kernel
theorem dX7_copyFrom_20 : decode cX7_copyFrom 20 = .ok (.getfield 15, 3) := by decide +kernel
theorem dX7_copyFrom_23 : decode cX7_copyFrom 23 = .ok (.iconst 0, 1) := by decide +kernel
theorem dX7_copyFrom_24 : decode cX7_copyFrom 24 = .ok (.bipush 6, 2) := by decide +kernel
theorem dX7_copyFrom_26 : decode cX7_copyFrom 26 = .ok (.invokestatic 27, 3) := by decide +kernel
theorem dX7_copyFrom_29 : decode cX7_copyFrom 29 = .ok (.aload_n 0, 1) := by decide +kernel
theorem dX7_copyFrom_30 : decode cX7_copyFrom 30 = .ok (.aload_n 1, 1) := by decide +kernel
theorem dX7_copyFrom_31 : decode cX7_copyFrom 31 = .ok (.getfield 19, 3) := by decide +kernel
theorem dX7_copyFrom_34 : decode cX7_copyFrom 34 = .ok (.putfield 19, 3) := by decide +kernel
theorem dX7_copyFrom_37 : decode cX7_copyFrom 37 = .ok (.aload_n 0, 1) := by decide +kernel
theorem dX7_copyFrom_38 : decode cX7_copyFrom 38 = .ok (.aload_n 1, 1) := by decide +kernel
theorem dX7_copyFrom_39 : decode cX7_copyFrom 39 = .ok (.getfield 33, 3) := by decide +kernel
theorem dX7_copyFrom_42 : decode cX7_copyFrom 42 = .ok (.putfield 33, 3) := by decide +kernel
theorem dX7_copyFrom_45 : decode cX7_copyFrom 45 = .ok (.aload_n 0, 1) := by decide +kernel
theorem dX7_copyFrom_46 : decode cX7_copyFrom 46 = .ok (.aload_n 1, 1) := by decide +kernel
theorem dX7_copyFrom_47 : decode cX7_copyFrom 47 = .ok (.getfield 36, 3) := by decide +kernel
theorem dX7_copyFrom_50 : decode cX7_copyFrom 50 = .ok (.putfield 36, 3) := by decide +kernel
theorem dX7_copyFrom_53 : decode cX7_copyFrom 53 = .ok (.aload_n 0, 1) := by decide +kernel
theorem dX7_copyFrom_54 : decode cX7_copyFrom 54 = .ok (.aload_n 1, 1) := by decide +kernel
theorem dX7_copyFrom_55 : decode cX7_copyFrom 55 = .ok (.getfield 39, 3) := by decide +kernel
theorem dX7_copyFrom_58 : decode cX7_copyFrom 58 = .ok (.putfield 39, 3) := by decide +kernel
theorem dX7_copyFrom_61 : decode cX7_copyFrom 61 = .ok (.aload_n 0, 1) := by decide +kernel
theorem dX7_copyFrom_62 : decode cX7_copyFrom 62 = .ok (.aload_n 1, 1) := by decide +kernel
theorem dX7_copyFrom_63 : decode cX7_copyFrom 63 = .ok (.getfield 23, 3) := by decide +kernel
theorem dX7_copyFrom_66 : decode cX7_copyFrom 66 = .ok (.putfield 23, 3) := by decide +kernel
theorem dX7_copyFrom_69 : decode cX7_copyFrom 69 = .ok (.aload_n 0, 1) := by decide +kernel
theorem dX7_copyFrom_70 : decode cX7_copyFrom 70 = .ok (.aload_n 1, 1) := by decide +kernel
theorem dX7_copyFrom_71 : decode cX7_copyFrom 71 = .ok (.getfield 43, 3) := by decide +kernel
theorem dX7_copyFrom_74 : decode cX7_copyFrom 74 = .ok (.putfield 43, 3) := by decide +kernel
theorem dX7_copyFrom_77 : decode cX7_copyFrom 77 = .ok (.return_, 1) := by decide +kernel
theorem dX7_torn_0 : decode cX7_torn 0 = .ok (.aload_n 0, 1) := by decide +kernel
theorem dX7_torn_1 : decode cX7_torn 1 = .ok (.getfield 36, 3) := by decide +kernel
theorem dX7_torn_4 : decode cX7_torn 4 = .ok (.iconst 5, 1) := by decide +kernel
theorem dX7_torn_5 : decode cX7_torn 5 = .ok (.if_icmp .lt 7, 3) := by decide +kernel
theorem dX7_torn_8 : decode cX7_torn 8 = .ok (.iconst 1, 1) := by decide +kernel
theorem dX7_torn_9 : decode cX7_torn 9 = .ok (.goto 4, 3) := by decide +kernel
theorem dX7_torn_12 : decode cX7_torn 12 = .ok (.iconst 0, 1) := by decide +kernel
theorem dX7_torn_13 : decode cX7_torn 13 = .ok (.ireturn, 1) := by decide +kernel
theorem dX7_onTable_0 : decode cX7_onTable 0 = .ok (.aload_n 0, 1) := by decide +kernel
theorem dX7_onTable_1 : decode cX7_onTable 1 = .ok (.getfield 23, 3) := by decide +kernel
theorem dX7_onTable_4 : decode cX7_onTable 4 = .ok (.iconst (-1), 1) := by decide +kernel
theorem dX7_onTable_5 : decode cX7_onTable 5 = .ok (.if_icmp .eq 7, 3) := by decide +kernel
theorem dX7_onTable_8 : decode cX7_onTable 8 = .ok (.iconst 1, 1) := by decide +kernel
theorem dX7_onTable_9 : decode cX7_onTable 9 = .ok (.goto 4, 3) := by decide +kernel
theorem dX7_onTable_12 : decode cX7_onTable 12 = .ok (.iconst 0, 1) := by decide +kernel
theorem dX7_onTable_13 : decode cX7_onTable 13 = .ok (.ireturn, 1) := by decide +kernel
theorem dX7_canBeLaid_0 : decode cX7_canBeLaid 0 = .ok (.aload_n 0, 1) := by decide +kernel
theorem dX7_canBeLaid_1 : decode cX7_canBeLaid 1 = .ok (.getfield 39, 3) := by decide +kernel
theorem dX7_canBeLaid_4 : decode cX7_canBeLaid 4 = .ok (.ifCond .ne 21, 3) := by decide +kernel
theorem dX7_canBeLaid_7 : decode cX7_canBeLaid 7 = .ok (.aload_n 0, 1) := by decide +kernel
theorem dX7_canBeLaid_8 : decode cX7_canBeLaid 8 = .ok (.invokevirtual 46, 3) := by decide +kernel
theorem dX7_canBeLaid_11 : decode cX7_canBeLaid 11 = .ok (.ifCond .ne 14, 3) := by decide +kernel
theorem dX7_canBeLaid_14 : decode cX7_canBeLaid 14 = .ok (.aload_n 0, 1) := by decide +kernel
theorem dX7_canBeLaid_15 : decode cX7_canBeLaid 15 = .ok (.invokevirtual 50, 3) := by decide +kernel
theorem dX7_canBeLaid_18 : decode cX7_canBeLaid 18 = .ok (.ifCond .ne 7, 3) := by decide +kernel
theorem dX7_canBeLaid_21 : decode cX7_canBeLaid 21 = .ok (.iconst 1, 1) := by decide +kernel
theorem dX7_canBeLaid_22 : decode cX7_canBeLaid 22 = .ok (.goto 4, 3) := by decide +kernel
theorem dX7_canBeLaid_25 : decode cX7_canBeLaid 25 = .ok (.iconst 0, 1) := by decide +kernel
theorem dX7_canBeLaid_26 : decode cX7_canBeLaid 26 = .ok (.ireturn, 1) := by decide +kernel
theorem dX7_borderWhenTurned_0 : decode cX7_borderWhenTurned 0 = .ok (.aload_n 0, 1) := by decide +kernel
theorem dX7_borderWhenTurned_1 : decode cX7_borderWhenTurned 1 = .ok (.getfield 9, 3) := by decide +kernel
theorem dX7_borderWhenTurned_4 : decode cX7_borderWhenTurned 4 = .ok (.iload_n 1, 1) := by decide +kernel
theorem dX7_borderWhenTurned_5 : decode cX7_borderWhenTurned 5 = .ok (.iload_n 2, 1) := by decide +kernel
theorem dX7_borderWhenTurned_6 : decode cX7_borderWhenTurned 6 = .ok (.isub, 1) := by decide +kernel
theorem dX7_borderWhenTurned_7 : decode cX7_borderWhenTurned 7 = .ok (.iconst 4, 1) := by decide +kernel
theorem dX7_borderWhenTurned_8 : decode cX7_borderWhenTurned 8 = .ok (.invokestatic 53, 3) := by decide +kernel
theorem dX7_borderWhenTurned_11 : decode cX7_borderWhenTurned 11 = .ok (.iaload, 1) := by decide +kernel
theorem dX7_borderWhenTurned_12 : decode cX7_borderWhenTurned 12 = .ok (.ireturn, 1) := by decide +kernel
theorem dX7_borderAsLaid_0 : decode cX7_borderAsLaid 0 = .ok (.aload_n 0, 1) := by decide +kernel
theorem dX7_borderAsLaid_1 : decode cX7_borderAsLaid 1 = .ok (.iload_n 1, 1) := by decide +kernel
theorem dX7_borderAsLaid_2 : decode cX7_borderAsLaid 2 = .ok (.aload_n 0, 1) := by decide +kernel
theorem dX7_borderAsLaid_3 : decode cX7_borderAsLaid 3 = .ok (.getfield 43, 3) := by decide +kernel
theorem dX7_borderAsLaid_6 : decode cX7_borderAsLaid 6 = .ok (.invokevirtual 59, 3) := by decide +kernel
theorem dX7_borderAsLaid_9 : decode cX7_borderAsLaid 9 = .ok (.ireturn, 1) := by decide +kernel
theorem dX8_init_0 : decode cX8_init 0 = .ok (.aload_n 0, 1) := by decide +kernel
theorem dX8_init_1 : decode cX8_init 1 = .ok (.invokespecial 3, 3) := by decide +kernel
theorem dX8_init_4 : decode cX8_init 4 = .ok (.aload_n 0, 1) := by decide +kernel
theorem dX8_init_5 : decode cX8_init 5 = .ok (.bipush 7, 2) := by decide +kernel
theorem dX8_init_7 : decode cX8_init 7 = .ok (.newarray .int, 2) := by decide +kernel
theorem dX8_init_9 : decode cX8_init 9 = .ok (.putfield 9, 3) := by decide +kernel
theorem dX8_init_12 : decode cX8_init 12 = .ok (.return_, 1) := by decide +kernel
theorem dX8_countByAdding_0 : decode cX8_countByAdding 0 = .ok (.aload_n 1, 1) := by decide +kernel
theorem dX8_countByAdding_1 : decode cX8_countByAdding 1 = .ok (.aload_n 0, 1) := by decide +kernel
theorem dX8_countByAdding_2 : decode cX8_countByAdding 2 = .ok (.getfield 9, 3) := by decide +kernel
theorem dX8_countByAdding_5 : decode cX8_countByAdding 5 = .ok (.iconst 0, 1) := by decide +kernel
theorem dX8_countByAdding_6 : decode cX8_countByAdding 6 = .ok (.iload_n 2, 1) := by decide +kernel
theorem dX8_countByAdding_7 : decode cX8_countByAdding 7 = .ok (.invokestatic 15, 3) := by decide +kernel
theorem dX8_countByAdding_10 : decode cX8_countByAdding 10 = .ok (.ireturn, 1) := by decide +kernel
theorem dX8_countByPermutations_0 : decode cX8_countByPermutations 0 = .ok (.iconst 0, 1) := by decide +kernel
theorem dX8_countByPermutations_1 : decode cX8_countByPermutations 1 = .ok (.istore_n 2, 1) := by decide +kernel
theorem dX8_countByPermutations_2 : decode cX8_countByPermutations 2 = .ok (.iload_n 2, 1) := by decide +kernel
theorem dX8_countByPermutations_3 : decode cX8_countByPermutations 3 = .ok (.aload_n 1, 1) := by decide +kernel
theorem dX8_countByPermutations_4 : decode cX8_countByPermutations 4 = .ok (.getfield 19, 3) := by decide +kernel
theorem dX8_countByPermutations_7 : decode cX8_countByPermutations 7 = .ok (.if_icmp .gt 16, 3) := by decide +kernel
theorem dX8_countByPermutations_10 : decode cX8_countByPermutations 10 = .ok (.aload_n 0, 1) := by decide +kernel
theorem dX8_countByPermutations_11 : decode cX8_countByPermutations 11 = .ok (.getfield 9, 3) := by decide +kernel
theorem dX8_countByPermutations_14 : decode cX8_countByPermutations 14 = .ok (.iload_n 2, 1) := by decide +kernel
theorem dX8_countByPermutations_15 : decode cX8_countByPermutations 15 = .ok (.iload_n 2, 1) := by decide +kernel
theorem dX8_countByPermutations_16 : decode cX8_countByPermutations 16 = .ok (.iastore, 1) := by decide +kernel
theorem dX8_countByPermutations_17 : decode cX8_countByPermutations 17 = .ok (.iinc 2 1, 3) := by decide +kernel
theorem dX8_countByPermutations_20 : decode cX8_countByPermutations 20 = .ok (.goto (-18), 3) := by decide +kernel
theorem dX8_countByPermutations_23 : decode cX8_countByPermutations 23 = .ok (.aload_n 1, 1) := by decide +kernel
theorem dX8_countByPermutations_24 : decode cX8_countByPermutations 24 = .ok (.aload_n 0, 1) := by decide +kernel
theorem dX8_countByPermutations_25 : decode cX8_countByPermutations 25 = .ok (.getfield 9, 3) := by decide +kernel
theorem dX8_countByPermutations_28 : decode cX8_countByPermutations 28 = .ok (.iconst 0, 1) := by decide +kernel
theorem dX8_countByPermutations_29 : decode cX8_countByPermutations 29 = .ok (.invokestatic 25, 3) := by decide +kernel
theorem dX8_countByPermutations_32 : decode cX8_countByPermutations 32 = .ok (.ireturn, 1) := by decide +kernel
theorem dX8_countFrom_0 : decode cX8_countFrom 0 = .ok (.iload_n 2, 1) := by decide +kernel
theorem dX8_countFrom_1 : decode cX8_countFrom 1 = .ok (.aload_n 0, 1) := by decide +kernel
theorem dX8_countFrom_2 : decode cX8_countFrom 2 = .ok (.getfield 19, 3) := by decide +kernel
theorem dX8_countFrom_5 : decode cX8_countFrom 5 = .ok (.if_icmp .le 24, 3) := by decide +kernel
theorem dX8_countFrom_8 : decode cX8_countFrom 8 = .ok (.iload_n 3, 1) := by decide +kernel
theorem dX8_countFrom_9 : decode cX8_countFrom 9 = .ok (.iconst (-1), 1) := by decide +kernel
theorem dX8_countFrom_10 : decode cX8_countFrom 10 = .ok (.if_icmp .eq 13, 3) := by decide +kernel
theorem dX8_countFrom_13 : decode cX8_countFrom 13 = .ok (.aload_n 1, 1) := by decide +kernel
theorem dX8_countFrom_14 : decode cX8_countFrom 14 = .ok (.iload_n 3, 1) := by decide +kernel
theorem dX8_countFrom_15 : decode cX8_countFrom 15 = .ok (.iaload, 1) := by decide +kernel
theorem dX8_countFrom_16 : decode cX8_countFrom 16 = .ok (.aload_n 0, 1) := by decide +kernel
theorem dX8_countFrom_17 : decode cX8_countFrom 17 = .ok (.getfield 19, 3) := by decide +kernel
theorem dX8_countFrom_20 : decode cX8_countFrom 20 = .ok (.if_icmp .ne 7, 3) := by decide +kernel
theorem dX8_countFrom_23 : decode cX8_countFrom 23 = .ok (.iconst 1, 1) := by decide +kernel
theorem dX8_countFrom_24 : decode cX8_countFrom 24 = .ok (.goto 4, 3) := by decide +kernel
theorem dX8_countFrom_27 : decode cX8_countFrom 27 = .ok (.iconst 0, 1) := by decide +kernel
theorem dX8_countFrom_28 : decode cX8_countFrom 28 = .ok (.ireturn, 1) := by decide +kernel
theorem dX8_countFrom_29 : decode cX8_countFrom 29 = .ok (.iconst 0, 1) := by decide +kernel
theorem dX8_countFrom_30 : decode cX8_countFrom 30 = .ok (.istore 4, 2) := by decide +kernel
theorem dX8_countFrom_32 : decode cX8_countFrom 32 = .ok (.iconst 0, 1) := by decide +kernel
theorem dX8_countFrom_33 : decode cX8_countFrom 33 = .ok (.istore 5, 2) := by decide +kernel
theorem dX8_countFrom_35 : decode cX8_countFrom 35 = .ok (.iload 5, 2) := by decide +kernel
theorem dX8_countFrom_37 : decode cX8_countFrom 37 = .ok (.iload_n 2, 1) := by decide +kernel
theorem dX8_countFrom_38 : decode cX8_countFrom 38 = .ok (.if_icmp .gt 50, 3) := by decide +kernel
theorem dX8_countFrom_41 : decode cX8_countFrom 41 = .ok (.aload_n 1, 1) := by decide +kernel
theorem dX8_countFrom_42 : decode cX8_countFrom 42 = .ok (.iload_n 2, 1) := by decide +kernel
theorem dX8_countFrom_43 : decode cX8_countFrom 43 = .ok (.iload 5, 2) := by decide +kernel
theorem dX8_countFrom_45 : decode cX8_countFrom 45 = .ok (.invokestatic 29, 3) := by decide +kernel
theorem dX8_countFrom_48 : decode cX8_countFrom 48 = .ok (.iload_n 2, 1) := by decide +kernel
theorem dX8_countFrom_49 : decode cX8_countFrom 49 = .ok (.ifCond .eq 14, 3) := by decide +kernel
theorem dX8_countFrom_52 : decode cX8_countFrom 52 = .ok (.aload_n 0, 1) := by decide +kernel
theorem dX8_countFrom_53 : decode cX8_countFrom 53 = .ok (.aload_n 1, 1) := by decide +kernel
theorem dX8_countFrom_54 : decode cX8_countFrom 54 = .ok (.iload_n 2, 1) := by decide +kernel
theorem dX8_countFrom_55 : decode cX8_countFrom 55 = .ok (.iconst 1, 1) := by decide +kernel
theorem dX8_countFrom_56 : decode cX8_countFrom 56 = .ok (.isub, 1) := by decide +kernel
theorem dX8_countFrom_57 : decode cX8_countFrom 57 = .ok (.invokestatic 33, 3) := by decide +kernel
theorem dX8_countFrom_60 : decode cX8_countFrom 60 = .ok (.ifCond .eq 17, 3) := by decide +kernel
theorem dX8_countFrom_63 : decode cX8_countFrom 63 = .ok (.iload 4, 2) := by decide +kernel
theorem dX8_countFrom_65 : decode cX8_countFrom 65 = .ok (.aload_n 0, 1) := by decide +kernel
theorem dX8_countFrom_66 : decode cX8_countFrom 66 = .ok (.aload_n 1, 1) := by decide +kernel
theorem dX8_countFrom_67 : decode cX8_countFrom 67 = .ok (.iload_n 2, 1) := by decide +kernel
theorem dX8_countFrom_68 : decode cX8_countFrom 68 = .ok (.iconst 1, 1) := by decide +kernel
theorem dX8_countFrom_69 : decode cX8_countFrom 69 = .ok (.iadd, 1) := by decide +kernel
theorem dX8_countFrom_70 : decode cX8_countFrom 70 = .ok (.iload_n 3, 1) := by decide +kernel
theorem dX8_countFrom_71 : decode cX8_countFrom 71 = .ok (.invokestatic 15, 3) := by decide +kernel
theorem dX8_countFrom_74 : decode cX8_countFrom 74 = .ok (.iadd, 1) := by decide +kernel
theorem dX8_countFrom_75 : decode cX8_countFrom 75 = .ok (.istore 4, 2) := by decide +kernel
theorem dX8_countFrom_77 : decode cX8_countFrom 77 = .ok (.aload_n 1, 1) := by decide +kernel
theorem dX8_countFrom_78 : decode cX8_countFrom 78 = .ok (.iload_n 2, 1) := by decide +kernel
theorem dX8_countFrom_79 : decode cX8_countFrom 79 = .ok (.invokestatic 37, 3) := by decide +kernel
theorem dX8_countFrom_82 : decode cX8_countFrom 82 = .ok (.iinc 5 1, 3) := by decide +kernel
theorem dX8_countFrom_85 : decode cX8_countFrom 85 = .ok (.goto (-50), 3) := by decide +kernel
theorem dX8_countFrom_88 : decode cX8_countFrom 88 = .ok (.iload 4, 2) := by decide +kernel
theorem dX8_countFrom_90 : decode cX8_countFrom 90 = .ok (.ireturn, 1) := by decide +kernel
theorem dX8_slideIn_0 : decode cX8_slideIn 0 = .ok (.iconst 0, 1) := by decide +kernel
theorem dX8_slideIn_1 : decode cX8_slideIn 1 = .ok (.istore_n 3, 1) := by decide +kernel
theorem dX8_slideIn_2 : decode cX8_slideIn 2 = .ok (.iload_n 3, 1) := by decide +kernel
theorem dX8_slideIn_3 : decode cX8_slideIn 3 = .ok (.iload_n 1, 1) := by decide +kernel
theorem dX8_slideIn_4 : decode cX8_slideIn 4 = .ok (.if_icmp .ge 23, 3) := by decide +kernel
theorem dX8_slideIn_7 : decode cX8_slideIn 7 = .ok (.aload_n 0, 1) := by decide +kernel
theorem dX8_slideIn_8 : decode cX8_slideIn 8 = .ok (.iload_n 3, 1) := by decide +kernel
theorem dX8_slideIn_9 : decode cX8_slideIn 9 = .ok (.iaload, 1) := by decide +kernel
theorem dX8_slideIn_10 : decode cX8_slideIn 10 = .ok (.iload_n 2, 1) := by decide +kernel
theorem dX8_slideIn_11 : decode cX8_slideIn 11 = .ok (.if_icmp .lt 10, 3) := by decide +kernel
theorem dX8_slideIn_14 : decode cX8_slideIn 14 = .ok (.aload_n 0, 1) := by decide +kernel
theorem dX8_slideIn_15 : decode cX8_slideIn 15 = .ok (.iload_n 3, 1) := by decide +kernel
theorem dX8_slideIn_16 : decode cX8_slideIn 16 = .ok (.dup2, 1) := by decide +kernel
theorem dX8_slideIn_17 : decode cX8_slideIn 17 = .ok (.iaload, 1) := by decide +kernel
theorem dX8_slideIn_18 : decode cX8_slideIn 18 = .ok (.iconst 1, 1) := by decide +kernel
theorem dX8_slideIn_19 : decode cX8_slideIn 19 = .ok (.iadd, 1) := by decide +kernel
theorem dX8_slideIn_20 : decode cX8_slideIn 20 = .ok (.iastore, 1) := by decide +kernel
theorem dX8_slideIn_21 : decode cX8_slideIn 21 = .ok (.iinc 3 1, 3) := by decide +kernel
theorem dX8_slideIn_24 : decode cX8_slideIn 24 = .ok (.goto (-22), 3) := by decide +kernel
theorem dX8_slideIn_27 : decode cX8_slideIn 27 = .ok (.aload_n 0, 1) := by decide +kernel
theorem dX8_slideIn_28 : decode cX8_slideIn 28 = .ok (.iload_n 1, 1) := by decide +kernel
theorem dX8_slideIn_29 : decode cX8_slideIn 29 = .ok (.iload_n 2, 1) := by decide +kernel
theorem dX8_slideIn_30 : decode cX8_slideIn 30 = .ok (.iastore, 1) := by decide +kernel
theorem dX8_slideIn_31 : decode cX8_slideIn 31 = .ok (.return_, 1) := by decide +kernel
theorem dX8_pullOut_0 : decode cX8_pullOut 0 = .ok (.iconst 0, 1) := by decide +kernel
theorem dX8_pullOut_1 : decode cX8_pullOut 1 = .ok (.istore_n 2, 1) := by decide +kernel
theorem dX8_pullOut_2 : decode cX8_pullOut 2 = .ok (.iload_n 2, 1) := by decide +kernel
theorem dX8_pullOut_3 : decode cX8_pullOut 3 = .ok (.iload_n 1, 1) := by decide +kernel
theorem dX8_pullOut_4 : decode cX8_pullOut 4 = .ok (.if_icmp .ge 25, 3) := by decide +kernel
theorem dX8_pullOut_7 : decode cX8_pullOut 7 = .ok (.aload_n 0, 1) := by decide +kernel
theorem dX8_pullOut_8 : decode cX8_pullOut 8 = .ok (.iload_n 2, 1) := by decide +kernel
theorem dX8_pullOut_9 : decode cX8_pullOut 9 = .ok (.iaload, 1) := by decide +kernel
theorem dX8_pullOut_10 : decode cX8_pullOut 10 = .ok (.aload_n 0, 1) := by decide +kernel
theorem dX8_pullOut_11 : decode cX8_pullOut 11 = .ok (.iload_n 1, 1) := by decide +kernel
theorem dX8_pullOut_12 : decode cX8_pullOut 12 = .ok (.iaload, 1) := by decide +kernel
theorem dX8_pullOut_13 : decode cX8_pullOut 13 = .ok (.if_icmp .le 10, 3) := by decide +kernel
theorem dX8_pullOut_16 : decode cX8_pullOut 16 = .ok (.aload_n 0, 1) := by decide +kernel
theorem dX8_pullOut_17 : decode cX8_pullOut 17 = .ok (.iload_n 2, 1) := by decide +kernel
theorem dX8_pullOut_18 : decode cX8_pullOut 18 = .ok (.dup2, 1) := by decide +kernel
theorem dX8_pullOut_19 : decode cX8_pullOut 19 = .ok (.iaload, 1) := by decide +kernel
theorem dX8_pullOut_20 : decode cX8_pullOut 20 = .ok (.iconst 1, 1) := by decide +kernel
theorem dX8_pullOut_21 : decode cX8_pullOut 21 = .ok (.isub, 1) := by decide +kernel
theorem dX8_pullOut_22 : decode cX8_pullOut 22 = .ok (.iastore, 1) := by decide +kernel
theorem dX8_pullOut_23 : decode cX8_pullOut 23 = .ok (.iinc 2 1, 3) := by decide +kernel
theorem dX8_pullOut_26 : decode cX8_pullOut 26 = .ok (.goto (-24), 3) := by decide +kernel
theorem dX8_pullOut_29 : decode cX8_pullOut 29 = .ok (.return_, 1) := by decide +kernel
theorem dX8_countPermutations_0 : decode cX8_countPermutations 0 = .ok (.iload_n 2, 1) := by decide +kernel
theorem dX8_countPermutations_1 : decode cX8_countPermutations 1 = .ok (.aload_n 0, 1) := by decide +kernel
theorem dX8_countPermutations_2 : decode cX8_countPermutations 2 = .ok (.getfield 19, 3) := by decide +kernel
theorem dX8_countPermutations_5 : decode cX8_countPermutations 5 = .ok (.if_icmp .le 17, 3) := by decide +kernel
theorem dX8_countPermutations_8 : decode cX8_countPermutations 8 = .ok (.aload_n 0, 1) := by decide +kernel
theorem dX8_countPermutations_9 : decode cX8_countPermutations 9 = .ok (.aload_n 1, 1) := by decide +kernel
theorem dX8_countPermutations_10 : decode cX8_countPermutations 10 = .ok (.invokestatic 41, 3) := by decide +kernel
theorem dX8_countPermutations_13 : decode cX8_countPermutations 13 = .ok (.ifCond .eq 7, 3) := by decide +kernel
theorem dX8_countPermutations_16 : decode cX8_countPermutations 16 = .ok (.iconst 1, 1) := by decide +kernel
theorem dX8_countPermutations_17 : decode cX8_countPermutations 17 = .ok (.goto 4, 3) := by decide +kernel
theorem dX8_countPermutations_20 : decode cX8_countPermutations 20 = .ok (.iconst 0, 1) := by decide +kernel
theorem dX8_countPermutations_21 : decode cX8_countPermutations 21 = .ok (.ireturn, 1) := by decide +kernel
theorem dX8_countPermutations_22 : decode cX8_countPermutations 22 = .ok (.iconst 0, 1) := by decide +kernel
theorem dX8_countPermutations_23 : decode cX8_countPermutations 23 = .ok (.istore_n 3, 1) := by decide +kernel
theorem dX8_countPermutations_24 : decode cX8_countPermutations 24 = .ok (.iload_n 2, 1) := by decide +kernel
theorem dX8_countPermutations_25 : decode cX8_countPermutations 25 = .ok (.istore 4, 2) := by decide +kernel
theorem dX8_countPermutations_27 : decode cX8_countPermutations 27 = .ok (.iload 4, 2) := by decide +kernel
theorem dX8_countPermutations_29 : decode cX8_countPermutations 29 = .ok (.aload_n 0, 1) := by decide +kernel
theorem dX8_countPermutations_30 : decode cX8_countPermutations 30 = .ok (.getfield 19, 3) := by decide +kernel
theorem dX8_countPermutations_33 : decode cX8_countPermutations 33 = .ok (.if_icmp .gt 34, 3) := by decide +kernel
theorem dX8_countPermutations_36 : decode cX8_countPermutations 36 = .ok (.aload_n 1, 1) := by decide +kernel
theorem dX8_countPermutations_37 : decode cX8_countPermutations 37 = .ok (.iload_n 2, 1) := by decide +kernel
theorem dX8_countPermutations_38 : decode cX8_countPermutations 38 = .ok (.iload 4, 2) := by decide +kernel
theorem dX8_countPermutations_40 : decode cX8_countPermutations 40 = .ok (.invokestatic 45, 3) := by decide +kernel
theorem dX8_countPermutations_43 : decode cX8_countPermutations 43 = .ok (.iload_n 3, 1) := by decide +kernel
theorem dX8_countPermutations_44 : decode cX8_countPermutations 44 = .ok (.aload_n 0, 1) := by decide +kernel
theorem dX8_countPermutations_45 : decode cX8_countPermutations 45 = .ok (.aload_n 1, 1) := by decide +kernel
theorem dX8_countPermutations_46 : decode cX8_countPermutations 46 = .ok (.iload_n 2, 1) := by decide +kernel
theorem dX8_countPermutations_47 : decode cX8_countPermutations 47 = .ok (.iconst 1, 1) := by decide +kernel
theorem dX8_countPermutations_48 : decode cX8_countPermutations 48 = .ok (.iadd, 1) := by decide +kernel
theorem dX8_countPermutations_49 : decode cX8_countPermutations 49 = .ok (.invokestatic 25, 3) := by decide +kernel
theorem dX8_countPermutations_52 : decode cX8_countPermutations 52 = .ok (.iadd, 1) := by decide +kernel
theorem dX8_countPermutations_53 : decode cX8_countPermutations 53 = .ok (.istore_n 3, 1) := by decide +kernel
theorem dX8_countPermutations_54 : decode cX8_countPermutations 54 = .ok (.aload_n 1, 1) := by decide +kernel
theorem dX8_countPermutations_55 : decode cX8_countPermutations 55 = .ok (.iload_n 2, 1) := by decide +kernel
theorem dX8_countPermutations_56 : decode cX8_countPermutations 56 = .ok (.iload 4, 2) := by decide +kernel
theorem dX8_countPermutations_58 : decode cX8_countPermutations 58 = .ok (.invokestatic 45, 3) := by decide +kernel
theorem dX8_countPermutations_61 : decode cX8_countPermutations 61 = .ok (.iinc 4 1, 3) := by decide +kernel
theorem dX8_countPermutations_64 : decode cX8_countPermutations 64 = .ok (.goto (-37), 3) := by decide +kernel
theorem dX8_countPermutations_67 : decode cX8_countPermutations 67 = .ok (.iload_n 3, 1) := by decide +kernel
theorem dX8_countPermutations_68 : decode cX8_countPermutations 68 = .ok (.ireturn, 1) := by decide +kernel
theorem dX8_swap_0 : decode cX8_swap 0 = .ok (.aload_n 0, 1) := by decide +kernel
theorem dX8_swap_1 : decode cX8_swap 1 = .ok (.iload_n 1, 1) := by decide +kernel
theorem dX8_swap_2 : decode cX8_swap 2 = .ok (.iaload, 1) := by decide +kernel
theorem dX8_swap_3 : decode cX8_swap 3 = .ok (.istore_n 3, 1) := by decide +kernel
theorem dX8_swap_4 : decode cX8_swap 4 = .ok (.aload_n 0, 1) := by decide +kernel
theorem dX8_swap_5 : decode cX8_swap 5 = .ok (.iload_n 1, 1) := by decide +kernel
theorem dX8_swap_6 : decode cX8_swap 6 = .ok (.aload_n 0, 1) := by decide +kernel
theorem dX8_swap_7 : decode cX8_swap 7 = .ok (.iload_n 2, 1) := by decide +kernel
theorem dX8_swap_8 : decode cX8_swap 8 = .ok (.iaload, 1) := by decide +kernel
theorem dX8_swap_9 : decode cX8_swap 9 = .ok (.iastore, 1) := by decide +kernel
theorem dX8_swap_10 : decode cX8_swap 10 = .ok (.aload_n 0, 1) := by decide +kernel
theorem dX8_swap_11 : decode cX8_swap 11 = .ok (.iload_n 2, 1) := by decide +kernel
theorem dX8_swap_12 : decode cX8_swap 12 = .ok (.iload_n 3, 1) := by decide +kernel
theorem dX8_swap_13 : decode cX8_swap 13 = .ok (.iastore, 1) := by decide +kernel
theorem dX8_swap_14 : decode cX8_swap 14 = .ok (.return_, 1) := by decide +kernel
theorem dX8_isPossible_0 : decode cX8_isPossible 0 = .ok (.iconst 0, 1) := by decide +kernel
theorem dX8_isPossible_1 : decode cX8_isPossible 1 = .ok (.istore_n 2, 1) := by decide +kernel
theorem dX8_isPossible_2 : decode cX8_isPossible 2 = .ok (.iload_n 2, 1) := by decide +kernel
theorem dX8_isPossible_3 : decode cX8_isPossible 3 = .ok (.aload_n 0, 1) := by decide +kernel
theorem dX8_isPossible_4 : decode cX8_isPossible 4 = .ok (.getfield 19, 3) := by decide +kernel
theorem dX8_isPossible_7 : decode cX8_isPossible 7 = .ok (.if_icmp .ge 20, 3) := by decide +kernel
theorem dX8_isPossible_10 : decode cX8_isPossible 10 = .ok (.aload_n 0, 1) := by decide +kernel
theorem dX8_isPossible_11 : decode cX8_isPossible 11 = .ok (.aload_n 1, 1) := by decide +kernel
theorem dX8_isPossible_12 : decode cX8_isPossible 12 = .ok (.iload_n 2, 1) := by decide +kernel
theorem dX8_isPossible_13 : decode cX8_isPossible 13 = .ok (.invokestatic 33, 3) := by decide +kernel
theorem dX8_isPossible_16 : decode cX8_isPossible 16 = .ok (.ifCond .ne 5, 3) := by decide +kernel
theorem dX8_isPossible_19 : decode cX8_isPossible 19 = .ok (.iconst 0, 1) := by decide +kernel
theorem dX8_isPossible_20 : decode cX8_isPossible 20 = .ok (.ireturn, 1) := by decide +kernel
theorem dX8_isPossible_21 : decode cX8_isPossible 21 = .ok (.iinc 2 1, 3) := by decide +kernel
theorem dX8_isPossible_24 : decode cX8_isPossible 24 = .ok (.goto (-22), 3) := by decide +kernel
theorem dX8_isPossible_27 : decode cX8_isPossible 27 = .ok (.iconst 1, 1) := by decide +kernel
theorem dX8_isPossible_28 : decode cX8_isPossible 28 = .ok (.ireturn, 1) := by decide +kernel
theorem dX8_isCreasePossible_0 : decode cX8_isCreasePossible 0 = .ok (.aload_n 0, 1) := by decide +kernel
theorem dX8_isCreasePossible_1 : decode cX8_isCreasePossible 1 = .ok (.getfield 48, 3) := by decide +kernel
theorem dX8_isCreasePossible_4 : decode cX8_isCreasePossible 4 = .ok (.iload_n 2, 1) := by decide +kernel
theorem dX8_isCreasePossible_5 : decode cX8_isCreasePossible 5 = .ok (.caload, 1) := by decide +kernel
theorem dX8_isCreasePossible_6 : decode cX8_isCreasePossible 6 = .ok (.bipush 118, 2) := by decide +kernel
theorem dX8_isCreasePossible_8 : decode cX8_isCreasePossible 8 = .ok (.if_icmp .ne 7, 3) := by decide +kernel
theorem dX8_isCreasePossible_11 : decode cX8_isCreasePossible 11 = .ok (.iconst 1, 1) := by decide +kernel
theorem dX8_isCreasePossible_12 : decode cX8_isCreasePossible 12 = .ok (.goto 4, 3) := by decide +kernel
theorem dX8_isCreasePossible_15 : decode cX8_isCreasePossible 15 = .ok (.iconst 0, 1) := by decide +kernel
theorem dX8_isCreasePossible_16 : decode cX8_isCreasePossible 16 = .ok (.iload_n 2, 1) := by decide +kernel
theorem dX8_isCreasePossible_17 : decode cX8_isCreasePossible 17 = .ok (.iconst 2, 1) := by decide +kernel
theorem dX8_isCreasePossible_18 : decode cX8_isCreasePossible 18 = .ok (.irem, 1) := by decide +kernel
theorem dX8_isCreasePossible_19 : decode cX8_isCreasePossible 19 = .ok (.ifCond .ne 7, 3) := by decide +kernel
theorem dX8_isCreasePossible_22 : decode cX8_isCreasePossible 22 = .ok (.iconst 1, 1) := by decide +kernel
theorem dX8_isCreasePossible_23 : decode cX8_isCreasePossible 23 = .ok (.goto 4, 3) := by decide +kernel
theorem dX8_isCreasePossible_26 : decode cX8_isCreasePossible 26 = .ok (.iconst 0, 1) := by decide +kernel
theorem dX8_isCreasePossible_27 : decode cX8_isCreasePossible 27 = .ok (.if_icmp .ne 7, 3) := by decide +kernel
theorem dX8_isCreasePossible_30 : decode cX8_isCreasePossible 30 = .ok (.iconst 1, 1) := by decide +kernel
theorem dX8_isCreasePossible_31 : decode cX8_isCreasePossible 31 = .ok (.goto 4, 3) := by decide +kernel
theorem dX8_isCreasePossible_34 : decode cX8_isCreasePossible 34 = .ok (.iconst 0, 1) := by decide +kernel
theorem dX8_isCreasePossible_35 : decode cX8_isCreasePossible 35 = .ok (.istore_n 3, 1) := by decide +kernel
theorem dX8_isCreasePossible_36 : decode cX8_isCreasePossible 36 = .ok (.aload_n 1, 1) := by decide +kernel
theorem dX8_isCreasePossible_37 : decode cX8_isCreasePossible 37 = .ok (.iload_n 2, 1) := by decide +kernel
theorem dX8_isCreasePossible_38 : decode cX8_isCreasePossible 38 = .ok (.iconst 1, 1) := by decide +kernel
theorem dX8_isCreasePossible_39 : decode cX8_isCreasePossible 39 = .ok (.iadd, 1) := by decide +kernel
theorem dX8_isCreasePossible_40 : decode cX8_isCreasePossible 40 = .ok (.iaload, 1) := by decide +kernel
theorem dX8_isCreasePossible_41 : decode cX8_isCreasePossible 41 = .ok (.aload_n 1, 1) := by decide +kernel
theorem dX8_isCreasePossible_42 : decode cX8_isCreasePossible 42 = .ok (.iload_n 2, 1) := by decide +kernel
theorem dX8_isCreasePossible_43 : decode cX8_isCreasePossible 43 = .ok (.iaload, 1) := by decide +kernel
theorem dX8_isCreasePossible_44 : decode cX8_isCreasePossible 44 = .ok (.if_icmp .le 7, 3) := by decide +kernel
theorem dX8_isCreasePossible_47 : decode cX8_isCreasePossible 47 = .ok (.iconst 1, 1) := by decide +kernel
theorem dX8_isCreasePossible_48 : decode cX8_isCreasePossible 48 = .ok (.goto 4, 3) := by decide +kernel
theorem dX8_isCreasePossible_51 : decode cX8_isCreasePossible 51 = .ok (.iconst 0, 1) := by decide +kernel
theorem dX8_isCreasePossible_52 : decode cX8_isCreasePossible 52 = .ok (.iload_n 3, 1) := by decide +kernel
theorem dX8_isCreasePossible_53 : decode cX8_isCreasePossible 53 = .ok (.if_icmp .eq 5, 3) := by decide +kernel
theorem dX8_isCreasePossible_56 : decode cX8_isCreasePossible 56 = .ok (.iconst 0, 1) := by decide +kernel
theorem dX8_isCreasePossible_57 : decode cX8_isCreasePossible 57 = .ok (.ireturn, 1) := by decide +kernel
theorem dX8_isCreasePossible_58 : decode cX8_isCreasePossible 58 = .ok (.iload_n 2, 1) := by decide +kernel
theorem dX8_isCreasePossible_59 : decode cX8_isCreasePossible 59 = .ok (.iconst 2, 1) := by decide +kernel
theorem dX8_isCreasePossible_60 : decode cX8_isCreasePossible 60 = .ok (.isub, 1) := by decide +kernel
theorem dX8_isCreasePossible_61 : decode cX8_isCreasePossible 61 = .ok (.istore 4, 2) := by decide +kernel
theorem dX8_isCreasePossible_63 : decode cX8_isCreasePossible 63 = .ok (.iload 4, 2) := by decide +kernel
theorem dX8_isCreasePossible_65 : decode cX8_isCreasePossible 65 = .ok (.ifCond .lt 21, 3) := by decide +kernel
theorem dX8_isCreasePossible_68 : decode cX8_isCreasePossible 68 = .ok (.aload_n 1, 1) := by decide +kernel
theorem dX8_isCreasePossible_69 : decode cX8_isCreasePossible 69 = .ok (.iload_n 2, 1) := by decide +kernel
theorem dX8_isCreasePossible_70 : decode cX8_isCreasePossible 70 = .ok (.iload 4, 2) := by decide +kernel
theorem dX8_isCreasePossible_72 : decode cX8_isCreasePossible 72 = .ok (.invokestatic 52, 3) := by decide +kernel
theorem dX8_isCreasePossible_75 : decode cX8_isCreasePossible 75 = .ok (.ifCond .eq 5, 3) := by decide +kernel
theorem dX8_isCreasePossible_78 : decode cX8_isCreasePossible 78 = .ok (.iconst 0, 1) := by decide +kernel
theorem dX8_isCreasePossible_79 : decode cX8_isCreasePossible 79 = .ok (.ireturn, 1) := by decide +kernel
theorem dX8_isCreasePossible_80 : decode cX8_isCreasePossible 80 = .ok (.iinc 4 (-2), 3) := by decide +kernel
theorem dX8_isCreasePossible_83 : decode cX8_isCreasePossible 83 = .ok (.goto (-20), 3) := by decide +kernel
theorem dX8_isCreasePossible_86 : decode cX8_isCreasePossible 86 = .ok (.iconst 1, 1) := by decide +kernel
theorem dX8_isCreasePossible_87 : decode cX8_isCreasePossible 87 = .ok (.ireturn, 1) := by decide +kernel
theorem dX8_cross_0 : decode cX8_cross 0 = .ok (.aload_n 0, 1) := by decide +kernel
theorem dX8_cross_1 : decode cX8_cross 1 = .ok (.iload_n 1, 1) := by decide +kernel
theorem dX8_cross_2 : decode cX8_cross 2 = .ok (.iaload, 1) := by decide +kernel
theorem dX8_cross_3 : decode cX8_cross 3 = .ok (.aload_n 0, 1) := by decide +kernel
theorem dX8_cross_4 : decode cX8_cross 4 = .ok (.iload_n 1, 1) := by decide +kernel
theorem dX8_cross_5 : decode cX8_cross 5 = .ok (.iconst 1, 1) := by decide +kernel
theorem dX8_cross_6 : decode cX8_cross 6 = .ok (.iadd, 1) := by decide +kernel
theorem dX8_cross_7 : decode cX8_cross 7 = .ok (.iaload, 1) := by decide +kernel
theorem dX8_cross_8 : decode cX8_cross 8 = .ok (.invokestatic 56, 3) := by decide +kernel
theorem dX8_cross_11 : decode cX8_cross 11 = .ok (.istore_n 3, 1) := by decide +kernel
theorem dX8_cross_12 : decode cX8_cross 12 = .ok (.aload_n 0, 1) := by decide +kernel
theorem dX8_cross_13 : decode cX8_cross 13 = .ok (.iload_n 1, 1) := by decide +kernel
theorem dX8_cross_14 : decode cX8_cross 14 = .ok (.iaload, 1) := by decide +kernel
theorem dX8_cross_15 : decode cX8_cross 15 = .ok (.aload_n 0, 1) := by decide +kernel
theorem dX8_cross_16 : decode cX8_cross 16 = .ok (.iload_n 1, 1) := by decide +kernel
theorem dX8_cross_17 : decode cX8_cross 17 = .ok (.iconst 1, 1) := by decide +kernel
theorem dX8_cross_18 : decode cX8_cross 18 = .ok (.iadd, 1) := by decide +kernel
theorem dX8_cross_19 : decode cX8_cross 19 = .ok (.iaload, 1) := by decide +kernel
theorem dX8_cross_20 : decode cX8_cross 20 = .ok (.invokestatic 62, 3) := by decide +kernel
theorem dX8_cross_23 : decode cX8_cross 23 = .ok (.istore 4, 2) := by decide +kernel
theorem dX8_cross_25 : decode cX8_cross 25 = .ok (.aload_n 0, 1) := by decide +kernel
theorem dX8_cross_26 : decode cX8_cross 26 = .ok (.iload_n 2, 1) := by decide +kernel
theorem dX8_cross_27 : decode cX8_cross 27 = .ok (.iaload, 1) := by decide +kernel
theorem dX8_cross_28 : decode cX8_cross 28 = .ok (.iload_n 3, 1) := by decide +kernel
theorem dX8_cross_29 : decode cX8_cross 29 = .ok (.iload 4, 2) := by decide +kernel
theorem dX8_cross_31 : decode cX8_cross 31 = .ok (.invokestatic 65, 3) := by decide +kernel
theorem dX8_cross_34 : decode cX8_cross 34 = .ok (.aload_n 0, 1) := by decide +kernel
theorem dX8_cross_35 : decode cX8_cross 35 = .ok (.iload_n 2, 1) := by decide +kernel
theorem dX8_cross_36 : decode cX8_cross 36 = .ok (.iconst 1, 1) := by decide +kernel
theorem dX8_cross_37 : decode cX8_cross 37 = .ok (.iadd, 1) := by decide +kernel
theorem dX8_cross_38 : decode cX8_cross 38 = .ok (.iaload, 1) := by decide +kernel
theorem dX8_cross_39 : decode cX8_cross 39 = .ok (.iload_n 3, 1) := by decide +kernel
theorem dX8_cross_40 : decode cX8_cross 40 = .ok (.iload 4, 2) := by decide +kernel
theorem dX8_cross_42 : decode cX8_cross 42 = .ok (.invokestatic 65, 3) := by decide +kernel
theorem dX8_cross_45 : decode cX8_cross 45 = .ok (.if_icmp .eq 7, 3) := by decide +kernel
theorem dX8_cross_48 : decode cX8_cross 48 = .ok (.iconst 1, 1) := by decide +kernel
theorem dX8_cross_49 : decode cX8_cross 49 = .ok (.goto 4, 3) := by decide +kernel
theorem dX8_cross_52 : decode cX8_cross 52 = .ok (.iconst 0, 1) := by decide +kernel
theorem dX8_cross_53 : decode cX8_cross 53 = .ok (.ireturn, 1) := by decide +kernel
theorem dX8_isBetween_0 : decode cX8_isBetween 0 = .ok (.iload_n 1, 1) := by decide +kernel
theorem dX8_isBetween_1 : decode cX8_isBetween 1 = .ok (.iload_n 0, 1) := by decide +kernel
theorem dX8_isBetween_2 : decode cX8_isBetween 2 = .ok (.if_icmp .ge 12, 3) := by decide +kernel
theorem dX8_isBetween_5 : decode cX8_isBetween 5 = .ok (.iload_n 0, 1) := by decide +kernel
theorem dX8_isBetween_6 : decode cX8_isBetween 6 = .ok (.iload_n 2, 1) := by decide +kernel
theorem dX8_isBetween_7 : decode cX8_isBetween 7 = .ok (.if_icmp .ge 7, 3) := by decide +kernel
theorem dX8_isBetween_10 : decode cX8_isBetween 10 = .ok (.iconst 1, 1) := by decide +kernel
theorem dX8_isBetween_11 : decode cX8_isBetween 11 = .ok (.goto 4, 3) := by decide +kernel
theorem dX8_isBetween_14 : decode cX8_isBetween 14 = .ok (.iconst 0, 1) := by decide +kernel
theorem dX8_isBetween_15 : decode cX8_isBetween 15 = .ok (.ireturn, 1) := by decide +kernel
theorem dX9_init_0 : decode cX9_init 0 = .ok (.aload_n 0, 1) := by decide +kernel
theorem dX9_init_1 : decode cX9_init 1 = .ok (.invokespecial 3, 3) := by decide +kernel
theorem dX9_init_4 : decode cX9_init 4 = .ok (.aload_n 0, 1) := by decide +kernel
theorem dX9_init_5 : decode cX9_init 5 = .ok (.bipush 9, 2) := by decide +kernel
theorem dX9_init_7 : decode cX9_init 7 = .ok (.anewarray 9, 3) := by decide +kernel
theorem dX9_init_10 : decode cX9_init 10 = .ok (.putfield 11, 3) := by decide +kernel
theorem dX9_init_13 : decode cX9_init 13 = .ok (.aload_n 0, 1) := by decide +kernel
theorem dX9_init_14 : decode cX9_init 14 = .ok (.bipush 9, 2) := by decide +kernel
theorem dX9_init_16 : decode cX9_init 16 = .ok (.newarray .int, 2) := by decide +kernel
theorem dX9_init_18 : decode cX9_init 18 = .ok (.putfield 17, 3) := by decide +kernel
theorem dX9_init_21 : decode cX9_init 21 = .ok (.iconst 0, 1) := by decide +kernel
theorem dX9_init_22 : decode cX9_init 22 = .ok (.istore_n 1, 1) := by decide +kernel
theorem dX9_init_23 : decode cX9_init 23 = .ok (.iload_n 1, 1) := by decide +kernel
theorem dX9_init_24 : decode cX9_init 24 = .ok (.bipush 9, 2) := by decide +kernel
theorem dX9_init_26 : decode cX9_init 26 = .ok (.if_icmp .ge 22, 3) := by decide +kernel
theorem dX9_init_29 : decode cX9_init 29 = .ok (.aload_n 0, 1) := by decide +kernel
theorem dX9_init_30 : decode cX9_init 30 = .ok (.getfield 11, 3) := by decide +kernel
theorem dX9_init_33 : decode cX9_init 33 = .ok (.iload_n 1, 1) := by decide +kernel
theorem dX9_init_34 : decode cX9_init 34 = .ok (.new 9, 3) := by decide +kernel
theorem dX9_init_37 : decode cX9_init 37 = .ok (.dup, 1) := by decide +kernel
theorem dX9_init_38 : decode cX9_init 38 = .ok (.invokespecial 21, 3) := by decide +kernel
theorem dX9_init_41 : decode cX9_init 41 = .ok (.aastore, 1) := by decide +kernel
theorem dX9_init_42 : decode cX9_init 42 = .ok (.iinc 1 1, 3) := by decide +kernel
theorem dX9_init_45 : decode cX9_init 45 = .ok (.goto (-22), 3) := by decide +kernel
theorem dX9_init_48 : decode cX9_init 48 = .ok (.iconst 0, 1) := by decide +kernel
theorem dX9_init_49 : decode cX9_init 49 = .ok (.istore_n 1, 1) := by decide +kernel
theorem dX9_init_50 : decode cX9_init 50 = .ok (.iload_n 1, 1) := by decide +kernel
theorem dX9_init_51 : decode cX9_init 51 = .ok (.bipush 9, 2) := by decide +kernel
theorem dX9_init_53 : decode cX9_init 53 = .ok (.if_icmp .ge 16, 3) := by decide +kernel
theorem dX9_init_56 : decode cX9_init 56 = .ok (.aload_n 0, 1) := by decide +kernel
theorem dX9_init_57 : decode cX9_init 57 = .ok (.getfield 17, 3) := by decide +kernel
theorem dX9_init_60 : decode cX9_init 60 = .ok (.iload_n 1, 1) := by decide +kernel
theorem dX9_init_61 : decode cX9_init 61 = .ok (.iconst (-1), 1) := by decide +kernel
theorem dX9_init_62 : decode cX9_init 62 = .ok (.iastore, 1) := by decide +kernel
theorem dX9_init_63 : decode cX9_init 63 = .ok (.iinc 1 1, 3) := by decide +kernel
theorem dX9_init_66 : decode cX9_init 66 = .ok (.goto (-16), 3) := by decide +kernel
theorem dX9_init_69 : decode cX9_init 69 = .ok (.return_, 1) := by decide +kernel
theorem dX9_copyFrom_0 : decode cX9_copyFrom 0 = .ok (.iconst 0, 1) := by decide +kernel
theorem dX9_copyFrom_1 : decode cX9_copyFrom 1 = .ok (.istore_n 2, 1) := by decide +kernel
theorem dX9_copyFrom_2 : decode cX9_copyFrom 2 = .ok (.iload_n 2, 1) := by decide +kernel
theorem dX9_copyFrom_3 : decode cX9_copyFrom 3 = .ok (.bipush 9, 2) := by decide +kernel
theorem dX9_copyFrom_5 : decode cX9_copyFrom 5 = .ok (.if_icmp .ge 24, 3) := by decide +kernel
theorem dX9_copyFrom_8 : decode cX9_copyFrom 8 = .ok (.aload_n 0, 1) := by decide +kernel
theorem dX9_copyFrom_9 : decode cX9_copyFrom 9 = .ok (.getfield 11, 3) := by decide +kernel
theorem dX9_copyFrom_12 : decode cX9_copyFrom 12 = .ok (.iload_n 2, 1) := by decide +kernel
theorem dX9_copyFrom_13 : decode cX9_copyFrom 13 = .ok (.aaload, 1) := by decide +kernel
theorem dX9_copyFrom_14 : decode cX9_copyFrom 14 = .ok (.aload_n 1, 1) := by decide +kernel
theorem dX9_copyFrom_15 : decode cX9_copyFrom 15 = .ok (.getfield 11, 3) := by decide +kernel
theorem dX9_copyFrom_18 : decode cX9_copyFrom 18 = .ok (.iload_n 2, 1) := by decide +kernel
theorem dX9_copyFrom_19 : decode cX9_copyFrom 19 = .ok (.aaload, 1) := by decide +kernel
theorem dX9_copyFrom_20 : decode cX9_copyFrom 20 = .ok (.invokevirtual 22, 3) := by decide +kernel
theorem dX9_copyFrom_23 : decode cX9_copyFrom 23 = .ok (.iinc 2 1, 3) := by decide +kernel
theorem dX9_copyFrom_26 : decode cX9_copyFrom 26 = .ok (.goto (-24), 3) := by decide +kernel
theorem dX9_copyFrom_29 : decode cX9_copyFrom 29 = .ok (.aload_n 1, 1) := by decide +kernel
theorem dX9_copyFrom_30 : decode cX9_copyFrom 30 = .ok (.getfield 17, 3) := by decide +kernel
theorem dX9_copyFrom_33 : decode cX9_copyFrom 33 = .ok (.iconst 0, 1) := by decide +kernel
theorem dX9_copyFrom_34 : decode cX9_copyFrom 34 = .ok (.aload_n 0, 1) := by decide +kernel
theorem dX9_copyFrom_35 : decode cX9_copyFrom 35 = .ok (.getfield 17, 3) := by decide +kernel
theorem dX9_copyFrom_38 : decode cX9_copyFrom 38 = .ok (.iconst 0, 1) := by decide +kernel
theorem dX9_copyFrom_39 : decode cX9_copyFrom 39 = .ok (.bipush 9, 2) := by decide +kernel
theorem dX9_copyFrom_41 : decode cX9_copyFrom 41 = .ok (.invokestatic 26, 3) := by decide +kernel
theorem dX9_copyFrom_44 : decode cX9_copyFrom 44 = .ok (.aload_n 0, 1) := by decide +kernel
theorem dX9_copyFrom_45 : decode cX9_copyFrom 45 = .ok (.aload_n 1, 1) := by decide +kernel
theorem dX9_copyFrom_46 : decode cX9_copyFrom 46 = .ok (.getfield 32, 3) := by decide +kernel
theorem dX9_copyFrom_49 : decode cX9_copyFrom 49 = .ok (.putfield 32, 3) := by decide +kernel
theorem dX9_copyFrom_52 : decode cX9_copyFrom 52 = .ok (.aload_n 0, 1) := by decide +kernel
theorem dX9_copyFrom_53 : decode cX9_copyFrom 53 = .ok (.aload_n 1, 1) := by decide +kernel
theorem dX9_copyFrom_54 : decode cX9_copyFrom 54 = .ok (.getfield 36, 3) := by decide +kernel
theorem dX9_copyFrom_57 : decode cX9_copyFrom 57 = .ok (.putfield 36, 3) := by decide +kernel
theorem dX9_copyFrom_60 : decode cX9_copyFrom 60 = .ok (.aload_n 0, 1) := by decide +kernel
theorem dX9_copyFrom_61 : decode cX9_copyFrom 61 = .ok (.aload_n 1, 1) := by decide +kernel
theorem dX9_copyFrom_62 : decode cX9_copyFrom 62 = .ok (.getfield 39, 3) := by decide +kernel
theorem dX9_copyFrom_65 : decode cX9_copyFrom 65 = .ok (.putfield 39, 3) := by decide +kernel
theorem dX9_copyFrom_68 : decode cX9_copyFrom 68 = .ok (.aload_n 0, 1) := by decide +kernel
theorem dX9_copyFrom_69 : decode cX9_copyFrom 69 = .ok (.aload_n 1, 1) := by decide +kernel
theorem dX9_copyFrom_70 : decode cX9_copyFrom 70 = .ok (.getfield 42, 3) := by decide +kernel
theorem dX9_copyFrom_73 : decode cX9_copyFrom 73 = .ok (.putfield 42, 3) := by decide +kernel
theorem dX9_copyFrom_76 : decode cX9_copyFrom 76 = .ok (.return_, 1) := by decide +kernel
theorem dX9_tryAddSheet_0 : decode cX9_tryAddSheet 0 = .ok (.iload_n 1, 1) := by decide +kernel
theorem dX9_tryAddSheet_1 : decode cX9_tryAddSheet 1 = .ok (.invokestatic 45, 3) := by decide +kernel
theorem dX9_tryAddSheet_4 : decode cX9_tryAddSheet 4 = .ok (.ifCond .eq 33, 3) := by decide +kernel
theorem dX9_tryAddSheet_7 : decode cX9_tryAddSheet 7 = .ok (.iload_n 2, 1) := by decide +kernel
theorem dX9_tryAddSheet_8 : decode cX9_tryAddSheet 8 = .ok (.invokestatic 45, 3) := by decide +kernel
theorem dX9_tryAddSheet_11 : decode cX9_tryAddSheet 11 = .ok (.ifCond .eq 26, 3) := by decide +kernel
theorem dX9_tryAddSheet_14 : decode cX9_tryAddSheet 14 = .ok (.iload_n 3, 1) := by decide +kernel
theorem dX9_tryAddSheet_15 : decode cX9_tryAddSheet 15 = .ok (.invokestatic 45, 3) := by decide +kernel
theorem dX9_tryAddSheet_18 : decode cX9_tryAddSheet 18 = .ok (.ifCond .eq 19, 3) := by decide +kernel
theorem dX9_tryAddSheet_21 : decode cX9_tryAddSheet 21 = .ok (.iload 4, 2) := by decide +kernel
theorem dX9_tryAddSheet_23 : decode cX9_tryAddSheet 23 = .ok (.invokestatic 45, 3) := by decide +kernel
theorem dX9_tryAddSheet_26 : decode cX9_tryAddSheet 26 = .ok (.ifCond .eq 11, 3) := by decide +kernel
theorem dX9_tryAddSheet_29 : decode cX9_tryAddSheet 29 = .ok (.iload 5, 2) := by decide +kernel
theorem dX9_tryAddSheet_31 : decode cX9_tryAddSheet 31 = .ok (.invokestatic 49, 3) := by decide +kernel
theorem dX9_tryAddSheet_34 : decode cX9_tryAddSheet 34 = .ok (.ifCond .ne 6, 3) := by decide +kernel
theorem dX9_tryAddSheet_37 : decode cX9_tryAddSheet 37 = .ok (.bipush (-2), 2) := by decide +kernel
theorem dX9_tryAddSheet_39 : decode cX9_tryAddSheet 39 = .ok (.ireturn, 1) := by decide +kernel
theorem dX9_tryAddSheet_40 : decode cX9_tryAddSheet 40 = .ok (.aload_n 0, 1) := by decide +kernel
theorem dX9_tryAddSheet_41 : decode cX9_tryAddSheet 41 = .ok (.getfield 32, 3) := by decide +kernel
theorem dX9_tryAddSheet_44 : decode cX9_tryAddSheet 44 = .ok (.bipush 9, 2) := by decide +kernel
theorem dX9_tryAddSheet_46 : decode cX9_tryAddSheet 46 = .ok (.if_icmp .lt 6, 3) := by decide +kernel
theorem dX9_tryAddSheet_49 : decode cX9_tryAddSheet 49 = .ok (.bipush (-3), 2) := by decide +kernel
theorem dX9_tryAddSheet_51 : decode cX9_tryAddSheet 51 = .ok (.ireturn, 1) := by decide +kernel
theorem dX9_tryAddSheet_52 : decode cX9_tryAddSheet 52 = .ok (.aload_n 0, 1) := by decide +kernel
theorem dX9_tryAddSheet_53 : decode cX9_tryAddSheet 53 = .ok (.getfield 32, 3) := by decide +kernel
theorem dX9_tryAddSheet_56 : decode cX9_tryAddSheet 56 = .ok (.istore 6, 2) := by decide +kernel
theorem dX9_tryAddSheet_58 : decode cX9_tryAddSheet 58 = .ok (.aload_n 0, 1) := by decide +kernel
theorem dX9_tryAddSheet_59 : decode cX9_tryAddSheet 59 = .ok (.getfield 11, 3) := by decide +kernel
theorem dX9_tryAddSheet_62 : decode cX9_tryAddSheet 62 = .ok (.iload 6, 2) := by decide +kernel
theorem dX9_tryAddSheet_64 : decode cX9_tryAddSheet 64 = .ok (.aaload, 1) := by decide +kernel
theorem dX9_tryAddSheet_65 : decode cX9_tryAddSheet 65 = .ok (.iload_n 1, 1) := by decide +kernel
theorem dX9_tryAddSheet_66 : decode cX9_tryAddSheet 66 = .ok (.iload_n 2, 1) := by decide +kernel
theorem dX9_tryAddSheet_67 : decode cX9_tryAddSheet 67 = .ok (.iload_n 3, 1) := by decide +kernel
theorem dX9_tryAddSheet_68 : decode cX9_tryAddSheet 68 = .ok (.iload 4, 2) := by decide +kernel
theorem dX9_tryAddSheet_70 : decode cX9_tryAddSheet 70 = .ok (.iload 5, 2) := by decide +kernel
theorem dX9_tryAddSheet_72 : decode cX9_tryAddSheet 72 = .ok (.invokevirtual 53, 3) := by decide +kernel
theorem dX9_tryAddSheet_75 : decode cX9_tryAddSheet 75 = .ok (.aload_n 0, 1) := by decide +kernel
theorem dX9_tryAddSheet_76 : decode cX9_tryAddSheet 76 = .ok (.dup, 1) := by decide +kernel
theorem dX9_tryAddSheet_77 : decode cX9_tryAddSheet 77 = .ok (.getfield 32, 3) := by decide +kernel
theorem dX9_tryAddSheet_80 : decode cX9_tryAddSheet 80 = .ok (.iconst 1, 1) := by decide +kernel
theorem dX9_tryAddSheet_81 : decode cX9_tryAddSheet 81 = .ok (.iadd, 1) := by decide +kernel
theorem dX9_tryAddSheet_82 : decode cX9_tryAddSheet 82 = .ok (.putfield 32, 3) := by decide +kernel
theorem dX9_tryAddSheet_85 : decode cX9_tryAddSheet 85 = .ok (.iload 6, 2) := by decide +kernel
theorem dX9_tryAddSheet_87 : decode cX9_tryAddSheet 87 = .ok (.ireturn, 1) := by decide +kernel
theorem dX9_tryAddCrease_0 : decode cX9_tryAddCrease 0 = .ok (.aload_n 0, 1) := by decide +kernel
theorem dX9_tryAddCrease_1 : decode cX9_tryAddCrease 1 = .ok (.iload_n 1, 1) := by decide +kernel
theorem dX9_tryAddCrease_2 : decode cX9_tryAddCrease 2 = .ok (.invokevirtual 57, 3) := by decide +kernel
theorem dX9_tryAddCrease_5 : decode cX9_tryAddCrease 5 = .ok (.ifCond .ne 5, 3) := by decide +kernel
theorem dX9_tryAddCrease_8 : decode cX9_tryAddCrease 8 = .ok (.iconst (-1), 1) := by decide +kernel
theorem dX9_tryAddCrease_9 : decode cX9_tryAddCrease 9 = .ok (.ireturn, 1) := by decide +kernel
theorem dX9_tryAddCrease_10 : decode cX9_tryAddCrease 10 = .ok (.iload_n 2, 1) := by decide +kernel
theorem dX9_tryAddCrease_11 : decode cX9_tryAddCrease 11 = .ok (.invokestatic 60, 3) := by decide +kernel
theorem dX9_tryAddCrease_14 : decode cX9_tryAddCrease 14 = .ok (.ifCond .ne 6, 3) := by decide +kernel
theorem dX9_tryAddCrease_17 : decode cX9_tryAddCrease 17 = .ok (.bipush (-2), 2) := by decide +kernel
theorem dX9_tryAddCrease_19 : decode cX9_tryAddCrease 19 = .ok (.ireturn, 1) := by decide +kernel
theorem dX9_tryAddCrease_20 : decode cX9_tryAddCrease 20 = .ok (.aload_n 0, 1) := by decide +kernel
theorem dX9_tryAddCrease_21 : decode cX9_tryAddCrease 21 = .ok (.getfield 11, 3) := by decide +kernel
theorem dX9_tryAddCrease_24 : decode cX9_tryAddCrease 24 = .ok (.iload_n 1, 1) := by decide +kernel
theorem dX9_tryAddCrease_25 : decode cX9_tryAddCrease 25 = .ok (.aaload, 1) := by decide +kernel
theorem dX9_tryAddCrease_26 : decode cX9_tryAddCrease 26 = .ok (.astore_n 3, 1) := by decide +kernel
theorem dX9_tryAddCrease_27 : decode cX9_tryAddCrease 27 = .ok (.aload_n 3, 1) := by decide +kernel
theorem dX9_tryAddCrease_28 : decode cX9_tryAddCrease 28 = .ok (.getfield 63, 3) := by decide +kernel
theorem dX9_tryAddCrease_31 : decode cX9_tryAddCrease 31 = .ok (.bipush 6, 2) := by decide +kernel
theorem dX9_tryAddCrease_33 : decode cX9_tryAddCrease 33 = .ok (.if_icmp .ge 10, 3) := by decide +kernel
theorem dX9_tryAddCrease_36 : decode cX9_tryAddCrease 36 = .ok (.aload_n 3, 1) := by decide +kernel
theorem dX9_tryAddCrease_37 : decode cX9_tryAddCrease 37 = .ok (.getfield 66, 3) := by decide +kernel
theorem dX9_tryAddCrease_40 : decode cX9_tryAddCrease 40 = .ok (.ifCond .eq 6, 3) := by decide +kernel
theorem dX9_tryAddCrease_43 : decode cX9_tryAddCrease 43 = .ok (.bipush (-3), 2) := by decide +kernel
theorem dX9_tryAddCrease_45 : decode cX9_tryAddCrease 45 = .ok (.ireturn, 1) := by decide +kernel
theorem dX9_tryAddCrease_46 : decode cX9_tryAddCrease 46 = .ok (.aload_n 3, 1) := by decide +kernel
theorem dX9_tryAddCrease_47 : decode cX9_tryAddCrease 47 = .ok (.getfield 70, 3) := by decide +kernel
theorem dX9_tryAddCrease_50 : decode cX9_tryAddCrease 50 = .ok (.aload_n 3, 1) := by decide +kernel
theorem dX9_tryAddCrease_51 : decode cX9_tryAddCrease 51 = .ok (.getfield 63, 3) := by decide +kernel
theorem dX9_tryAddCrease_54 : decode cX9_tryAddCrease 54 = .ok (.iload_n 2, 1) := by decide +kernel
theorem dX9_tryAddCrease_55 : decode cX9_tryAddCrease 55 = .ok (.castore, 1) := by decide +kernel
theorem dX9_tryAddCrease_56 : decode cX9_tryAddCrease 56 = .ok (.aload_n 3, 1) := by decide +kernel
theorem dX9_tryAddCrease_57 : decode cX9_tryAddCrease 57 = .ok (.dup, 1) := by decide +kernel
theorem dX9_tryAddCrease_58 : decode cX9_tryAddCrease 58 = .ok (.getfield 63, 3) := by decide +kernel
theorem dX9_tryAddCrease_61 : decode cX9_tryAddCrease 61 = .ok (.iconst 1, 1) := by decide +kernel
theorem dX9_tryAddCrease_62 : decode cX9_tryAddCrease 62 = .ok (.iadd, 1) := by decide +kernel
theorem dX9_tryAddCrease_63 : decode cX9_tryAddCrease 63 = .ok (.putfield 63, 3) := by decide +kernel
theorem dX9_tryAddCrease_66 : decode cX9_tryAddCrease 66 = .ok (.aload_n 3, 1) := by decide +kernel
theorem dX9_tryAddCrease_67 : decode cX9_tryAddCrease 67 = .ok (.getfield 63, 3) := by decide +kernel
theorem dX9_tryAddCrease_70 : decode cX9_tryAddCrease 70 = .ok (.ireturn, 1) := by decide +kernel
theorem dX9_tryFold_0 : decode cX9_tryFold 0 = .ok (.aload_n 0, 1) := by decide +kernel
theorem dX9_tryFold_1 : decode cX9_tryFold 1 = .ok (.iload_n 1, 1) := by decide +kernel
theorem dX9_tryFold_2 : decode cX9_tryFold 2 = .ok (.invokevirtual 57, 3) := by decide +kernel
theorem dX9_tryFold_5 : decode cX9_tryFold 5 = .ok (.ifCond .ne 5, 3) := by decide +kernel
theorem dX9_tryFold_8 : decode cX9_tryFold 8 = .ok (.iconst (-1), 1) := by decide +kernel
theorem dX9_tryFold_9 : decode cX9_tryFold 9 = .ok (.ireturn, 1) := by decide +kernel
theorem dX9_tryFold_10 : decode cX9_tryFold 10 = .ok (.aload_n 0, 1) := by decide +kernel
theorem dX9_tryFold_11 : decode cX9_tryFold 11 = .ok (.getfield 11, 3) := by decide +kernel
theorem dX9_tryFold_14 : decode cX9_tryFold 14 = .ok (.iload_n 1, 1) := by decide +kernel
theorem dX9_tryFold_15 : decode cX9_tryFold 15 = .ok (.aaload, 1) := by decide +kernel
theorem dX9_tryFold_16 : decode cX9_tryFold 16 = .ok (.astore_n 2, 1) := by decide +kernel
theorem dX9_tryFold_17 : decode cX9_tryFold 17 = .ok (.aload_n 2, 1) := by decide +kernel
theorem dX9_tryFold_18 : decode cX9_tryFold 18 = .ok (.getfield 66, 3) := by decide +kernel
theorem dX9_tryFold_21 : decode cX9_tryFold 21 = .ok (.ifCond .ne 17, 3) := by decide +kernel
theorem dX9_tryFold_24 : decode cX9_tryFold 24 = .ok (.aload_n 2, 1) := by decide +kernel
theorem dX9_tryFold_25 : decode cX9_tryFold 25 = .ok (.getfield 63, 3) := by decide +kernel
theorem dX9_tryFold_28 : decode cX9_tryFold 28 = .ok (.ifCond .eq 10, 3) := by decide +kernel
theorem dX9_tryFold_31 : decode cX9_tryFold 31 = .ok (.aload_n 2, 1) := by decide +kernel
theorem dX9_tryFold_32 : decode cX9_tryFold 32 = .ok (.invokevirtual 74, 3) := by decide +kernel
theorem dX9_tryFold_35 : decode cX9_tryFold 35 = .ok (.ifCond .eq 6, 3) := by decide +kernel
theorem dX9_tryFold_38 : decode cX9_tryFold 38 = .ok (.bipush (-3), 2) := by decide +kernel
theorem dX9_tryFold_40 : decode cX9_tryFold 40 = .ok (.ireturn, 1) := by decide +kernel
theorem dX9_tryFold_41 : decode cX9_tryFold 41 = .ok (.aload_n 2, 1) := by decide +kernel
theorem dX9_tryFold_42 : decode cX9_tryFold 42 = .ok (.iconst 1, 1) := by decide +kernel
theorem dX9_tryFold_43 : decode cX9_tryFold 43 = .ok (.putfield 66, 3) := by decide +kernel
theorem dX9_tryFold_46 : decode cX9_tryFold 46 = .ok (.aload_n 2, 1) := by decide +kernel
theorem dX9_tryFold_47 : decode cX9_tryFold 47 = .ok (.bipush 9, 2) := by decide +kernel
theorem dX9_tryFold_49 : decode cX9_tryFold 49 = .ok (.aload_n 2, 1) := by decide +kernel
theorem dX9_tryFold_50 : decode cX9_tryFold 50 = .ok (.getfield 78, 3) := by decide +kernel
theorem dX9_tryFold_53 : decode cX9_tryFold 53 = .ok (.aload_n 2, 1) := by decide +kernel
theorem dX9_tryFold_54 : decode cX9_tryFold 54 = .ok (.getfield 63, 3) := by decide +kernel
theorem dX9_tryFold_57 : decode cX9_tryFold 57 = .ok (.iadd, 1) := by decide +kernel
theorem dX9_tryFold_58 : decode cX9_tryFold 58 = .ok (.invokestatic 81, 3) := by decide +kernel
theorem dX9_tryFold_61 : decode cX9_tryFold 61 = .ok (.putfield 78, 3) := by decide +kernel
theorem dX9_tryFold_64 : decode cX9_tryFold 64 = .ok (.aload_n 0, 1) := by decide +kernel
theorem dX9_tryFold_65 : decode cX9_tryFold 65 = .ok (.dup, 1) := by decide +kernel
theorem dX9_tryFold_66 : decode cX9_tryFold 66 = .ok (.getfield 42, 3) := by decide +kernel
theorem dX9_tryFold_69 : decode cX9_tryFold 69 = .ok (.iconst 1, 1) := by decide +kernel
theorem dX9_tryFold_70 : decode cX9_tryFold 70 = .ok (.iadd, 1) := by decide +kernel
theorem dX9_tryFold_71 : decode cX9_tryFold 71 = .ok (.putfield 42, 3) := by decide +kernel
theorem dX9_tryFold_74 : decode cX9_tryFold 74 = .ok (.aload_n 2, 1) := by decide +kernel
theorem dX9_tryFold_75 : decode cX9_tryFold 75 = .ok (.getfield 78, 3) := by decide +kernel
theorem dX9_tryFold_78 : decode cX9_tryFold 78 = .ok (.ireturn, 1) := by decide +kernel
theorem dX9_tryUnfold_0 : decode cX9_tryUnfold 0 = .ok (.aload_n 0, 1) := by decide +kernel
theorem dX9_tryUnfold_1 : decode cX9_tryUnfold 1 = .ok (.iload_n 1, 1) := by decide +kernel
theorem dX9_tryUnfold_2 : decode cX9_tryUnfold 2 = .ok (.invokevirtual 57, 3) := by decide +kernel
theorem dX9_tryUnfold_5 : decode cX9_tryUnfold 5 = .ok (.ifCond .ne 5, 3) := by decide +kernel
theorem dX9_tryUnfold_8 : decode cX9_tryUnfold 8 = .ok (.iconst (-1), 1) := by decide +kernel
theorem dX9_tryUnfold_9 : decode cX9_tryUnfold 9 = .ok (.ireturn, 1) := by decide +kernel
theorem dX9_tryUnfold_10 : decode cX9_tryUnfold 10 = .ok (.aload_n 0, 1) := by decide +kernel
theorem dX9_tryUnfold_11 : decode cX9_tryUnfold 11 = .ok (.getfield 11, 3) := by decide +kernel
theorem dX9_tryUnfold_14 : decode cX9_tryUnfold 14 = .ok (.iload_n 1, 1) := by decide +kernel
theorem dX9_tryUnfold_15 : decode cX9_tryUnfold 15 = .ok (.aaload, 1) := by decide +kernel
theorem dX9_tryUnfold_16 : decode cX9_tryUnfold 16 = .ok (.getfield 66, 3) := by decide +kernel
theorem dX9_tryUnfold_19 : decode cX9_tryUnfold 19 = .ok (.ifCond .ne 6, 3) := by decide +kernel
theorem dX9_tryUnfold_22 : decode cX9_tryUnfold 22 = .ok (.bipush (-3), 2) := by decide +kernel
theorem dX9_tryUnfold_24 : decode cX9_tryUnfold 24 = .ok (.ireturn, 1) := by decide +kernel
theorem dX9_tryUnfold_25 : decode cX9_tryUnfold 25 = .ok (.aload_n 0, 1) := by decide +kernel
theorem dX9_tryUnfold_26 : decode cX9_tryUnfold 26 = .ok (.getfield 11, 3) := by decide +kernel
theorem dX9_tryUnfold_29 : decode cX9_tryUnfold 29 = .ok (.iload_n 1, 1) := by decide +kernel
theorem dX9_tryUnfold_30 : decode cX9_tryUnfold 30 = .ok (.aaload, 1) := by decide +kernel
theorem dX9_tryUnfold_31 : decode cX9_tryUnfold 31 = .ok (.iconst 0, 1) := by decide +kernel
theorem dX9_tryUnfold_32 : decode cX9_tryUnfold 32 = .ok (.putfield 66, 3) := by decide +kernel
theorem dX9_tryUnfold_35 : decode cX9_tryUnfold 35 = .ok (.aload_n 0, 1) := by decide +kernel
theorem dX9_tryUnfold_36 : decode cX9_tryUnfold 36 = .ok (.invokevirtual 87, 3) := by decide +kernel
theorem dX9_tryUnfold_39 : decode cX9_tryUnfold 39 = .ok (.ireturn, 1) := by decide +kernel
theorem dX9_tryMend_0 : decode cX9_tryMend 0 = .ok (.aload_n 0, 1) := by decide +kernel
theorem dX9_tryMend_1 : decode cX9_tryMend 1 = .ok (.iload_n 1, 1) := by decide +kernel
theorem dX9_tryMend_2 : decode cX9_tryMend 2 = .ok (.invokevirtual 57, 3) := by decide +kernel
theorem dX9_tryMend_5 : decode cX9_tryMend 5 = .ok (.ifCond .ne 5, 3) := by decide +kernel
theorem dX9_tryMend_8 : decode cX9_tryMend 8 = .ok (.iconst (-1), 1) := by decide +kernel
theorem dX9_tryMend_9 : decode cX9_tryMend 9 = .ok (.ireturn, 1) := by decide +kernel
theorem dX9_tryMend_10 : decode cX9_tryMend 10 = .ok (.aload_n 0, 1) := by decide +kernel
theorem dX9_tryMend_11 : decode cX9_tryMend 11 = .ok (.getfield 11, 3) := by decide +kernel
theorem dX9_tryMend_14 : decode cX9_tryMend 14 = .ok (.iload_n 1, 1) := by decide +kernel
theorem dX9_tryMend_15 : decode cX9_tryMend 15 = .ok (.aaload, 1) := by decide +kernel
theorem dX9_tryMend_16 : decode cX9_tryMend 16 = .ok (.astore_n 2, 1) := by decide +kernel
theorem dX9_tryMend_17 : decode cX9_tryMend 17 = .ok (.aload_n 2, 1) := by decide +kernel
theorem dX9_tryMend_18 : decode cX9_tryMend 18 = .ok (.getfield 78, 3) := by decide +kernel
theorem dX9_tryMend_21 : decode cX9_tryMend 21 = .ok (.ifCond .eq 10, 3) := by decide +kernel
theorem dX9_tryMend_24 : decode cX9_tryMend 24 = .ok (.aload_n 2, 1) := by decide +kernel
theorem dX9_tryMend_25 : decode cX9_tryMend 25 = .ok (.getfield 66, 3) := by decide +kernel
theorem dX9_tryMend_28 : decode cX9_tryMend 28 = .ok (.ifCond .eq 6, 3) := by decide +kernel
theorem dX9_tryMend_31 : decode cX9_tryMend 31 = .ok (.bipush (-3), 2) := by decide +kernel
theorem dX9_tryMend_33 : decode cX9_tryMend 33 = .ok (.ireturn, 1) := by decide +kernel
theorem dX9_tryMend_34 : decode cX9_tryMend 34 = .ok (.aload_n 0, 1) := by decide +kernel
theorem dX9_tryMend_35 : decode cX9_tryMend 35 = .ok (.getfield 36, 3) := by decide +kernel
theorem dX9_tryMend_38 : decode cX9_tryMend 38 = .ok (.aload_n 2, 1) := by decide +kernel
theorem dX9_tryMend_39 : decode cX9_tryMend 39 = .ok (.getfield 78, 3) := by decide +kernel
theorem dX9_tryMend_42 : decode cX9_tryMend 42 = .ok (.if_icmp .ge 6, 3) := by decide +kernel
theorem dX9_tryMend_45 : decode cX9_tryMend 45 = .ok (.bipush (-4), 2) := by decide +kernel
theorem dX9_tryMend_47 : decode cX9_tryMend 47 = .ok (.ireturn, 1) := by decide +kernel
theorem dX9_tryMend_48 : decode cX9_tryMend 48 = .ok (.aload_n 0, 1) := by decide +kernel
theorem dX9_tryMend_49 : decode cX9_tryMend 49 = .ok (.dup, 1) := by decide +kernel
theorem dX9_tryMend_50 : decode cX9_tryMend 50 = .ok (.getfield 36, 3) := by decide +kernel
theorem dX9_tryMend_53 : decode cX9_tryMend 53 = .ok (.aload_n 2, 1) := by decide +kernel
theorem dX9_tryMend_54 : decode cX9_tryMend 54 = .ok (.getfield 78, 3) := by decide +kernel
theorem dX9_tryMend_57 : decode cX9_tryMend 57 = .ok (.isub, 1) := by decide +kernel
theorem dX9_tryMend_58 : decode cX9_tryMend 58 = .ok (.putfield 36, 3) := by decide +kernel
theorem dX9_tryMend_61 : decode cX9_tryMend 61 = .ok (.aload_n 0, 1) := by decide +kernel
theorem dX9_tryMend_62 : decode cX9_tryMend 62 = .ok (.dup, 1) := by decide +kernel
theorem dX9_tryMend_63 : decode cX9_tryMend 63 = .ok (.getfield 39, 3) := by decide +kernel
theorem dX9_tryMend_66 : decode cX9_tryMend 66 = .ok (.aload_n 2, 1) := by decide +kernel
theorem dX9_tryMend_67 : decode cX9_tryMend 67 = .ok (.getfield 78, 3) := by decide +kernel
theorem dX9_tryMend_70 : decode cX9_tryMend 70 = .ok (.iadd, 1) := by decide +kernel
theorem dX9_tryMend_71 : decode cX9_tryMend 71 = .ok (.putfield 39, 3) := by decide +kernel
theorem dX9_tryMend_74 : decode cX9_tryMend 74 = .ok (.aload_n 2, 1) := by decide +kernel
theorem dX9_tryMend_75 : decode cX9_tryMend 75 = .ok (.iconst 0, 1) := by decide +kernel
theorem dX9_tryMend_76 : decode cX9_tryMend 76 = .ok (.putfield 78, 3) := by decide +kernel
theorem dX9_tryMend_79 : decode cX9_tryMend 79 = .ok (.aload_n 0, 1) := by decide +kernel
theorem dX9_tryMend_80 : decode cX9_tryMend 80 = .ok (.getfield 36, 3) := by decide +kernel
theorem dX9_tryMend_83 : decode cX9_tryMend 83 = .ok (.ireturn, 1) := by decide +kernel
theorem dX9_tryPut_0 : decode cX9_tryPut 0 = .ok (.aload_n 0, 1) := by decide +kernel
theorem dX9_tryPut_1 : decode cX9_tryPut 1 = .ok (.iload_n 1, 1) := by decide +kernel
theorem dX9_tryPut_2 : decode cX9_tryPut 2 = .ok (.invokevirtual 57, 3) := by decide +kernel
theorem dX9_tryPut_5 : decode cX9_tryPut 5 = .ok (.ifCond .eq 10, 3) := by decide +kernel
theorem dX9_tryPut_8 : decode cX9_tryPut 8 = .ok (.iload_n 2, 1) := by decide +kernel
theorem dX9_tryPut_9 : decode cX9_tryPut 9 = .ok (.invokestatic 91, 3) := by decide +kernel
theorem dX9_tryPut_12 : decode cX9_tryPut 12 = .ok (.ifCond .ne 5, 3) := by decide +kernel
theorem dX9_tryPut_15 : decode cX9_tryPut 15 = .ok (.iconst (-1), 1) := by decide +kernel
theorem dX9_tryPut_16 : decode cX9_tryPut 16 = .ok (.ireturn, 1) := by decide +kernel
theorem dX9_tryPut_17 : decode cX9_tryPut 17 = .ok (.iload_n 3, 1) := by decide +kernel
theorem dX9_tryPut_18 : decode cX9_tryPut 18 = .ok (.invokestatic 94, 3) := by decide +kernel
theorem dX9_tryPut_21 : decode cX9_tryPut 21 = .ok (.ifCond .ne 6, 3) := by decide +kernel
theorem dX9_tryPut_24 : decode cX9_tryPut 24 = .ok (.bipush (-2), 2) := by decide +kernel
theorem dX9_tryPut_26 : decode cX9_tryPut 26 = .ok (.ireturn, 1) := by decide +kernel
theorem dX9_tryPut_27 : decode cX9_tryPut 27 = .ok (.aload_n 0, 1) := by decide +kernel
theorem dX9_tryPut_28 : decode cX9_tryPut 28 = .ok (.getfield 11, 3) := by decide +kernel
theorem dX9_tryPut_31 : decode cX9_tryPut 31 = .ok (.iload_n 1, 1) := by decide +kernel
theorem dX9_tryPut_32 : decode cX9_tryPut 32 = .ok (.aaload, 1) := by decide +kernel
theorem dX9_tryPut_33 : decode cX9_tryPut 33 = .ok (.invokevirtual 97, 3) := by decide +kernel
theorem dX9_tryPut_36 : decode cX9_tryPut 36 = .ok (.ifCond .eq 11, 3) := by decide +kernel
theorem dX9_tryPut_39 : decode cX9_tryPut 39 = .ok (.aload_n 0, 1) := by decide +kernel
theorem dX9_tryPut_40 : decode cX9_tryPut 40 = .ok (.iload_n 2, 1) := by decide +kernel
theorem dX9_tryPut_41 : decode cX9_tryPut 41 = .ok (.invokevirtual 100, 3) := by decide +kernel
theorem dX9_tryPut_44 : decode cX9_tryPut 44 = .ok (.ifCond .eq 6, 3) := by decide +kernel
theorem dX9_tryPut_47 : decode cX9_tryPut 47 = .ok (.bipush (-3), 2) := by decide +kernel
theorem dX9_tryPut_49 : decode cX9_tryPut 49 = .ok (.ireturn, 1) := by decide +kernel
theorem dX9_tryPut_50 : decode cX9_tryPut 50 = .ok (.aload_n 0, 1) := by decide +kernel
theorem dX9_tryPut_51 : decode cX9_tryPut 51 = .ok (.aload_n 0, 1) := by decide +kernel
theorem dX9_tryPut_52 : decode cX9_tryPut 52 = .ok (.getfield 11, 3) := by decide +kernel
theorem dX9_tryPut_55 : decode cX9_tryPut 55 = .ok (.iload_n 1, 1) := by decide +kernel
theorem dX9_tryPut_56 : decode cX9_tryPut 56 = .ok (.aaload, 1) := by decide +kernel
theorem dX9_tryPut_57 : decode cX9_tryPut 57 = .ok (.iload_n 2, 1) := by decide +kernel
theorem dX9_tryPut_58 : decode cX9_tryPut 58 = .ok (.iload_n 3, 1) := by decide +kernel
theorem dX9_tryPut_59 : decode cX9_tryPut 59 = .ok (.invokevirtual 103, 3) := by decide +kernel
theorem dX9_tryPut_62 : decode cX9_tryPut 62 = .ok (.ifCond .ne 6, 3) := by decide +kernel
theorem dX9_tryPut_65 : decode cX9_tryPut 65 = .ok (.bipush (-4), 2) := by decide +kernel
theorem dX9_tryPut_67 : decode cX9_tryPut 67 = .ok (.ireturn, 1) := by decide +kernel
theorem dX9_tryPut_68 : decode cX9_tryPut 68 = .ok (.aload_n 0, 1) := by decide +kernel
theorem dX9_tryPut_69 : decode cX9_tryPut 69 = .ok (.iload_n 1, 1) := by decide +kernel
theorem dX9_tryPut_70 : decode cX9_tryPut 70 = .ok (.iload_n 2, 1) := by decide +kernel
theorem dX9_tryPut_71 : decode cX9_tryPut 71 = .ok (.iload_n 3, 1) := by decide +kernel
theorem dX9_tryPut_72 : decode cX9_tryPut 72 = .ok (.invokevirtual 107, 3) := by decide +kernel
theorem dX9_tryPut_75 : decode cX9_tryPut 75 = .ok (.aload_n 0, 1) := by decide +kernel
theorem dX9_tryPut_76 : decode cX9_tryPut 76 = .ok (.iload_n 2, 1) := by decide +kernel
theorem dX9_tryPut_77 : decode cX9_tryPut 77 = .ok (.invokevirtual 111, 3) := by decide +kernel
theorem dX9_tryPut_80 : decode cX9_tryPut 80 = .ok (.ireturn, 1) := by decide +kernel
theorem dX9_tryTake_0 : decode cX9_tryTake 0 = .ok (.iload_n 1, 1) := by decide +kernel
theorem dX9_tryTake_1 : decode cX9_tryTake 1 = .ok (.invokestatic 91, 3) := by decide +kernel
theorem dX9_tryTake_4 : decode cX9_tryTake 4 = .ok (.ifCond .ne 5, 3) := by decide +kernel
theorem dX9_tryTake_7 : decode cX9_tryTake 7 = .ok (.iconst (-1), 1) := by decide +kernel
theorem dX9_tryTake_8 : decode cX9_tryTake 8 = .ok (.ireturn, 1) := by decide +kernel
theorem dX9_tryTake_9 : decode cX9_tryTake 9 = .ok (.aload_n 0, 1) := by decide +kernel
theorem dX9_tryTake_10 : decode cX9_tryTake 10 = .ok (.iload_n 1, 1) := by decide +kernel
theorem dX9_tryTake_11 : decode cX9_tryTake 11 = .ok (.invokevirtual 100, 3) := by decide +kernel
theorem dX9_tryTake_14 : decode cX9_tryTake 14 = .ok (.ifCond .ne 6, 3) := by decide +kernel
theorem dX9_tryTake_17 : decode cX9_tryTake 17 = .ok (.bipush (-5), 2) := by decide +kernel
theorem dX9_tryTake_19 : decode cX9_tryTake 19 = .ok (.ireturn, 1) := by decide +kernel
theorem dX9_tryTake_20 : decode cX9_tryTake 20 = .ok (.aload_n 0, 1) := by decide +kernel
theorem dX9_tryTake_21 : decode cX9_tryTake 21 = .ok (.getfield 17, 3) := by decide +kernel
theorem dX9_tryTake_24 : decode cX9_tryTake 24 = .ok (.iload_n 1, 1) := by decide +kernel
theorem dX9_tryTake_25 : decode cX9_tryTake 25 = .ok (.iaload, 1) := by decide +kernel
theorem dX9_tryTake_26 : decode cX9_tryTake 26 = .ok (.istore_n 2, 1) := by decide +kernel
theorem dX9_tryTake_27 : decode cX9_tryTake 27 = .ok (.aload_n 0, 1) := by decide +kernel
theorem dX9_tryTake_28 : decode cX9_tryTake 28 = .ok (.iload_n 1, 1) := by decide +kernel
theorem dX9_tryTake_29 : decode cX9_tryTake 29 = .ok (.invokevirtual 115, 3) := by decide +kernel
theorem dX9_tryTake_32 : decode cX9_tryTake 32 = .ok (.iload_n 2, 1) := by decide +kernel
theorem dX9_tryTake_33 : decode cX9_tryTake 33 = .ok (.ireturn, 1) := by decide +kernel
theorem dX9_tryAddPaste_0 : decode cX9_tryAddPaste 0 = .ok (.iload_n 1, 1) := by decide +kernel
theorem dX9_tryAddPaste_1 : decode cX9_tryAddPaste 1 = .ok (.iconst 1, 1) := by decide +kernel
theorem dX9_tryAddPaste_2 : decode cX9_tryAddPaste 2 = .ok (.if_icmp .lt 9, 3) := by decide +kernel
theorem dX9_tryAddPaste_5 : decode cX9_tryAddPaste 5 = .ok (.iload_n 1, 1) := by decide +kernel
theorem dX9_tryAddPaste_6 : decode cX9_tryAddPaste 6 = .ok (.bipush 20, 2) := by decide +kernel
theorem dX9_tryAddPaste_8 : decode cX9_tryAddPaste 8 = .ok (.if_icmp .le 6, 3) := by decide +kernel
theorem dX9_tryAddPaste_11 : decode cX9_tryAddPaste 11 = .ok (.bipush (-2), 2) := by decide +kernel
theorem dX9_tryAddPaste_13 : decode cX9_tryAddPaste 13 = .ok (.ireturn, 1) := by decide +kernel
theorem dX9_tryAddPaste_14 : decode cX9_tryAddPaste 14 = .ok (.aload_n 0, 1) := by decide +kernel
theorem dX9_tryAddPaste_15 : decode cX9_tryAddPaste 15 = .ok (.getfield 36, 3) := by decide +kernel
theorem dX9_tryAddPaste_18 : decode cX9_tryAddPaste 18 = .ok (.iload_n 1, 1) := by decide +kernel
theorem dX9_tryAddPaste_19 : decode cX9_tryAddPaste 19 = .ok (.iadd, 1) := by decide +kernel
theorem dX9_tryAddPaste_20 : decode cX9_tryAddPaste 20 = .ok (.bipush 50, 2) := by decide +kernel
theorem dX9_tryAddPaste_22 : decode cX9_tryAddPaste 22 = .ok (.if_icmp .le 6, 3) := by decide +kernel
theorem dX9_tryAddPaste_25 : decode cX9_tryAddPaste 25 = .ok (.bipush (-3), 2) := by decide +kernel
theorem dX9_tryAddPaste_27 : decode cX9_tryAddPaste 27 = .ok (.ireturn, 1) := by decide +kernel
theorem dX9_tryAddPaste_28 : decode cX9_tryAddPaste 28 = .ok (.aload_n 0, 1) := by decide +kernel
theorem dX9_tryAddPaste_29 : decode cX9_tryAddPaste 29 = .ok (.dup, 1) := by decide +kernel
theorem dX9_tryAddPaste_30 : decode cX9_tryAddPaste 30 = .ok (.getfield 36, 3) := by decide +kernel
theorem dX9_tryAddPaste_33 : decode cX9_tryAddPaste 33 = .ok (.iload_n 1, 1) := by decide +kernel
theorem dX9_tryAddPaste_34 : decode cX9_tryAddPaste 34 = .ok (.iadd, 1) := by decide +kernel
theorem dX9_tryAddPaste_35 : decode cX9_tryAddPaste 35 = .ok (.putfield 36, 3) := by decide +kernel
theorem dX9_tryAddPaste_38 : decode cX9_tryAddPaste 38 = .ok (.aload_n 0, 1) := by decide +kernel
theorem dX9_tryAddPaste_39 : decode cX9_tryAddPaste 39 = .ok (.getfield 36, 3) := by decide +kernel
theorem dX9_tryAddPaste_42 : decode cX9_tryAddPaste 42 = .ok (.ireturn, 1) := by decide +kernel
theorem dX9_hasSheet_0 : decode cX9_hasSheet 0 = .ok (.iload_n 1, 1) := by decide +kernel
theorem dX9_hasSheet_1 : decode cX9_hasSheet 1 = .ok (.ifCond .lt 15, 3) := by decide +kernel
theorem dX9_hasSheet_4 : decode cX9_hasSheet 4 = .ok (.iload_n 1, 1) := by decide +kernel
theorem dX9_hasSheet_5 : decode cX9_hasSheet 5 = .ok (.aload_n 0, 1) := by decide +kernel
theorem dX9_hasSheet_6 : decode cX9_hasSheet 6 = .ok (.getfield 32, 3) := by decide +kernel
theorem dX9_hasSheet_9 : decode cX9_hasSheet 9 = .ok (.if_icmp .ge 7, 3) := by decide +kernel
theorem dX9_hasSheet_12 : decode cX9_hasSheet 12 = .ok (.iconst 1, 1) := by decide +kernel
theorem dX9_hasSheet_13 : decode cX9_hasSheet 13 = .ok (.goto 4, 3) := by decide +kernel
theorem dX9_hasSheet_16 : decode cX9_hasSheet 16 = .ok (.iconst 0, 1) := by decide +kernel
theorem dX9_hasSheet_17 : decode cX9_hasSheet 17 = .ok (.ireturn, 1) := by decide +kernel
theorem dX9_isOccupied_0 : decode cX9_isOccupied 0 = .ok (.aload_n 0, 1) := by decide +kernel
theorem dX9_isOccupied_1 : decode cX9_isOccupied 1 = .ok (.getfield 17, 3) := by decide +kernel
theorem dX9_isOccupied_4 : decode cX9_isOccupied 4 = .ok (.iload_n 1, 1) := by decide +kernel
theorem dX9_isOccupied_5 : decode cX9_isOccupied 5 = .ok (.iaload, 1) := by decide +kernel
theorem dX9_isOccupied_6 : decode cX9_isOccupied 6 = .ok (.iconst (-1), 1) := by decide +kernel
theorem dX9_isOccupied_7 : decode cX9_isOccupied 7 = .ok (.if_icmp .eq 7, 3) := by decide +kernel
theorem dX9_isOccupied_10 : decode cX9_isOccupied 10 = .ok (.iconst 1, 1) := by decide +kernel
theorem dX9_isOccupied_11 : decode cX9_isOccupied 11 = .ok (.goto 4, 3) := by decide +kernel
theorem dX9_isOccupied_14 : decode cX9_isOccupied 14 = .ok (.iconst 0, 1) := by decide +kernel
theorem dX9_isOccupied_15 : decode cX9_isOccupied 15 = .ok (.ireturn, 1) := by decide +kernel
theorem dX9_sheetLaidIn_0 : decode cX9_sheetLaidIn 0 = .ok (.aload_n 0, 1) := by decide +kernel
theorem dX9_sheetLaidIn_1 : decode cX9_sheetLaidIn 1 = .ok (.getfield 11, 3) := by decide +kernel
theorem dX9_sheetLaidIn_4 : decode cX9_sheetLaidIn 4 = .ok (.aload_n 0, 1) := by decide +kernel
theorem dX9_sheetLaidIn_5 : decode cX9_sheetLaidIn 5 = .ok (.getfield 17, 3) := by decide +kernel
theorem dX9_sheetLaidIn_8 : decode cX9_sheetLaidIn 8 = .ok (.iload_n 1, 1) := by decide +kernel
theorem dX9_sheetLaidIn_9 : decode cX9_sheetLaidIn 9 = .ok (.iaload, 1) := by decide +kernel
theorem dX9_sheetLaidIn_10 : decode cX9_sheetLaidIn 10 = .ok (.aaload, 1) := by decide +kernel
theorem dX9_sheetLaidIn_11 : decode cX9_sheetLaidIn 11 = .ok (.areturn, 1) := by decide +kernel
theorem dX9_lay_0 : decode cX9_lay 0 = .ok (.aload_n 0, 1) := by decide +kernel
theorem dX9_lay_1 : decode cX9_lay 1 = .ok (.getfield 17, 3) := by decide +kernel
theorem dX9_lay_4 : decode cX9_lay 4 = .ok (.iload_n 2, 1) := by decide +kernel
theorem dX9_lay_5 : decode cX9_lay 5 = .ok (.iload_n 1, 1) := by decide +kernel
theorem dX9_lay_6 : decode cX9_lay 6 = .ok (.iastore, 1) := by decide +kernel
theorem dX9_lay_7 : decode cX9_lay 7 = .ok (.aload_n 0, 1) := by decide +kernel
theorem dX9_lay_8 : decode cX9_lay 8 = .ok (.getfield 11, 3) := by decide +kernel
theorem dX9_lay_11 : decode cX9_lay 11 = .ok (.iload_n 1, 1) := by decide +kernel
theorem dX9_lay_12 : decode cX9_lay 12 = .ok (.aaload, 1) := by decide +kernel
theorem dX9_lay_13 : decode cX9_lay 13 = .ok (.iload_n 2, 1) := by decide +kernel
theorem dX9_lay_14 : decode cX9_lay 14 = .ok (.putfield 119, 3) := by decide +kernel
theorem dX9_lay_17 : decode cX9_lay 17 = .ok (.aload_n 0, 1) := by decide +kernel
theorem dX9_lay_18 : decode cX9_lay 18 = .ok (.getfield 11, 3) := by decide +kernel
theorem dX9_lay_21 : decode cX9_lay 21 = .ok (.iload_n 1, 1) := by decide +kernel
theorem dX9_lay_22 : decode cX9_lay 22 = .ok (.aaload, 1) := by decide +kernel
theorem dX9_lay_23 : decode cX9_lay 23 = .ok (.iload_n 3, 1) := by decide +kernel
theorem dX9_lay_24 : decode cX9_lay 24 = .ok (.putfield 122, 3) := by decide +kernel
theorem dX9_lay_27 : decode cX9_lay 27 = .ok (.return_, 1) := by decide +kernel
theorem dX9_lift_0 : decode cX9_lift 0 = .ok (.aload_n 0, 1) := by decide +kernel
theorem dX9_lift_1 : decode cX9_lift 1 = .ok (.iload_n 1, 1) := by decide +kernel
theorem dX9_lift_2 : decode cX9_lift 2 = .ok (.invokevirtual 125, 3) := by decide +kernel
theorem dX9_lift_5 : decode cX9_lift 5 = .ok (.iconst (-1), 1) := by decide +kernel
theorem dX9_lift_6 : decode cX9_lift 6 = .ok (.putfield 119, 3) := by decide +kernel
theorem dX9_lift_9 : decode cX9_lift 9 = .ok (.aload_n 0, 1) := by decide +kernel
theorem dX9_lift_10 : decode cX9_lift 10 = .ok (.getfield 17, 3) := by decide +kernel
theorem dX9_lift_13 : decode cX9_lift 13 = .ok (.iload_n 1, 1) := by decide +kernel
theorem dX9_lift_14 : decode cX9_lift 14 = .ok (.iconst (-1), 1) := by decide +kernel
theorem dX9_lift_15 : decode cX9_lift 15 = .ok (.iastore, 1) := by decide +kernel
theorem dX9_lift_16 : decode cX9_lift 16 = .ok (.return_, 1) := by decide +kernel
theorem dX9_isOccupiedBeside_0 : decode cX9_isOccupiedBeside 0 = .ok (.iload_n 1, 1) := by decide +kernel
theorem dX9_isOccupiedBeside_1 : decode cX9_isOccupiedBeside 1 = .ok (.iload_n 2, 1) := by decide +kernel
theorem dX9_isOccupiedBeside_2 : decode cX9_isOccupiedBeside 2 = .ok (.invokestatic 129, 3) := by decide +kernel
theorem dX9_isOccupiedBeside_5 : decode cX9_isOccupiedBeside 5 = .ok (.istore_n 3, 1) := by decide +kernel
theorem dX9_isOccupiedBeside_6 : decode cX9_isOccupiedBeside 6 = .ok (.iload_n 3, 1) := by decide +kernel
theorem dX9_isOccupiedBeside_7 : decode cX9_isOccupiedBeside 7 = .ok (.iconst (-1), 1) := by decide +kernel
theorem dX9_isOccupiedBeside_8 : decode cX9_isOccupiedBeside 8 = .ok (.if_icmp .eq 15, 3) := by decide +kernel
theorem dX9_isOccupiedBeside_11 : decode cX9_isOccupiedBeside 11 = .ok (.aload_n 0, 1) := by decide +kernel
theorem dX9_isOccupiedBeside_12 : decode cX9_isOccupiedBeside 12 = .ok (.iload_n 3, 1) := by decide +kernel
theorem dX9_isOccupiedBeside_13 : decode cX9_isOccupiedBeside 13 = .ok (.invokevirtual 100, 3) := by decide +kernel
theorem dX9_isOccupiedBeside_16 : decode cX9_isOccupiedBeside 16 = .ok (.ifCond .eq 7, 3) := by decide +kernel
theorem dX9_isOccupiedBeside_19 : decode cX9_isOccupiedBeside 19 = .ok (.iconst 1, 1) := by decide +kernel
theorem dX9_isOccupiedBeside_20 : decode cX9_isOccupiedBeside 20 = .ok (.goto 4, 3) := by decide +kernel
theorem dX9_isOccupiedBeside_23 : decode cX9_isOccupiedBeside 23 = .ok (.iconst 0, 1) := by decide +kernel
theorem dX9_isOccupiedBeside_24 : decode cX9_isOccupiedBeside 24 = .ok (.ireturn, 1) := by decide +kernel
theorem dX9_countBeside_0 : decode cX9_countBeside 0 = .ok (.iconst 0, 1) := by decide +kernel
theorem dX9_countBeside_1 : decode cX9_countBeside 1 = .ok (.istore_n 2, 1) := by decide +kernel
theorem dX9_countBeside_2 : decode cX9_countBeside 2 = .ok (.iconst 0, 1) := by decide +kernel
theorem dX9_countBeside_3 : decode cX9_countBeside 3 = .ok (.istore_n 3, 1) := by decide +kernel
theorem dX9_countBeside_4 : decode cX9_countBeside 4 = .ok (.iload_n 3, 1) := by decide +kernel
theorem dX9_countBeside_5 : decode cX9_countBeside 5 = .ok (.iconst 4, 1) := by decide +kernel
theorem dX9_countBeside_6 : decode cX9_countBeside 6 = .ok (.if_icmp .ge 21, 3) := by decide +kernel
theorem dX9_countBeside_9 : decode cX9_countBeside 9 = .ok (.aload_n 0, 1) := by decide +kernel
theorem dX9_countBeside_10 : decode cX9_countBeside 10 = .ok (.iload_n 1, 1) := by decide +kernel
theorem dX9_countBeside_11 : decode cX9_countBeside 11 = .ok (.iload_n 3, 1) := by decide +kernel
theorem dX9_countBeside_12 : decode cX9_countBeside 12 = .ok (.invokevirtual 132, 3) := by decide +kernel
theorem dX9_countBeside_15 : decode cX9_countBeside 15 = .ok (.ifCond .eq 6, 3) := by decide +kernel
theorem dX9_countBeside_18 : decode cX9_countBeside 18 = .ok (.iinc 2 1, 3) := by decide +kernel
theorem dX9_countBeside_21 : decode cX9_countBeside 21 = .ok (.iinc 3 1, 3) := by decide +kernel
theorem dX9_countBeside_24 : decode cX9_countBeside 24 = .ok (.goto (-20), 3) := by decide +kernel
theorem dX9_countBeside_27 : decode cX9_countBeside 27 = .ok (.iload_n 2, 1) := by decide +kernel
theorem dX9_countBeside_28 : decode cX9_countBeside 28 = .ok (.ireturn, 1) := by decide +kernel
theorem dX9_countKindBeside_0 : decode cX9_countKindBeside 0 = .ok (.iconst 0, 1) := by decide +kernel
theorem dX9_countKindBeside_1 : decode cX9_countKindBeside 1 = .ok (.istore_n 3, 1) := by decide +kernel
theorem dX9_countKindBeside_2 : decode cX9_countKindBeside 2 = .ok (.iconst 0, 1) := by decide +kernel
theorem dX9_countKindBeside_3 : decode cX9_countKindBeside 3 = .ok (.istore 4, 2) := by decide +kernel
theorem dX9_countKindBeside_5 : decode cX9_countKindBeside 5 = .ok (.iload 4, 2) := by decide +kernel
theorem dX9_countKindBeside_7 : decode cX9_countKindBeside 7 = .ok (.iconst 4, 1) := by decide +kernel
theorem dX9_countKindBeside_8 : decode cX9_countKindBeside 8 = .ok (.if_icmp .ge 39, 3) := by decide +kernel
theorem dX9_countKindBeside_11 : decode cX9_countKindBeside 11 = .ok (.aload_n 0, 1) := by decide +kernel
theorem dX9_countKindBeside_12 : decode cX9_countKindBeside 12 = .ok (.iload_n 1, 1) := by decide +kernel
theorem dX9_countKindBeside_13 : decode cX9_countKindBeside 13 = .ok (.iload 4, 2) := by decide +kernel
theorem dX9_countKindBeside_15 : decode cX9_countKindBeside 15 = .ok (.invokevirtual 132, 3) := by decide +kernel
theorem dX9_countKindBeside_18 : decode cX9_countKindBeside 18 = .ok (.ifCond .eq 23, 3) := by decide +kernel
theorem dX9_countKindBeside_21 : decode cX9_countKindBeside 21 = .ok (.aload_n 0, 1) := by decide +kernel
theorem dX9_countKindBeside_22 : decode cX9_countKindBeside 22 = .ok (.iload_n 1, 1) := by decide +kernel
theorem dX9_countKindBeside_23 : decode cX9_countKindBeside 23 = .ok (.iload 4, 2) := by decide +kernel
theorem dX9_countKindBeside_25 : decode cX9_countKindBeside 25 = .ok (.invokestatic 129, 3) := by decide +kernel
theorem dX9_countKindBeside_28 : decode cX9_countKindBeside 28 = .ok (.invokevirtual 125, 3) := by decide +kernel
theorem dX9_countKindBeside_31 : decode cX9_countKindBeside 31 = .ok (.getfield 136, 3) := by decide +kernel
theorem dX9_countKindBeside_34 : decode cX9_countKindBeside 34 = .ok (.iload_n 2, 1) := by decide +kernel
theorem dX9_countKindBeside_35 : decode cX9_countKindBeside 35 = .ok (.if_icmp .ne 6, 3) := by decide +kernel
theorem dX9_countKindBeside_38 : decode cX9_countKindBeside 38 = .ok (.iinc 3 1, 3) := by decide +kernel
theorem dX9_countKindBeside_41 : decode cX9_countKindBeside 41 = .ok (.iinc 4 1, 3) := by decide +kernel
theorem dX9_countKindBeside_44 : decode cX9_countKindBeside 44 = .ok (.goto (-39), 3) := by decide +kernel
theorem dX9_countKindBeside_47 : decode cX9_countKindBeside 47 = .ok (.iload_n 3, 1) := by decide +kernel
theorem dX9_countKindBeside_48 : decode cX9_countKindBeside 48 = .ok (.ireturn, 1) := by decide +kernel
theorem dX9_fits_0 : decode cX9_fits 0 = .ok (.iconst 0, 1) := by decide +kernel
theorem dX9_fits_1 : decode cX9_fits 1 = .ok (.istore 4, 2) := by decide +kernel
theorem dX9_fits_3 : decode cX9_fits 3 = .ok (.iload 4, 2) := by decide +kernel
theorem dX9_fits_5 : decode cX9_fits 5 = .ok (.iconst 4, 1) := by decide +kernel
theorem dX9_fits_6 : decode cX9_fits 6 = .ok (.if_icmp .ge 53, 3) := by decide +kernel
theorem dX9_fits_9 : decode cX9_fits 9 = .ok (.aload_n 0, 1) := by decide +kernel
theorem dX9_fits_10 : decode cX9_fits 10 = .ok (.iload_n 2, 1) := by decide +kernel
theorem dX9_fits_11 : decode cX9_fits 11 = .ok (.iload 4, 2) := by decide +kernel
theorem dX9_fits_13 : decode cX9_fits 13 = .ok (.invokevirtual 132, 3) := by decide +kernel
theorem dX9_fits_16 : decode cX9_fits 16 = .ok (.ifCond .eq 37, 3) := by decide +kernel
theorem dX9_fits_19 : decode cX9_fits 19 = .ok (.aload_n 0, 1) := by decide +kernel
theorem dX9_fits_20 : decode cX9_fits 20 = .ok (.iload_n 2, 1) := by decide +kernel
theorem dX9_fits_21 : decode cX9_fits 21 = .ok (.iload 4, 2) := by decide +kernel
theorem dX9_fits_23 : decode cX9_fits 23 = .ok (.invokestatic 129, 3) := by decide +kernel
theorem dX9_fits_26 : decode cX9_fits 26 = .ok (.invokevirtual 125, 3) := by decide +kernel
theorem dX9_fits_29 : decode cX9_fits 29 = .ok (.astore 5, 2) := by decide +kernel
theorem dX9_fits_31 : decode cX9_fits 31 = .ok (.aload_n 1, 1) := by decide +kernel
theorem dX9_fits_32 : decode cX9_fits 32 = .ok (.iload 4, 2) := by decide +kernel
theorem dX9_fits_34 : decode cX9_fits 34 = .ok (.iload_n 3, 1) := by decide +kernel
theorem dX9_fits_35 : decode cX9_fits 35 = .ok (.invokevirtual 140, 3) := by decide +kernel
theorem dX9_fits_38 : decode cX9_fits 38 = .ok (.aload 5, 2) := by decide +kernel
theorem dX9_fits_40 : decode cX9_fits 40 = .ok (.iload 4, 2) := by decide +kernel
theorem dX9_fits_42 : decode cX9_fits 42 = .ok (.invokestatic 143, 3) := by decide +kernel
theorem dX9_fits_45 : decode cX9_fits 45 = .ok (.invokevirtual 146, 3) := by decide +kernel
theorem dX9_fits_48 : decode cX9_fits 48 = .ok (.if_icmp .eq 5, 3) := by decide +kernel
theorem dX9_fits_51 : decode cX9_fits 51 = .ok (.iconst 0, 1) := by decide +kernel
theorem dX9_fits_52 : decode cX9_fits 52 = .ok (.ireturn, 1) := by decide +kernel
theorem dX9_fits_53 : decode cX9_fits 53 = .ok (.iinc 4 1, 3) := by decide +kernel
theorem dX9_fits_56 : decode cX9_fits 56 = .ok (.goto (-53), 3) := by decide +kernel
theorem dX9_fits_59 : decode cX9_fits 59 = .ok (.iconst 1, 1) := by decide +kernel
theorem dX9_fits_60 : decode cX9_fits 60 = .ok (.ireturn, 1) := by decide +kernel
theorem dX9_countPlaces_0 : decode cX9_countPlaces 0 = .ok (.iconst 0, 1) := by decide +kernel
theorem dX9_countPlaces_1 : decode cX9_countPlaces 1 = .ok (.istore_n 2, 1) := by decide +kernel
theorem dX9_countPlaces_2 : decode cX9_countPlaces 2 = .ok (.iconst 0, 1) := by decide +kernel
theorem dX9_countPlaces_3 : decode cX9_countPlaces 3 = .ok (.istore_n 3, 1) := by decide +kernel
theorem dX9_countPlaces_4 : decode cX9_countPlaces 4 = .ok (.iload_n 3, 1) := by decide +kernel
theorem dX9_countPlaces_5 : decode cX9_countPlaces 5 = .ok (.bipush 9, 2) := by decide +kernel
theorem dX9_countPlaces_7 : decode cX9_countPlaces 7 = .ok (.if_icmp .ge 46, 3) := by decide +kernel
theorem dX9_countPlaces_10 : decode cX9_countPlaces 10 = .ok (.iconst 0, 1) := by decide +kernel
theorem dX9_countPlaces_11 : decode cX9_countPlaces 11 = .ok (.istore 4, 2) := by decide +kernel
theorem dX9_countPlaces_13 : decode cX9_countPlaces 13 = .ok (.iload 4, 2) := by decide +kernel
theorem dX9_countPlaces_15 : decode cX9_countPlaces 15 = .ok (.iconst 4, 1) := by decide +kernel
theorem dX9_countPlaces_16 : decode cX9_countPlaces 16 = .ok (.if_icmp .ge 31, 3) := by decide +kernel
theorem dX9_countPlaces_19 : decode cX9_countPlaces 19 = .ok (.aload_n 0, 1) := by decide +kernel
theorem dX9_countPlaces_20 : decode cX9_countPlaces 20 = .ok (.iload_n 3, 1) := by decide +kernel
theorem dX9_countPlaces_21 : decode cX9_countPlaces 21 = .ok (.invokevirtual 100, 3) := by decide +kernel
theorem dX9_countPlaces_24 : decode cX9_countPlaces 24 = .ok (.ifCond .ne 17, 3) := by decide +kernel
theorem dX9_countPlaces_27 : decode cX9_countPlaces 27 = .ok (.aload_n 0, 1) := by decide +kernel
theorem dX9_countPlaces_28 : decode cX9_countPlaces 28 = .ok (.aload_n 1, 1) := by decide +kernel
theorem dX9_countPlaces_29 : decode cX9_countPlaces 29 = .ok (.iload_n 3, 1) := by decide +kernel
theorem dX9_countPlaces_30 : decode cX9_countPlaces 30 = .ok (.iload 4, 2) := by decide +kernel
theorem dX9_countPlaces_32 : decode cX9_countPlaces 32 = .ok (.invokevirtual 103, 3) := by decide +kernel
theorem dX9_countPlaces_35 : decode cX9_countPlaces 35 = .ok (.ifCond .eq 6, 3) := by decide +kernel
theorem dX9_countPlaces_38 : decode cX9_countPlaces 38 = .ok (.iinc 2 1, 3) := by decide +kernel
theorem dX9_countPlaces_41 : decode cX9_countPlaces 41 = .ok (.iinc 4 1, 3) := by decide +kernel
theorem dX9_countPlaces_44 : decode cX9_countPlaces 44 = .ok (.goto (-31), 3) := by decide +kernel
theorem dX9_countPlaces_47 : decode cX9_countPlaces 47 = .ok (.iinc 3 1, 3) := by decide +kernel
theorem dX9_countPlaces_50 : decode cX9_countPlaces 50 = .ok (.goto (-46), 3) := by decide +kernel
theorem dX9_countPlaces_53 : decode cX9_countPlaces 53 = .ok (.iload_n 2, 1) := by decide +kernel
theorem dX9_countPlaces_54 : decode cX9_countPlaces 54 = .ok (.ireturn, 1) := by decide +kernel
theorem dX9_countEmpty_0 : decode cX9_countEmpty 0 = .ok (.iconst 0, 1) := by decide +kernel
theorem dX9_countEmpty_1 : decode cX9_countEmpty 1 = .ok (.istore_n 1, 1) := by decide +kernel
theorem dX9_countEmpty_2 : decode cX9_countEmpty 2 = .ok (.iconst 0, 1) := by decide +kernel
theorem dX9_countEmpty_3 : decode cX9_countEmpty 3 = .ok (.istore_n 2, 1) := by decide +kernel
theorem dX9_countEmpty_4 : decode cX9_countEmpty 4 = .ok (.iload_n 2, 1) := by decide +kernel
theorem dX9_countEmpty_5 : decode cX9_countEmpty 5 = .ok (.bipush 9, 2) := by decide +kernel
theorem dX9_countEmpty_7 : decode cX9_countEmpty 7 = .ok (.if_icmp .ge 20, 3) := by decide +kernel
theorem dX9_countEmpty_10 : decode cX9_countEmpty 10 = .ok (.aload_n 0, 1) := by decide +kernel
theorem dX9_countEmpty_11 : decode cX9_countEmpty 11 = .ok (.iload_n 2, 1) := by decide +kernel
theorem dX9_countEmpty_12 : decode cX9_countEmpty 12 = .ok (.invokevirtual 100, 3) := by decide +kernel
theorem dX9_countEmpty_15 : decode cX9_countEmpty 15 = .ok (.ifCond .ne 6, 3) := by decide +kernel
theorem dX9_countEmpty_18 : decode cX9_countEmpty 18 = .ok (.iinc 1 1, 3) := by decide +kernel
theorem dX9_countEmpty_21 : decode cX9_countEmpty 21 = .ok (.iinc 2 1, 3) := by decide +kernel
theorem dX9_countEmpty_24 : decode cX9_countEmpty 24 = .ok (.goto (-20), 3) := by decide +kernel
theorem dX9_countEmpty_27 : decode cX9_countEmpty 27 = .ok (.iload_n 1, 1) := by decide +kernel
theorem dX9_countEmpty_28 : decode cX9_countEmpty 28 = .ok (.ireturn, 1) := by decide +kernel
theorem dX9_countFlat_0 : decode cX9_countFlat 0 = .ok (.iconst 0, 1) := by decide +kernel
theorem dX9_countFlat_1 : decode cX9_countFlat 1 = .ok (.istore_n 1, 1) := by decide +kernel
theorem dX9_countFlat_2 : decode cX9_countFlat 2 = .ok (.iconst 0, 1) := by decide +kernel
theorem dX9_countFlat_3 : decode cX9_countFlat 3 = .ok (.istore_n 2, 1) := by decide +kernel
theorem dX9_countFlat_4 : decode cX9_countFlat 4 = .ok (.iload_n 2, 1) := by decide +kernel
theorem dX9_countFlat_5 : decode cX9_countFlat 5 = .ok (.aload_n 0, 1) := by decide +kernel
theorem dX9_countFlat_6 : decode cX9_countFlat 6 = .ok (.getfield 32, 3) := by decide +kernel
theorem dX9_countFlat_9 : decode cX9_countFlat 9 = .ok (.if_icmp .ge 24, 3) := by decide +kernel
theorem dX9_countFlat_12 : decode cX9_countFlat 12 = .ok (.aload_n 0, 1) := by decide +kernel
theorem dX9_countFlat_13 : decode cX9_countFlat 13 = .ok (.getfield 11, 3) := by decide +kernel
theorem dX9_countFlat_16 : decode cX9_countFlat 16 = .ok (.iload_n 2, 1) := by decide +kernel
theorem dX9_countFlat_17 : decode cX9_countFlat 17 = .ok (.aaload, 1) := by decide +kernel
theorem dX9_countFlat_18 : decode cX9_countFlat 18 = .ok (.getfield 66, 3) := by decide +kernel
theorem dX9_countFlat_21 : decode cX9_countFlat 21 = .ok (.ifCond .ne 6, 3) := by decide +kernel
theorem dX9_countFlat_24 : decode cX9_countFlat 24 = .ok (.iinc 1 1, 3) := by decide +kernel
theorem dX9_countFlat_27 : decode cX9_countFlat 27 = .ok (.iinc 2 1, 3) := by decide +kernel
theorem dX9_countFlat_30 : decode cX9_countFlat 30 = .ok (.goto (-26), 3) := by decide +kernel
theorem dX9_countFlat_33 : decode cX9_countFlat 33 = .ok (.iload_n 1, 1) := by decide +kernel
theorem dX9_countFlat_34 : decode cX9_countFlat 34 = .ok (.ireturn, 1) := by decide +kernel
theorem dX9_countNeighbourPairs_0 : decode cX9_countNeighbourPairs 0 = .ok (.iconst 0, 1) := by decide +kernel
theorem dX9_countNeighbourPairs_1 : decode cX9_countNeighbourPairs 1 = .ok (.istore_n 1, 1) := by decide +kernel
theorem dX9_countNeighbourPairs_2 : decode cX9_countNeighbourPairs 2 = .ok (.iconst 0, 1) := by decide +kernel
theorem dX9_countNeighbourPairs_3 : decode cX9_countNeighbourPairs 3 = .ok (.istore_n 2, 1) := by decide +kernel
theorem dX9_countNeighbourPairs_4 : decode cX9_countNeighbourPairs 4 = .ok (.iload_n 2, 1) := by decide +kernel
theorem dX9_countNeighbourPairs_5 : decode cX9_countNeighbourPairs 5 = .ok (.bipush 9, 2) := by decide +kernel
theorem dX9_countNeighbourPairs_7 : decode cX9_countNeighbourPairs 7 = .ok (.if_icmp .ge 42, 3) := by decide +kernel
theorem dX9_countNeighbourPairs_10 : decode cX9_countNeighbourPairs 10 = .ok (.iconst 1, 1) := by decide +kernel
theorem dX9_countNeighbourPairs_11 : decode cX9_countNeighbourPairs 11 = .ok (.istore_n 3, 1) := by decide +kernel
theorem dX9_countNeighbourPairs_12 : decode cX9_countNeighbourPairs 12 = .ok (.iload_n 3, 1) := by decide +kernel
theorem dX9_countNeighbourPairs_13 : decode cX9_countNeighbourPairs 13 = .ok (.iconst 2, 1) := by decide +kernel
theorem dX9_countNeighbourPairs_14 : decode cX9_countNeighbourPairs 14 = .ok (.if_icmp .gt 29, 3) := by decide +kernel
theorem dX9_countNeighbourPairs_17 : decode cX9_countNeighbourPairs 17 = .ok (.aload_n 0, 1) := by decide +kernel
theorem dX9_countNeighbourPairs_18 : decode cX9_countNeighbourPairs 18 = .ok (.iload_n 2, 1) := by decide +kernel
theorem dX9_countNeighbourPairs_19 : decode cX9_countNeighbourPairs 19 = .ok (.invokevirtual 100, 3) := by decide +kernel
theorem dX9_countNeighbourPairs_22 : decode cX9_countNeighbourPairs 22 = .ok (.ifCond .eq 15, 3) := by decide +kernel
theorem dX9_countNeighbourPairs_25 : decode cX9_countNeighbourPairs 25 = .ok (.aload_n 0, 1) := by decide +kernel
theorem dX9_countNeighbourPairs_26 : decode cX9_countNeighbourPairs 26 = .ok (.iload_n 2, 1) := by decide +kernel
theorem dX9_countNeighbourPairs_27 : decode cX9_countNeighbourPairs 27 = .ok (.iload_n 3, 1) := by decide +kernel
theorem dX9_countNeighbourPairs_28 : decode cX9_countNeighbourPairs 28 = .ok (.invokevirtual 132, 3) := by decide +kernel
theorem dX9_countNeighbourPairs_31 : decode cX9_countNeighbourPairs 31 = .ok (.ifCond .eq 6, 3) := by decide +kernel
theorem dX9_countNeighbourPairs_34 : decode cX9_countNeighbourPairs 34 = .ok (.iinc 1 1, 3) := by decide +kernel
theorem dX9_countNeighbourPairs_37 : decode cX9_countNeighbourPairs 37 = .ok (.iinc 3 1, 3) := by decide +kernel
theorem dX9_countNeighbourPairs_40 : decode cX9_countNeighbourPairs 40 = .ok (.goto (-28), 3) := by decide +kernel
theorem dX9_countNeighbourPairs_43 : decode cX9_countNeighbourPairs 43 = .ok (.iinc 2 1, 3) := by decide +kernel
theorem dX9_countNeighbourPairs_46 : decode cX9_countNeighbourPairs 46 = .ok (.goto (-42), 3) := by decide +kernel
theorem dX9_countNeighbourPairs_49 : decode cX9_countNeighbourPairs 49 = .ok (.iload_n 1, 1) := by decide +kernel
theorem dX9_countNeighbourPairs_50 : decode cX9_countNeighbourPairs 50 = .ok (.ireturn, 1) := by decide +kernel
theorem dX9_sumOfWear_0 : decode cX9_sumOfWear 0 = .ok (.iconst 0, 1) := by decide +kernel
theorem dX9_sumOfWear_1 : decode cX9_sumOfWear 1 = .ok (.istore_n 1, 1) := by decide +kernel
theorem dX9_sumOfWear_2 : decode cX9_sumOfWear 2 = .ok (.iconst 0, 1) := by decide +kernel
theorem dX9_sumOfWear_3 : decode cX9_sumOfWear 3 = .ok (.istore_n 2, 1) := by decide +kernel
theorem dX9_sumOfWear_4 : decode cX9_sumOfWear 4 = .ok (.iload_n 2, 1) := by decide +kernel
theorem dX9_sumOfWear_5 : decode cX9_sumOfWear 5 = .ok (.aload_n 0, 1) := by decide +kernel
theorem dX9_sumOfWear_6 : decode cX9_sumOfWear 6 = .ok (.getfield 32, 3) := by decide +kernel
theorem dX9_sumOfWear_9 : decode cX9_sumOfWear 9 = .ok (.if_icmp .ge 21, 3) := by decide +kernel
theorem dX9_sumOfWear_12 : decode cX9_sumOfWear 12 = .ok (.iload_n 1, 1) := by decide +kernel
theorem dX9_sumOfWear_13 : decode cX9_sumOfWear 13 = .ok (.aload_n 0, 1) := by decide +kernel
theorem dX9_sumOfWear_14 : decode cX9_sumOfWear 14 = .ok (.getfield 11, 3) := by decide +kernel
theorem dX9_sumOfWear_17 : decode cX9_sumOfWear 17 = .ok (.iload_n 2, 1) := by decide +kernel
theorem dX9_sumOfWear_18 : decode cX9_sumOfWear 18 = .ok (.aaload, 1) := by decide +kernel
theorem dX9_sumOfWear_19 : decode cX9_sumOfWear 19 = .ok (.getfield 78, 3) := by decide +kernel
theorem dX9_sumOfWear_22 : decode cX9_sumOfWear 22 = .ok (.iadd, 1) := by decide +kernel
theorem dX9_sumOfWear_23 : decode cX9_sumOfWear 23 = .ok (.istore_n 1, 1) := by decide +kernel
theorem dX9_sumOfWear_24 : decode cX9_sumOfWear 24 = .ok (.iinc 2 1, 3) := by decide +kernel
theorem dX9_sumOfWear_27 : decode cX9_sumOfWear 27 = .ok (.goto (-23), 3) := by decide +kernel
theorem dX9_sumOfWear_30 : decode cX9_sumOfWear 30 = .ok (.iload_n 1, 1) := by decide +kernel
theorem dX9_sumOfWear_31 : decode cX9_sumOfWear 31 = .ok (.ireturn, 1) := by decide +kernel
theorem dX9_sheetAtRank_0 : decode cX9_sheetAtRank 0 = .ok (.iconst 0, 1) := by decide +kernel
theorem dX9_sheetAtRank_1 : decode cX9_sheetAtRank 1 = .ok (.istore_n 2, 1) := by decide +kernel
theorem dX9_sheetAtRank_2 : decode cX9_sheetAtRank 2 = .ok (.iload_n 2, 1) := by decide +kernel
theorem dX9_sheetAtRank_3 : decode cX9_sheetAtRank 3 = .ok (.aload_n 0, 1) := by decide +kernel
theorem dX9_sheetAtRank_4 : decode cX9_sheetAtRank 4 = .ok (.getfield 32, 3) := by decide +kernel
theorem dX9_sheetAtRank_7 : decode cX9_sheetAtRank 7 = .ok (.if_icmp .ge 20, 3) := by decide +kernel
theorem dX9_sheetAtRank_10 : decode cX9_sheetAtRank 10 = .ok (.aload_n 0, 1) := by decide +kernel
theorem dX9_sheetAtRank_11 : decode cX9_sheetAtRank 11 = .ok (.iload_n 2, 1) := by decide +kernel
theorem dX9_sheetAtRank_12 : decode cX9_sheetAtRank 12 = .ok (.invokevirtual 149, 3) := by decide +kernel
theorem dX9_sheetAtRank_15 : decode cX9_sheetAtRank 15 = .ok (.iload_n 1, 1) := by decide +kernel
theorem dX9_sheetAtRank_16 : decode cX9_sheetAtRank 16 = .ok (.if_icmp .ne 5, 3) := by decide +kernel
theorem dX9_sheetAtRank_19 : decode cX9_sheetAtRank 19 = .ok (.iload_n 2, 1) := by decide +kernel
theorem dX9_sheetAtRank_20 : decode cX9_sheetAtRank 20 = .ok (.ireturn, 1) := by decide +kernel
theorem dX9_sheetAtRank_21 : decode cX9_sheetAtRank 21 = .ok (.iinc 2 1, 3) := by decide +kernel
theorem dX9_sheetAtRank_24 : decode cX9_sheetAtRank 24 = .ok (.goto (-22), 3) := by decide +kernel
theorem dX9_sheetAtRank_27 : decode cX9_sheetAtRank 27 = .ok (.iconst (-1), 1) := by decide +kernel
theorem dX9_sheetAtRank_28 : decode cX9_sheetAtRank 28 = .ok (.ireturn, 1) := by decide +kernel
theorem dX9_countBefore_0 : decode cX9_countBefore 0 = .ok (.iconst 0, 1) := by decide +kernel
theorem dX9_countBefore_1 : decode cX9_countBefore 1 = .ok (.istore_n 2, 1) := by decide +kernel
theorem dX9_countBefore_2 : decode cX9_countBefore 2 = .ok (.iconst 0, 1) := by decide +kernel
theorem dX9_countBefore_3 : decode cX9_countBefore 3 = .ok (.istore_n 3, 1) := by decide +kernel
theorem dX9_countBefore_4 : decode cX9_countBefore 4 = .ok (.iload_n 3, 1) := by decide +kernel
theorem dX9_countBefore_5 : decode cX9_countBefore 5 = .ok (.aload_n 0, 1) := by decide +kernel
theorem dX9_countBefore_6 : decode cX9_countBefore 6 = .ok (.getfield 32, 3) := by decide +kernel
theorem dX9_countBefore_9 : decode cX9_countBefore 9 = .ok (.if_icmp .ge 21, 3) := by decide +kernel
theorem dX9_countBefore_12 : decode cX9_countBefore 12 = .ok (.aload_n 0, 1) := by decide +kernel
theorem dX9_countBefore_13 : decode cX9_countBefore 13 = .ok (.iload_n 3, 1) := by decide +kernel
theorem dX9_countBefore_14 : decode cX9_countBefore 14 = .ok (.iload_n 1, 1) := by decide +kernel
theorem dX9_countBefore_15 : decode cX9_countBefore 15 = .ok (.invokevirtual 152, 3) := by decide +kernel
theorem dX9_countBefore_18 : decode cX9_countBefore 18 = .ok (.ifCond .eq 6, 3) := by decide +kernel
theorem dX9_countBefore_21 : decode cX9_countBefore 21 = .ok (.iinc 2 1, 3) := by decide +kernel
theorem dX9_countBefore_24 : decode cX9_countBefore 24 = .ok (.iinc 3 1, 3) := by decide +kernel
theorem dX9_countBefore_27 : decode cX9_countBefore 27 = .ok (.goto (-23), 3) := by decide +kernel
theorem dX9_countBefore_30 : decode cX9_countBefore 30 = .ok (.iload_n 2, 1) := by decide +kernel
theorem dX9_countBefore_31 : decode cX9_countBefore 31 = .ok (.ireturn, 1) := by decide +kernel
theorem dX9_comesBefore_0 : decode cX9_comesBefore 0 = .ok (.aload_n 0, 1) := by decide +kernel
theorem dX9_comesBefore_1 : decode cX9_comesBefore 1 = .ok (.getfield 11, 3) := by decide +kernel
theorem dX9_comesBefore_4 : decode cX9_comesBefore 4 = .ok (.iload_n 1, 1) := by decide +kernel
theorem dX9_comesBefore_5 : decode cX9_comesBefore 5 = .ok (.aaload, 1) := by decide +kernel
theorem dX9_comesBefore_6 : decode cX9_comesBefore 6 = .ok (.astore_n 3, 1) := by decide +kernel
theorem dX9_comesBefore_7 : decode cX9_comesBefore 7 = .ok (.aload_n 0, 1) := by decide +kernel
theorem dX9_comesBefore_8 : decode cX9_comesBefore 8 = .ok (.getfield 11, 3) := by decide +kernel
theorem dX9_comesBefore_11 : decode cX9_comesBefore 11 = .ok (.iload_n 2, 1) := by decide +kernel
theorem dX9_comesBefore_12 : decode cX9_comesBefore 12 = .ok (.aaload, 1) := by decide +kernel
theorem dX9_comesBefore_13 : decode cX9_comesBefore 13 = .ok (.astore 4, 2) := by decide +kernel
theorem dX9_comesBefore_15 : decode cX9_comesBefore 15 = .ok (.aload_n 3, 1) := by decide +kernel
theorem dX9_comesBefore_16 : decode cX9_comesBefore 16 = .ok (.getfield 78, 3) := by decide +kernel
theorem dX9_comesBefore_19 : decode cX9_comesBefore 19 = .ok (.aload 4, 2) := by decide +kernel
theorem dX9_comesBefore_21 : decode cX9_comesBefore 21 = .ok (.getfield 78, 3) := by decide +kernel
theorem dX9_comesBefore_24 : decode cX9_comesBefore 24 = .ok (.if_icmp .eq 21, 3) := by decide +kernel
theorem dX9_comesBefore_27 : decode cX9_comesBefore 27 = .ok (.aload_n 3, 1) := by decide +kernel
theorem dX9_comesBefore_28 : decode cX9_comesBefore 28 = .ok (.getfield 78, 3) := by decide +kernel
theorem dX9_comesBefore_31 : decode cX9_comesBefore 31 = .ok (.aload 4, 2) := by decide +kernel
theorem dX9_comesBefore_33 : decode cX9_comesBefore 33 = .ok (.getfield 78, 3) := by decide +kernel
theorem dX9_comesBefore_36 : decode cX9_comesBefore 36 = .ok (.if_icmp .le 7, 3) := by decide +kernel
theorem dX9_comesBefore_39 : decode cX9_comesBefore 39 = .ok (.iconst 1, 1) := by decide +kernel
theorem dX9_comesBefore_40 : decode cX9_comesBefore 40 = .ok (.goto 4, 3) := by decide +kernel
theorem dX9_comesBefore_43 : decode cX9_comesBefore 43 = .ok (.iconst 0, 1) := by decide +kernel
theorem dX9_comesBefore_44 : decode cX9_comesBefore 44 = .ok (.ireturn, 1) := by decide +kernel
theorem dX9_comesBefore_45 : decode cX9_comesBefore 45 = .ok (.aload_n 3, 1) := by decide +kernel
theorem dX9_comesBefore_46 : decode cX9_comesBefore 46 = .ok (.getfield 63, 3) := by decide +kernel
theorem dX9_comesBefore_49 : decode cX9_comesBefore 49 = .ok (.aload 4, 2) := by decide +kernel
theorem dX9_comesBefore_51 : decode cX9_comesBefore 51 = .ok (.getfield 63, 3) := by decide +kernel
theorem dX9_comesBefore_54 : decode cX9_comesBefore 54 = .ok (.if_icmp .eq 21, 3) := by decide +kernel
theorem dX9_comesBefore_57 : decode cX9_comesBefore 57 = .ok (.aload_n 3, 1) := by decide +kernel
theorem dX9_comesBefore_58 : decode cX9_comesBefore 58 = .ok (.getfield 63, 3) := by decide +kernel
theorem dX9_comesBefore_61 : decode cX9_comesBefore 61 = .ok (.aload 4, 2) := by decide +kernel
theorem dX9_comesBefore_63 : decode cX9_comesBefore 63 = .ok (.getfield 63, 3) := by decide +kernel
theorem dX9_comesBefore_66 : decode cX9_comesBefore 66 = .ok (.if_icmp .le 7, 3) := by decide +kernel
theorem dX9_comesBefore_69 : decode cX9_comesBefore 69 = .ok (.iconst 1, 1) := by decide +kernel
theorem dX9_comesBefore_70 : decode cX9_comesBefore 70 = .ok (.goto 4, 3) := by decide +kernel
theorem dX9_comesBefore_73 : decode cX9_comesBefore 73 = .ok (.iconst 0, 1) := by decide +kernel
theorem dX9_comesBefore_74 : decode cX9_comesBefore 74 = .ok (.ireturn, 1) := by decide +kernel
theorem dX9_comesBefore_75 : decode cX9_comesBefore 75 = .ok (.iload_n 1, 1) := by decide +kernel
theorem dX9_comesBefore_76 : decode cX9_comesBefore 76 = .ok (.iload_n 2, 1) := by decide +kernel
theorem dX9_comesBefore_77 : decode cX9_comesBefore 77 = .ok (.if_icmp .ge 7, 3) := by decide +kernel
theorem dX9_comesBefore_80 : decode cX9_comesBefore 80 = .ok (.iconst 1, 1) := by decide +kernel
theorem dX9_comesBefore_81 : decode cX9_comesBefore 81 = .ok (.goto 4, 3) := by decide +kernel
theorem dX9_comesBefore_84 : decode cX9_comesBefore 84 = .ok (.iconst 0, 1) := by decide +kernel
theorem dX9_comesBefore_85 : decode cX9_comesBefore 85 = .ok (.ireturn, 1) := by decide +kernel
theorem dX10_init_0 : decode cX10_init 0 = .ok (.aload_n 0, 1) := by decide +kernel
theorem dX10_init_1 : decode cX10_init 1 = .ok (.invokespecial 3, 3) := by decide +kernel
theorem dX10_init_4 : decode cX10_init 4 = .ok (.aload_n 0, 1) := by decide +kernel
theorem dX10_init_5 : decode cX10_init 5 = .ok (.new 9, 3) := by decide +kernel
theorem dX10_init_8 : decode cX10_init 8 = .ok (.dup, 1) := by decide +kernel
theorem dX10_init_9 : decode cX10_init 9 = .ok (.invokespecial 11, 3) := by decide +kernel
theorem dX10_init_12 : decode cX10_init 12 = .ok (.putfield 12, 3) := by decide +kernel
theorem dX10_init_15 : decode cX10_init 15 = .ok (.aload_n 0, 1) := by decide +kernel
theorem dX10_init_16 : decode cX10_init 16 = .ok (.new 9, 3) := by decide +kernel
theorem dX10_init_19 : decode cX10_init 19 = .ok (.dup, 1) := by decide +kernel
theorem dX10_init_20 : decode cX10_init 20 = .ok (.invokespecial 11, 3) := by decide +kernel
theorem dX10_init_23 : decode cX10_init 23 = .ok (.putfield 16, 3) := by decide +kernel
theorem dX10_init_26 : decode cX10_init 26 = .ok (.aload_n 0, 1) := by decide +kernel
theorem dX10_init_27 : decode cX10_init 27 = .ok (.new 19, 3) := by decide +kernel
theorem dX10_init_30 : decode cX10_init 30 = .ok (.dup, 1) := by decide +kernel
theorem dX10_init_31 : decode cX10_init 31 = .ok (.invokespecial 21, 3) := by decide +kernel
theorem dX10_init_34 : decode cX10_init 34 = .ok (.putfield 22, 3) := by decide +kernel
theorem dX10_init_37 : decode cX10_init 37 = .ok (.aload_n 0, 1) := by decide +kernel
theorem dX10_init_38 : decode cX10_init 38 = .ok (.new 26, 3) := by decide +kernel
theorem dX10_init_41 : decode cX10_init 41 = .ok (.dup, 1) := by decide +kernel
theorem dX10_init_42 : decode cX10_init 42 = .ok (.invokespecial 28, 3) := by decide +kernel
theorem dX10_init_45 : decode cX10_init 45 = .ok (.putfield 29, 3) := by decide +kernel
theorem dX10_init_48 : decode cX10_init 48 = .ok (.aload_n 0, 1) := by decide +kernel
theorem dX10_init_49 : decode cX10_init 49 = .ok (.new 33, 3) := by decide +kernel
theorem dX10_init_52 : decode cX10_init 52 = .ok (.dup, 1) := by decide +kernel
theorem dX10_init_53 : decode cX10_init 53 = .ok (.invokespecial 35, 3) := by decide +kernel
theorem dX10_init_56 : decode cX10_init 56 = .ok (.putfield 36, 3) := by decide +kernel
theorem dX10_init_59 : decode cX10_init 59 = .ok (.aload_n 0, 1) := by decide +kernel
theorem dX10_init_60 : decode cX10_init 60 = .ok (.new 40, 3) := by decide +kernel
theorem dX10_init_63 : decode cX10_init 63 = .ok (.dup, 1) := by decide +kernel
theorem dX10_init_64 : decode cX10_init 64 = .ok (.invokespecial 42, 3) := by decide +kernel
theorem dX10_init_67 : decode cX10_init 67 = .ok (.putfield 43, 3) := by decide +kernel
theorem dX10_init_70 : decode cX10_init 70 = .ok (.aload_n 0, 1) := by decide +kernel
theorem dX10_init_71 : decode cX10_init 71 = .ok (.new 47, 3) := by decide +kernel
theorem dX10_init_74 : decode cX10_init 74 = .ok (.dup, 1) := by decide +kernel
theorem dX10_init_75 : decode cX10_init 75 = .ok (.invokespecial 49, 3) := by decide +kernel
theorem dX10_init_78 : decode cX10_init 78 = .ok (.putfield 50, 3) := by decide +kernel
theorem dX10_init_81 : decode cX10_init 81 = .ok (.aload_n 0, 1) := by decide +kernel
theorem dX10_init_82 : decode cX10_init 82 = .ok (.iconst (-1), 1) := by decide +kernel
theorem dX10_init_83 : decode cX10_init 83 = .ok (.putfield 54, 3) := by decide +kernel
theorem dX10_init_86 : decode cX10_init 86 = .ok (.aload_n 0, 1) := by decide +kernel
theorem dX10_init_87 : decode cX10_init 87 = .ok (.iconst (-1), 1) := by decide +kernel
theorem dX10_init_88 : decode cX10_init 88 = .ok (.putfield 58, 3) := by decide +kernel
theorem dX10_init_91 : decode cX10_init 91 = .ok (.return_, 1) := by decide +kernel
theorem dX10_addSheet_0 : decode cX10_addSheet 0 = .ok (.aload_n 0, 1) := by decide +kernel
theorem dX10_addSheet_1 : decode cX10_addSheet 1 = .ok (.getfield 22, 3) := by decide +kernel
theorem dX10_addSheet_4 : decode cX10_addSheet 4 = .ok (.aload_n 0, 1) := by decide +kernel
theorem dX10_addSheet_5 : decode cX10_addSheet 5 = .ok (.getfield 12, 3) := by decide +kernel
theorem dX10_addSheet_8 : decode cX10_addSheet 8 = .ok (.invokevirtual 61, 3) := by decide +kernel
theorem dX10_addSheet_11 : decode cX10_addSheet 11 = .ok (.aload_n 0, 1) := by decide +kernel
theorem dX10_addSheet_12 : decode cX10_addSheet 12 = .ok (.aload_n 0, 1) := by decide +kernel
theorem dX10_addSheet_13 : decode cX10_addSheet 13 = .ok (.getfield 12, 3) := by decide +kernel
theorem dX10_addSheet_16 : decode cX10_addSheet 16 = .ok (.iload_n 1, 1) := by decide +kernel
theorem dX10_addSheet_17 : decode cX10_addSheet 17 = .ok (.iload_n 2, 1) := by decide +kernel
theorem dX10_addSheet_18 : decode cX10_addSheet 18 = .ok (.iload_n 3, 1) := by decide +kernel
theorem dX10_addSheet_19 : decode cX10_addSheet 19 = .ok (.iload 4, 2) := by decide +kernel
theorem dX10_addSheet_21 : decode cX10_addSheet 21 = .ok (.iload 5, 2) := by decide +kernel
theorem dX10_addSheet_23 : decode cX10_addSheet 23 = .ok (.invokevirtual 65, 3) := by decide +kernel
theorem dX10_addSheet_26 : decode cX10_addSheet 26 = .ok (.invokevirtual 69, 3) := by decide +kernel
theorem dX10_addSheet_29 : decode cX10_addSheet 29 = .ok (.ireturn, 1) := by decide +kernel
theorem dX10_addCrease_0 : decode cX10_addCrease 0 = .ok (.aload_n 0, 1) := by decide +kernel
theorem dX10_addCrease_1 : decode cX10_addCrease 1 = .ok (.getfield 22, 3) := by decide +kernel
theorem dX10_addCrease_4 : decode cX10_addCrease 4 = .ok (.aload_n 0, 1) := by decide +kernel
theorem dX10_addCrease_5 : decode cX10_addCrease 5 = .ok (.getfield 12, 3) := by decide +kernel
theorem dX10_addCrease_8 : decode cX10_addCrease 8 = .ok (.invokevirtual 61, 3) := by decide +kernel
theorem dX10_addCrease_11 : decode cX10_addCrease 11 = .ok (.aload_n 0, 1) := by decide +kernel
theorem dX10_addCrease_12 : decode cX10_addCrease 12 = .ok (.aload_n 0, 1) := by decide +kernel
theorem dX10_addCrease_13 : decode cX10_addCrease 13 = .ok (.getfield 12, 3) := by decide +kernel
theorem dX10_addCrease_16 : decode cX10_addCrease 16 = .ok (.iload_n 1, 1) := by decide +kernel
theorem dX10_addCrease_17 : decode cX10_addCrease 17 = .ok (.iload_n 2, 1) := by decide +kernel
theorem dX10_addCrease_18 : decode cX10_addCrease 18 = .ok (.invokevirtual 73, 3) := by decide +kernel
theorem dX10_addCrease_21 : decode cX10_addCrease 21 = .ok (.invokevirtual 69, 3) := by decide +kernel
theorem dX10_addCrease_24 : decode cX10_addCrease 24 = .ok (.ireturn, 1) := by decide +kernel
theorem dX10_fold_0 : decode cX10_fold 0 = .ok (.aload_n 0, 1) := by decide +kernel
theorem dX10_fold_1 : decode cX10_fold 1 = .ok (.getfield 22, 3) := by decide +kernel
theorem dX10_fold_4 : decode cX10_fold 4 = .ok (.aload_n 0, 1) := by decide +kernel
theorem dX10_fold_5 : decode cX10_fold 5 = .ok (.getfield 12, 3) := by decide +kernel
theorem dX10_fold_8 : decode cX10_fold 8 = .ok (.invokevirtual 61, 3) := by decide +kernel
theorem dX10_fold_11 : decode cX10_fold 11 = .ok (.aload_n 0, 1) := by decide +kernel
theorem dX10_fold_12 : decode cX10_fold 12 = .ok (.aload_n 0, 1) := by decide +kernel
theorem dX10_fold_13 : decode cX10_fold 13 = .ok (.getfield 12, 3) := by decide +kernel
theorem dX10_fold_16 : decode cX10_fold 16 = .ok (.iload_n 1, 1) := by decide +kernel
theorem dX10_fold_17 : decode cX10_fold 17 = .ok (.invokevirtual 77, 3) := by decide +kernel
theorem dX10_fold_20 : decode cX10_fold 20 = .ok (.invokevirtual 69, 3) := by decide +kernel
theorem dX10_fold_23 : decode cX10_fold 23 = .ok (.ireturn, 1) := by decide +kernel
theorem dX10_unfold_0 : decode cX10_unfold 0 = .ok (.aload_n 0, 1) := by decide +kernel
theorem dX10_unfold_1 : decode cX10_unfold 1 = .ok (.getfield 22, 3) := by decide +kernel
theorem dX10_unfold_4 : decode cX10_unfold 4 = .ok (.aload_n 0, 1) := by decide +kernel
theorem dX10_unfold_5 : decode cX10_unfold 5 = .ok (.getfield 12, 3) := by decide +kernel
theorem dX10_unfold_8 : decode cX10_unfold 8 = .ok (.invokevirtual 61, 3) := by decide +kernel
theorem dX10_unfold_11 : decode cX10_unfold 11 = .ok (.aload_n 0, 1) := by decide +kernel
theorem dX10_unfold_12 : decode cX10_unfold 12 = .ok (.aload_n 0, 1) := by decide +kernel
theorem dX10_unfold_13 : decode cX10_unfold 13 = .ok (.getfield 12, 3) := by decide +kernel
theorem dX10_unfold_16 : decode cX10_unfold 16 = .ok (.iload_n 1, 1) := by decide +kernel
theorem dX10_unfold_17 : decode cX10_unfold 17 = .ok (.invokevirtual 80, 3) := by decide +kernel
theorem dX10_unfold_20 : decode cX10_unfold 20 = .ok (.invokevirtual 69, 3) := by decide +kernel
theorem dX10_unfold_23 : decode cX10_unfold 23 = .ok (.ireturn, 1) := by decide +kernel
theorem dX10_mend_0 : decode cX10_mend 0 = .ok (.aload_n 0, 1) := by decide +kernel
theorem dX10_mend_1 : decode cX10_mend 1 = .ok (.getfield 22, 3) := by decide +kernel
theorem dX10_mend_4 : decode cX10_mend 4 = .ok (.aload_n 0, 1) := by decide +kernel
theorem dX10_mend_5 : decode cX10_mend 5 = .ok (.getfield 12, 3) := by decide +kernel
theorem dX10_mend_8 : decode cX10_mend 8 = .ok (.invokevirtual 61, 3) := by decide +kernel
theorem dX10_mend_11 : decode cX10_mend 11 = .ok (.aload_n 0, 1) := by decide +kernel
theorem dX10_mend_12 : decode cX10_mend 12 = .ok (.aload_n 0, 1) := by decide +kernel
theorem dX10_mend_13 : decode cX10_mend 13 = .ok (.getfield 12, 3) := by decide +kernel
theorem dX10_mend_16 : decode cX10_mend 16 = .ok (.iload_n 1, 1) := by decide +kernel
theorem dX10_mend_17 : decode cX10_mend 17 = .ok (.invokevirtual 83, 3) := by decide +kernel
theorem dX10_mend_20 : decode cX10_mend 20 = .ok (.invokevirtual 69, 3) := by decide +kernel
theorem dX10_mend_23 : decode cX10_mend 23 = .ok (.ireturn, 1) := by decide +kernel
theorem dX10_put_0 : decode cX10_put 0 = .ok (.aload_n 0, 1) := by decide +kernel
theorem dX10_put_1 : decode cX10_put 1 = .ok (.getfield 22, 3) := by decide +kernel
theorem dX10_put_4 : decode cX10_put 4 = .ok (.aload_n 0, 1) := by decide +kernel
theorem dX10_put_5 : decode cX10_put 5 = .ok (.getfield 12, 3) := by decide +kernel
theorem dX10_put_8 : decode cX10_put 8 = .ok (.invokevirtual 61, 3) := by decide +kernel
theorem dX10_put_11 : decode cX10_put 11 = .ok (.aload_n 0, 1) := by decide +kernel
theorem dX10_put_12 : decode cX10_put 12 = .ok (.aload_n 0, 1) := by decide +kernel
theorem dX10_put_13 : decode cX10_put 13 = .ok (.getfield 12, 3) := by decide +kernel
theorem dX10_put_16 : decode cX10_put 16 = .ok (.iload_n 1, 1) := by decide +kernel
theorem dX10_put_17 : decode cX10_put 17 = .ok (.iload_n 2, 1) := by decide +kernel
theorem dX10_put_18 : decode cX10_put 18 = .ok (.iload_n 3, 1) := by decide +kernel
theorem dX10_put_19 : decode cX10_put 19 = .ok (.invokevirtual 86, 3) := by decide +kernel
theorem dX10_put_22 : decode cX10_put 22 = .ok (.invokevirtual 69, 3) := by decide +kernel
theorem dX10_put_25 : decode cX10_put 25 = .ok (.ireturn, 1) := by decide +kernel
theorem dX10_take_0 : decode cX10_take 0 = .ok (.aload_n 0, 1) := by decide +kernel
theorem dX10_take_1 : decode cX10_take 1 = .ok (.getfield 22, 3) := by decide +kernel
theorem dX10_take_4 : decode cX10_take 4 = .ok (.aload_n 0, 1) := by decide +kernel
theorem dX10_take_5 : decode cX10_take 5 = .ok (.getfield 12, 3) := by decide +kernel
theorem dX10_take_8 : decode cX10_take 8 = .ok (.invokevirtual 61, 3) := by decide +kernel
theorem dX10_take_11 : decode cX10_take 11 = .ok (.aload_n 0, 1) := by decide +kernel
theorem dX10_take_12 : decode cX10_take 12 = .ok (.aload_n 0, 1) := by decide +kernel
theorem dX10_take_13 : decode cX10_take 13 = .ok (.getfield 12, 3) := by decide +kernel
theorem dX10_take_16 : decode cX10_take 16 = .ok (.iload_n 1, 1) := by decide +kernel
theorem dX10_take_17 : decode cX10_take 17 = .ok (.invokevirtual 90, 3) := by decide +kernel
theorem dX10_take_20 : decode cX10_take 20 = .ok (.invokevirtual 69, 3) := by decide +kernel
theorem dX10_take_23 : decode cX10_take 23 = .ok (.ireturn, 1) := by decide +kernel
theorem dX10_addPaste_0 : decode cX10_addPaste 0 = .ok (.aload_n 0, 1) := by decide +kernel
theorem dX10_addPaste_1 : decode cX10_addPaste 1 = .ok (.getfield 22, 3) := by decide +kernel
theorem dX10_addPaste_4 : decode cX10_addPaste 4 = .ok (.aload_n 0, 1) := by decide +kernel
theorem dX10_addPaste_5 : decode cX10_addPaste 5 = .ok (.getfield 12, 3) := by decide +kernel
theorem dX10_addPaste_8 : decode cX10_addPaste 8 = .ok (.invokevirtual 61, 3) := by decide +kernel
theorem dX10_addPaste_11 : decode cX10_addPaste 11 = .ok (.aload_n 0, 1) := by decide +kernel
theorem dX10_addPaste_12 : decode cX10_addPaste 12 = .ok (.aload_n 0, 1) := by decide +kernel
theorem dX10_addPaste_13 : decode cX10_addPaste 13 = .ok (.getfield 12, 3) := by decide +kernel
theorem dX10_addPaste_16 : decode cX10_addPaste 16 = .ok (.iload_n 1, 1) := by decide +kernel
theorem dX10_addPaste_17 : decode cX10_addPaste 17 = .ok (.invokevirtual 93, 3) := by decide +kernel
theorem dX10_addPaste_20 : decode cX10_addPaste 20 = .ok (.invokevirtual 69, 3) := by decide +kernel
theorem dX10_addPaste_23 : decode cX10_addPaste 23 = .ok (.ireturn, 1) := by decide +kernel
theorem dX10_sheetCount_0 : decode cX10_sheetCount 0 = .ok (.aload_n 0, 1) := by decide +kernel
theorem dX10_sheetCount_1 : decode cX10_sheetCount 1 = .ok (.getfield 12, 3) := by decide +kernel
theorem dX10_sheetCount_4 : decode cX10_sheetCount 4 = .ok (.getfield 96, 3) := by decide +kernel
theorem dX10_sheetCount_7 : decode cX10_sheetCount 7 = .ok (.ireturn, 1) := by decide +kernel
theorem dX10_kind_0 : decode cX10_kind 0 = .ok (.aload_n 0, 1) := by decide +kernel
theorem dX10_kind_1 : decode cX10_kind 1 = .ok (.iload_n 1, 1) := by decide +kernel
theorem dX10_kind_2 : decode cX10_kind 2 = .ok (.invokevirtual 99, 3) := by decide +kernel
theorem dX10_kind_5 : decode cX10_kind 5 = .ok (.getfield 103, 3) := by decide +kernel
theorem dX10_kind_8 : decode cX10_kind 8 = .ok (.ireturn, 1) := by decide +kernel
theorem dX10_border_0 : decode cX10_border 0 = .ok (.aload_n 0, 1) := by decide +kernel
theorem dX10_border_1 : decode cX10_border 1 = .ok (.iload_n 1, 1) := by decide +kernel
theorem dX10_border_2 : decode cX10_border 2 = .ok (.invokevirtual 99, 3) := by decide +kernel
theorem dX10_border_5 : decode cX10_border 5 = .ok (.astore_n 3, 1) := by decide +kernel
theorem dX10_border_6 : decode cX10_border 6 = .ok (.iload_n 2, 1) := by decide +kernel
theorem dX10_border_7 : decode cX10_border 7 = .ok (.invokestatic 109, 3) := by decide +kernel
theorem dX10_border_10 : decode cX10_border 10 = .ok (.aload_n 3, 1) := by decide +kernel
theorem dX10_border_11 : decode cX10_border 11 = .ok (.iload_n 2, 1) := by decide +kernel
theorem dX10_border_12 : decode cX10_border 12 = .ok (.iconst 0, 1) := by decide +kernel
theorem dX10_border_13 : decode cX10_border 13 = .ok (.invokevirtual 113, 3) := by decide +kernel
theorem dX10_border_16 : decode cX10_border 16 = .ok (.ireturn, 1) := by decide +kernel
theorem dX10_wear_0 : decode cX10_wear 0 = .ok (.aload_n 0, 1) := by decide +kernel
theorem dX10_wear_1 : decode cX10_wear 1 = .ok (.iload_n 1, 1) := by decide +kernel
theorem dX10_wear_2 : decode cX10_wear 2 = .ok (.invokevirtual 99, 3) := by decide +kernel
theorem dX10_wear_5 : decode cX10_wear 5 = .ok (.getfield 117, 3) := by decide +kernel
theorem dX10_wear_8 : decode cX10_wear 8 = .ok (.ireturn, 1) := by decide +kernel
theorem dX10_isTorn_0 : decode cX10_isTorn 0 = .ok (.aload_n 0, 1) := by decide +kernel
theorem dX10_isTorn_1 : decode cX10_isTorn 1 = .ok (.iload_n 1, 1) := by decide +kernel
theorem dX10_isTorn_2 : decode cX10_isTorn 2 = .ok (.invokevirtual 99, 3) := by decide +kernel
theorem dX10_isTorn_5 : decode cX10_isTorn 5 = .ok (.invokevirtual 120, 3) := by decide +kernel
theorem dX10_isTorn_8 : decode cX10_isTorn 8 = .ok (.ireturn, 1) := by decide +kernel
theorem dX10_isFolded_0 : decode cX10_isFolded 0 = .ok (.aload_n 0, 1) := by decide +kernel
theorem dX10_isFolded_1 : decode cX10_isFolded 1 = .ok (.iload_n 1, 1) := by decide +kernel
theorem dX10_isFolded_2 : decode cX10_isFolded 2 = .ok (.invokevirtual 99, 3) := by decide +kernel
theorem dX10_isFolded_5 : decode cX10_isFolded 5 = .ok (.getfield 124, 3) := by decide +kernel
theorem dX10_isFolded_8 : decode cX10_isFolded 8 = .ok (.ireturn, 1) := by decide +kernel
theorem dX10_creaseCount_0 : decode cX10_creaseCount 0 = .ok (.aload_n 0, 1) := by decide +kernel
theorem dX10_creaseCount_1 : decode cX10_creaseCount 1 = .ok (.iload_n 1, 1) := by decide +kernel
theorem dX10_creaseCount_2 : decode cX10_creaseCount 2 = .ok (.invokevirtual 99, 3) := by decide +kernel
theorem dX10_creaseCount_5 : decode cX10_creaseCount 5 = .ok (.getfield 128, 3) := by decide +kernel
theorem dX10_creaseCount_8 : decode cX10_creaseCount 8 = .ok (.ireturn, 1) := by decide +kernel
theorem dX10_crease_0 : decode cX10_crease 0 = .ok (.aload_n 0, 1) := by decide +kernel
theorem dX10_crease_1 : decode cX10_crease 1 = .ok (.iload_n 1, 1) := by decide +kernel
theorem dX10_crease_2 : decode cX10_crease 2 = .ok (.invokevirtual 99, 3) := by decide +kernel
theorem dX10_crease_5 : decode cX10_crease 5 = .ok (.astore_n 3, 1) := by decide +kernel
theorem dX10_crease_6 : decode cX10_crease 6 = .ok (.iload_n 2, 1) := by decide +kernel
theorem dX10_crease_7 : decode cX10_crease 7 = .ok (.ifCond .lt 11, 3) := by decide +kernel
theorem dX10_crease_10 : decode cX10_crease 10 = .ok (.iload_n 2, 1) := by decide +kernel
theorem dX10_crease_11 : decode cX10_crease 11 = .ok (.aload_n 3, 1) := by decide +kernel
theorem dX10_crease_12 : decode cX10_crease 12 = .ok (.getfield 128, 3) := by decide +kernel
theorem dX10_crease_15 : decode cX10_crease 15 = .ok (.if_icmp .lt 13, 3) := by decide +kernel
theorem dX10_crease_18 : decode cX10_crease 18 = .ok (.new 131, 3) := by decide +kernel
theorem dX10_crease_21 : decode cX10_crease 21 = .ok (.dup, 1) := by decide +kernel
theorem dX10_crease_22 : decode cX10_crease 22 = .ok (.ldc 133, 2) := by decide +kernel
theorem dX10_crease_24 : decode cX10_crease 24 = .ok (.invokespecial 135, 3) := by decide +kernel
theorem dX10_crease_27 : decode cX10_crease 27 = .ok (.athrow, 1) := by decide +kernel
theorem dX10_crease_28 : decode cX10_crease 28 = .ok (.aload_n 3, 1) := by decide +kernel
theorem dX10_crease_29 : decode cX10_crease 29 = .ok (.getfield 138, 3) := by decide +kernel
theorem dX10_crease_32 : decode cX10_crease 32 = .ok (.iload_n 2, 1) := by decide +kernel
theorem dX10_crease_33 : decode cX10_crease 33 = .ok (.caload, 1) := by decide +kernel
theorem dX10_crease_34 : decode cX10_crease 34 = .ok (.ireturn, 1) := by decide +kernel
theorem dX10_cellOf_0 : decode cX10_cellOf 0 = .ok (.aload_n 0, 1) := by decide +kernel
theorem dX10_cellOf_1 : decode cX10_cellOf 1 = .ok (.iload_n 1, 1) := by decide +kernel
theorem dX10_cellOf_2 : decode cX10_cellOf 2 = .ok (.invokevirtual 99, 3) := by decide +kernel
theorem dX10_cellOf_5 : decode cX10_cellOf 5 = .ok (.astore_n 2, 1) := by decide +kernel
theorem dX10_cellOf_6 : decode cX10_cellOf 6 = .ok (.aload_n 2, 1) := by decide +kernel
theorem dX10_cellOf_7 : decode cX10_cellOf 7 = .ok (.invokevirtual 142, 3) := by decide +kernel
theorem dX10_cellOf_10 : decode cX10_cellOf 10 = .ok (.ifCond .ne 13, 3) := by decide +kernel
theorem dX10_cellOf_13 : decode cX10_cellOf 13 = .ok (.new 145, 3) := by decide +kernel
theorem dX10_cellOf_16 : decode cX10_cellOf 16 = .ok (.dup, 1) := by decide +kernel
theorem dX10_cellOf_17 : decode cX10_cellOf 17 = .ok (.ldc 147, 2) := by decide +kernel
theorem dX10_cellOf_19 : decode cX10_cellOf 19 = .ok (.invokespecial 149, 3) := by decide +kernel
theorem dX10_cellOf_22 : decode cX10_cellOf 22 = .ok (.athrow, 1) := by decide +kernel
theorem dX10_cellOf_23 : decode cX10_cellOf 23 = .ok (.aload_n 2, 1) := by decide +kernel
theorem dX10_cellOf_24 : decode cX10_cellOf 24 = .ok (.getfield 150, 3) := by decide +kernel
theorem dX10_cellOf_27 : decode cX10_cellOf 27 = .ok (.ireturn, 1) := by decide +kernel
theorem dX10_sheetIn_0 : decode cX10_sheetIn 0 = .ok (.iload_n 1, 1) := by decide +kernel
theorem dX10_sheetIn_1 : decode cX10_sheetIn 1 = .ok (.invokestatic 153, 3) := by decide +kernel
theorem dX10_sheetIn_4 : decode cX10_sheetIn 4 = .ok (.aload_n 0, 1) := by decide +kernel
theorem dX10_sheetIn_5 : decode cX10_sheetIn 5 = .ok (.iload_n 1, 1) := by decide +kernel
theorem dX10_sheetIn_6 : decode cX10_sheetIn 6 = .ok (.invokevirtual 156, 3) := by decide +kernel
theorem dX10_sheetIn_9 : decode cX10_sheetIn 9 = .ok (.aload_n 0, 1) := by decide +kernel
theorem dX10_sheetIn_10 : decode cX10_sheetIn 10 = .ok (.getfield 12, 3) := by decide +kernel
theorem dX10_sheetIn_13 : decode cX10_sheetIn 13 = .ok (.getfield 159, 3) := by decide +kernel
theorem dX10_sheetIn_16 : decode cX10_sheetIn 16 = .ok (.iload_n 1, 1) := by decide +kernel
theorem dX10_sheetIn_17 : decode cX10_sheetIn 17 = .ok (.iaload, 1) := by decide +kernel
theorem dX10_sheetIn_18 : decode cX10_sheetIn 18 = .ok (.ireturn, 1) := by decide +kernel
theorem dX10_turnsIn_0 : decode cX10_turnsIn 0 = .ok (.iload_n 1, 1) := by decide +kernel
theorem dX10_turnsIn_1 : decode cX10_turnsIn 1 = .ok (.invokestatic 153, 3) := by decide +kernel
theorem dX10_turnsIn_4 : decode cX10_turnsIn 4 = .ok (.aload_n 0, 1) := by decide +kernel
theorem dX10_turnsIn_5 : decode cX10_turnsIn 5 = .ok (.iload_n 1, 1) := by decide +kernel
theorem dX10_turnsIn_6 : decode cX10_turnsIn 6 = .ok (.invokevirtual 156, 3) := by decide +kernel
theorem dX10_turnsIn_9 : decode cX10_turnsIn 9 = .ok (.aload_n 0, 1) := by decide +kernel
theorem dX10_turnsIn_10 : decode cX10_turnsIn 10 = .ok (.getfield 12, 3) := by decide +kernel
theorem dX10_turnsIn_13 : decode cX10_turnsIn 13 = .ok (.iload_n 1, 1) := by decide +kernel
theorem dX10_turnsIn_14 : decode cX10_turnsIn 14 = .ok (.invokevirtual 163, 3) := by decide +kernel
theorem dX10_turnsIn_17 : decode cX10_turnsIn 17 = .ok (.getfield 166, 3) := by decide +kernel
theorem dX10_turnsIn_20 : decode cX10_turnsIn 20 = .ok (.ireturn, 1) := by decide +kernel
theorem dX10_borderIn_0 : decode cX10_borderIn 0 = .ok (.iload_n 1, 1) := by decide +kernel
theorem dX10_borderIn_1 : decode cX10_borderIn 1 = .ok (.invokestatic 153, 3) := by decide +kernel
theorem dX10_borderIn_4 : decode cX10_borderIn 4 = .ok (.iload_n 2, 1) := by decide +kernel
theorem dX10_borderIn_5 : decode cX10_borderIn 5 = .ok (.invokestatic 109, 3) := by decide +kernel
theorem dX10_borderIn_8 : decode cX10_borderIn 8 = .ok (.aload_n 0, 1) := by decide +kernel
theorem dX10_borderIn_9 : decode cX10_borderIn 9 = .ok (.iload_n 1, 1) := by decide +kernel
theorem dX10_borderIn_10 : decode cX10_borderIn 10 = .ok (.invokevirtual 156, 3) := by decide +kernel
theorem dX10_borderIn_13 : decode cX10_borderIn 13 = .ok (.aload_n 0, 1) := by decide +kernel
theorem dX10_borderIn_14 : decode cX10_borderIn 14 = .ok (.getfield 12, 3) := by decide +kernel
theorem dX10_borderIn_17 : decode cX10_borderIn 17 = .ok (.iload_n 1, 1) := by decide +kernel
theorem dX10_borderIn_18 : decode cX10_borderIn 18 = .ok (.invokevirtual 163, 3) := by decide +kernel
theorem dX10_borderIn_21 : decode cX10_borderIn 21 = .ok (.iload_n 2, 1) := by decide +kernel
theorem dX10_borderIn_22 : decode cX10_borderIn 22 = .ok (.invokevirtual 169, 3) := by decide +kernel
theorem dX10_borderIn_25 : decode cX10_borderIn 25 = .ok (.ireturn, 1) := by decide +kernel
theorem dX10_emptyCells_0 : decode cX10_emptyCells 0 = .ok (.aload_n 0, 1) := by decide +kernel
theorem dX10_emptyCells_1 : decode cX10_emptyCells 1 = .ok (.getfield 12, 3) := by decide +kernel
theorem dX10_emptyCells_4 : decode cX10_emptyCells 4 = .ok (.invokevirtual 172, 3) := by decide +kernel
theorem dX10_emptyCells_7 : decode cX10_emptyCells 7 = .ok (.ireturn, 1) := by decide +kernel
theorem dX10_paste_0 : decode cX10_paste 0 = .ok (.aload_n 0, 1) := by decide +kernel
theorem dX10_paste_1 : decode cX10_paste 1 = .ok (.getfield 12, 3) := by decide +kernel
theorem dX10_paste_4 : decode cX10_paste 4 = .ok (.getfield 176, 3) := by decide +kernel
theorem dX10_paste_7 : decode cX10_paste 7 = .ok (.ireturn, 1) := by decide +kernel
theorem dX10_matches_0 : decode cX10_matches 0 = .ok (.aload_n 0, 1) := by decide +kernel
theorem dX10_matches_1 : decode cX10_matches 1 = .ok (.iload_n 1, 1) := by decide +kernel
theorem dX10_matches_2 : decode cX10_matches 2 = .ok (.invokevirtual 99, 3) := by decide +kernel
theorem dX10_matches_5 : decode cX10_matches 5 = .ok (.astore 4, 2) := by decide +kernel
theorem dX10_matches_7 : decode cX10_matches 7 = .ok (.iload_n 2, 1) := by decide +kernel
theorem dX10_matches_8 : decode cX10_matches 8 = .ok (.invokestatic 153, 3) := by decide +kernel
theorem dX10_matches_11 : decode cX10_matches 11 = .ok (.iload_n 3, 1) := by decide +kernel
theorem dX10_matches_12 : decode cX10_matches 12 = .ok (.invokestatic 179, 3) := by decide +kernel
theorem dX10_matches_15 : decode cX10_matches 15 = .ok (.ifCond .ne 13, 3) := by decide +kernel
theorem dX10_matches_18 : decode cX10_matches 18 = .ok (.new 183, 3) := by decide +kernel
theorem dX10_matches_21 : decode cX10_matches 21 = .ok (.dup, 1) := by decide +kernel
theorem dX10_matches_22 : decode cX10_matches 22 = .ok (.ldc 185, 2) := by decide +kernel
theorem dX10_matches_24 : decode cX10_matches 24 = .ok (.invokespecial 187, 3) := by decide +kernel
theorem dX10_matches_27 : decode cX10_matches 27 = .ok (.athrow, 1) := by decide +kernel
theorem dX10_matches_28 : decode cX10_matches 28 = .ok (.aload_n 0, 1) := by decide +kernel
theorem dX10_matches_29 : decode cX10_matches 29 = .ok (.getfield 12, 3) := by decide +kernel
theorem dX10_matches_32 : decode cX10_matches 32 = .ok (.iload_n 2, 1) := by decide +kernel
theorem dX10_matches_33 : decode cX10_matches 33 = .ok (.invokevirtual 188, 3) := by decide +kernel
theorem dX10_matches_36 : decode cX10_matches 36 = .ok (.ifCond .ne 11, 3) := by decide +kernel
theorem dX10_matches_39 : decode cX10_matches 39 = .ok (.aload 4, 2) := by decide +kernel
theorem dX10_matches_41 : decode cX10_matches 41 = .ok (.invokevirtual 142, 3) := by decide +kernel
theorem dX10_matches_44 : decode cX10_matches 44 = .ok (.ifCond .eq 13, 3) := by decide +kernel
theorem dX10_matches_47 : decode cX10_matches 47 = .ok (.new 191, 3) := by decide +kernel
theorem dX10_matches_50 : decode cX10_matches 50 = .ok (.dup, 1) := by decide +kernel
theorem dX10_matches_51 : decode cX10_matches 51 = .ok (.ldc 193, 2) := by decide +kernel
theorem dX10_matches_53 : decode cX10_matches 53 = .ok (.invokespecial 195, 3) := by decide +kernel
theorem dX10_matches_56 : decode cX10_matches 56 = .ok (.athrow, 1) := by decide +kernel
theorem dX10_matches_57 : decode cX10_matches 57 = .ok (.aload_n 0, 1) := by decide +kernel
theorem dX10_matches_58 : decode cX10_matches 58 = .ok (.getfield 12, 3) := by decide +kernel
theorem dX10_matches_61 : decode cX10_matches 61 = .ok (.aload 4, 2) := by decide +kernel
theorem dX10_matches_63 : decode cX10_matches 63 = .ok (.iload_n 2, 1) := by decide +kernel
theorem dX10_matches_64 : decode cX10_matches 64 = .ok (.iload_n 3, 1) := by decide +kernel
theorem dX10_matches_65 : decode cX10_matches 65 = .ok (.invokevirtual 196, 3) := by decide +kernel
theorem dX10_matches_68 : decode cX10_matches 68 = .ok (.ireturn, 1) := by decide +kernel
theorem dX10_waysToPut_0 : decode cX10_waysToPut 0 = .ok (.aload_n 0, 1) := by decide +kernel
theorem dX10_waysToPut_1 : decode cX10_waysToPut 1 = .ok (.iload_n 1, 1) := by decide +kernel
theorem dX10_waysToPut_2 : decode cX10_waysToPut 2 = .ok (.invokevirtual 99, 3) := by decide +kernel
theorem dX10_waysToPut_5 : decode cX10_waysToPut 5 = .ok (.astore_n 2, 1) := by decide +kernel
theorem dX10_waysToPut_6 : decode cX10_waysToPut 6 = .ok (.aload_n 2, 1) := by decide +kernel
theorem dX10_waysToPut_7 : decode cX10_waysToPut 7 = .ok (.invokevirtual 200, 3) := by decide +kernel
theorem dX10_waysToPut_10 : decode cX10_waysToPut 10 = .ok (.ifCond .eq 14, 3) := by decide +kernel
theorem dX10_waysToPut_13 : decode cX10_waysToPut 13 = .ok (.aload_n 0, 1) := by decide +kernel
theorem dX10_waysToPut_14 : decode cX10_waysToPut 14 = .ok (.getfield 12, 3) := by decide +kernel
theorem dX10_waysToPut_17 : decode cX10_waysToPut 17 = .ok (.aload_n 2, 1) := by decide +kernel
theorem dX10_waysToPut_18 : decode cX10_waysToPut 18 = .ok (.invokevirtual 203, 3) := by decide +kernel
theorem dX10_waysToPut_21 : decode cX10_waysToPut 21 = .ok (.goto 4, 3) := by decide +kernel
theorem dX10_waysToPut_24 : decode cX10_waysToPut 24 = .ok (.iconst 0, 1) := by decide +kernel
theorem dX10_waysToPut_25 : decode cX10_waysToPut 25 = .ok (.ireturn, 1) := by decide +kernel
theorem dX10_completions_0 : decode cX10_completions 0 = .ok (.aload_n 0, 1) := by decide +kernel
theorem dX10_completions_1 : decode cX10_completions 1 = .ok (.invokevirtual 207, 3) := by decide +kernel
theorem dX10_completions_4 : decode cX10_completions 4 = .ok (.aload_n 0, 1) := by decide +kernel
theorem dX10_completions_5 : decode cX10_completions 5 = .ok (.getfield 12, 3) := by decide +kernel
theorem dX10_completions_8 : decode cX10_completions 8 = .ok (.iconst 0, 1) := by decide +kernel
theorem dX10_completions_9 : decode cX10_completions 9 = .ok (.iconst 0, 1) := by decide +kernel
theorem dX10_completions_10 : decode cX10_completions 10 = .ok (.invokestatic 210, 3) := by decide +kernel
theorem dX10_completions_13 : decode cX10_completions 13 = .ok (.ireturn, 1) := by decide +kernel
theorem dX10_completionsBackwards_0 : decode cX10_completionsBackwards 0 = .ok (.aload_n 0, 1) := by decide +kernel
theorem dX10_completionsBackwards_1 : decode cX10_completionsBackwards 1 = .ok (.invokevirtual 207, 3) := by decide +kernel
theorem dX10_completionsBackwards_4 : decode cX10_completionsBackwards 4 = .ok (.aload_n 0, 1) := by decide +kernel
theorem dX10_completionsBackwards_5 : decode cX10_completionsBackwards 5 = .ok (.getfield 12, 3) := by decide +kernel
theorem dX10_completionsBackwards_8 : decode cX10_completionsBackwards 8 = .ok (.iconst 0, 1) := by decide +kernel
theorem dX10_completionsBackwards_9 : decode cX10_completionsBackwards 9 = .ok (.iconst 1, 1) := by decide +kernel
theorem dX10_completionsBackwards_10 : decode cX10_completionsBackwards 10 = .ok (.invokestatic 210, 3) := by decide +kernel
theorem dX10_completionsBackwards_13 : decode cX10_completionsBackwards 13 = .ok (.ireturn, 1) := by decide +kernel
theorem dX10_foldings_0 : decode cX10_foldings 0 = .ok (.aload_n 0, 1) := by decide +kernel
theorem dX10_foldings_1 : decode cX10_foldings 1 = .ok (.getfield 36, 3) := by decide +kernel
theorem dX10_foldings_4 : decode cX10_foldings 4 = .ok (.aload_n 0, 1) := by decide +kernel
theorem dX10_foldings_5 : decode cX10_foldings 5 = .ok (.iload_n 1, 1) := by decide +kernel
theorem dX10_foldings_6 : decode cX10_foldings 6 = .ok (.invokevirtual 99, 3) := by decide +kernel
theorem dX10_foldings_9 : decode cX10_foldings 9 = .ok (.iconst (-1), 1) := by decide +kernel
theorem dX10_foldings_10 : decode cX10_foldings 10 = .ok (.invokevirtual 214, 3) := by decide +kernel
theorem dX10_foldings_13 : decode cX10_foldings 13 = .ok (.ireturn, 1) := by decide +kernel
theorem dX10_foldingsByPermutations_0 : decode cX10_foldingsByPermutations 0 = .ok (.aload_n 0, 1) := by decide +kernel
theorem dX10_foldingsByPermutations_1 : decode cX10_foldingsByPermutations 1 = .ok (.getfield 36, 3) := by decide +kernel
theorem dX10_foldingsByPermutations_4 : decode cX10_foldingsByPermutations 4 = .ok (.aload_n 0, 1) := by decide +kernel
theorem dX10_foldingsByPermutations_5 : decode cX10_foldingsByPermutations 5 = .ok (.iload_n 1, 1) := by decide +kernel
theorem dX10_foldingsByPermutations_6 : decode cX10_foldingsByPermutations 6 = .ok (.invokevirtual 99, 3) := by decide +kernel
theorem dX10_foldingsByPermutations_9 : decode cX10_foldingsByPermutations 9 = .ok (.invokevirtual 218, 3) := by decide +kernel
theorem dX10_foldingsByPermutations_12 : decode cX10_foldingsByPermutations 12 = .ok (.ireturn, 1) := by decide +kernel
theorem dX10_canBeOnTop_0 : decode cX10_canBeOnTop 0 = .ok (.aload_n 0, 1) := by decide +kernel
theorem dX10_canBeOnTop_1 : decode cX10_canBeOnTop 1 = .ok (.iload_n 1, 1) := by decide +kernel
theorem dX10_canBeOnTop_2 : decode cX10_canBeOnTop 2 = .ok (.invokevirtual 99, 3) := by decide +kernel
theorem dX10_canBeOnTop_5 : decode cX10_canBeOnTop 5 = .ok (.astore_n 3, 1) := by decide +kernel
theorem dX10_canBeOnTop_6 : decode cX10_canBeOnTop 6 = .ok (.iload_n 2, 1) := by decide +kernel
theorem dX10_canBeOnTop_7 : decode cX10_canBeOnTop 7 = .ok (.ifCond .lt 11, 3) := by decide +kernel
theorem dX10_canBeOnTop_10 : decode cX10_canBeOnTop 10 = .ok (.iload_n 2, 1) := by decide +kernel
theorem dX10_canBeOnTop_11 : decode cX10_canBeOnTop 11 = .ok (.aload_n 3, 1) := by decide +kernel
theorem dX10_canBeOnTop_12 : decode cX10_canBeOnTop 12 = .ok (.getfield 128, 3) := by decide +kernel
theorem dX10_canBeOnTop_15 : decode cX10_canBeOnTop 15 = .ok (.if_icmp .le 13, 3) := by decide +kernel
theorem dX10_canBeOnTop_18 : decode cX10_canBeOnTop 18 = .ok (.new 131, 3) := by decide +kernel
theorem dX10_canBeOnTop_21 : decode cX10_canBeOnTop 21 = .ok (.dup, 1) := by decide +kernel
theorem dX10_canBeOnTop_22 : decode cX10_canBeOnTop 22 = .ok (.ldc 221, 2) := by decide +kernel
theorem dX10_canBeOnTop_24 : decode cX10_canBeOnTop 24 = .ok (.invokespecial 135, 3) := by decide +kernel
theorem dX10_canBeOnTop_27 : decode cX10_canBeOnTop 27 = .ok (.athrow, 1) := by decide +kernel
theorem dX10_canBeOnTop_28 : decode cX10_canBeOnTop 28 = .ok (.aload_n 0, 1) := by decide +kernel
theorem dX10_canBeOnTop_29 : decode cX10_canBeOnTop 29 = .ok (.getfield 36, 3) := by decide +kernel
theorem dX10_canBeOnTop_32 : decode cX10_canBeOnTop 32 = .ok (.aload_n 3, 1) := by decide +kernel
theorem dX10_canBeOnTop_33 : decode cX10_canBeOnTop 33 = .ok (.iload_n 2, 1) := by decide +kernel
theorem dX10_canBeOnTop_34 : decode cX10_canBeOnTop 34 = .ok (.invokevirtual 214, 3) := by decide +kernel
theorem dX10_canBeOnTop_37 : decode cX10_canBeOnTop 37 = .ok (.ifCond .le 7, 3) := by decide +kernel
theorem dX10_canBeOnTop_40 : decode cX10_canBeOnTop 40 = .ok (.iconst 1, 1) := by decide +kernel
theorem dX10_canBeOnTop_41 : decode cX10_canBeOnTop 41 = .ok (.goto 4, 3) := by decide +kernel
theorem dX10_canBeOnTop_44 : decode cX10_canBeOnTop 44 = .ok (.iconst 0, 1) := by decide +kernel
theorem dX10_canBeOnTop_45 : decode cX10_canBeOnTop 45 = .ok (.ireturn, 1) := by decide +kernel
theorem dX10_pointsOf_0 : decode cX10_pointsOf 0 = .ok (.iload_n 1, 1) := by decide +kernel
theorem dX10_pointsOf_1 : decode cX10_pointsOf 1 = .ok (.invokestatic 153, 3) := by decide +kernel
theorem dX10_pointsOf_4 : decode cX10_pointsOf 4 = .ok (.aload_n 0, 1) := by decide +kernel
theorem dX10_pointsOf_5 : decode cX10_pointsOf 5 = .ok (.iload_n 1, 1) := by decide +kernel
theorem dX10_pointsOf_6 : decode cX10_pointsOf 6 = .ok (.invokevirtual 156, 3) := by decide +kernel
theorem dX10_pointsOf_9 : decode cX10_pointsOf 9 = .ok (.aload_n 0, 1) := by decide +kernel
theorem dX10_pointsOf_10 : decode cX10_pointsOf 10 = .ok (.getfield 12, 3) := by decide +kernel
theorem dX10_pointsOf_13 : decode cX10_pointsOf 13 = .ok (.iload_n 1, 1) := by decide +kernel
theorem dX10_pointsOf_14 : decode cX10_pointsOf 14 = .ok (.invokestatic 223, 3) := by decide +kernel
theorem dX10_pointsOf_17 : decode cX10_pointsOf 17 = .ok (.ireturn, 1) := by decide +kernel
theorem dX10_points_0 : decode cX10_points 0 = .ok (.aload_n 0, 1) := by decide +kernel
theorem dX10_points_1 : decode cX10_points 1 = .ok (.getfield 12, 3) := by decide +kernel
theorem dX10_points_4 : decode cX10_points 4 = .ok (.invokestatic 229, 3) := by decide +kernel
theorem dX10_points_7 : decode cX10_points 7 = .ok (.ireturn, 1) := by decide +kernel
theorem dX10_groupSize_0 : decode cX10_groupSize 0 = .ok (.iload_n 1, 1) := by decide +kernel
theorem dX10_groupSize_1 : decode cX10_groupSize 1 = .ok (.invokestatic 153, 3) := by decide +kernel
theorem dX10_groupSize_4 : decode cX10_groupSize 4 = .ok (.aload_n 0, 1) := by decide +kernel
theorem dX10_groupSize_5 : decode cX10_groupSize 5 = .ok (.iload_n 1, 1) := by decide +kernel
theorem dX10_groupSize_6 : decode cX10_groupSize 6 = .ok (.invokevirtual 156, 3) := by decide +kernel
theorem dX10_groupSize_9 : decode cX10_groupSize 9 = .ok (.aload_n 0, 1) := by decide +kernel
theorem dX10_groupSize_10 : decode cX10_groupSize 10 = .ok (.getfield 12, 3) := by decide +kernel
theorem dX10_groupSize_13 : decode cX10_groupSize 13 = .ok (.iload_n 1, 1) := by decide +kernel
theorem dX10_groupSize_14 : decode cX10_groupSize 14 = .ok (.invokestatic 236, 3) := by decide +kernel
theorem dX10_groupSize_17 : decode cX10_groupSize 17 = .ok (.invokestatic 239, 3) := by decide +kernel
theorem dX10_groupSize_20 : decode cX10_groupSize 20 = .ok (.ireturn, 1) := by decide +kernel
theorem dX10_groups_0 : decode cX10_groups 0 = .ok (.aload_n 0, 1) := by decide +kernel
theorem dX10_groups_1 : decode cX10_groups 1 = .ok (.getfield 12, 3) := by decide +kernel
theorem dX10_groups_4 : decode cX10_groups 4 = .ok (.invokestatic 244, 3) := by decide +kernel
theorem dX10_groups_7 : decode cX10_groups 7 = .ok (.ireturn, 1) := by decide +kernel
theorem dX10_matchedBorders_0 : decode cX10_matchedBorders 0 = .ok (.aload_n 0, 1) := by decide +kernel
theorem dX10_matchedBorders_1 : decode cX10_matchedBorders 1 = .ok (.getfield 12, 3) := by decide +kernel
theorem dX10_matchedBorders_4 : decode cX10_matchedBorders 4 = .ok (.invokevirtual 250, 3) := by decide +kernel
theorem dX10_matchedBorders_7 : decode cX10_matchedBorders 7 = .ok (.ireturn, 1) := by decide +kernel
theorem dX10_sheetByWear_0 : decode cX10_sheetByWear 0 = .ok (.iload_n 1, 1) := by decide +kernel
theorem dX10_sheetByWear_1 : decode cX10_sheetByWear 1 = .ok (.ifCond .lt 14, 3) := by decide +kernel
theorem dX10_sheetByWear_4 : decode cX10_sheetByWear 4 = .ok (.iload_n 1, 1) := by decide +kernel
theorem dX10_sheetByWear_5 : decode cX10_sheetByWear 5 = .ok (.aload_n 0, 1) := by decide +kernel
theorem dX10_sheetByWear_6 : decode cX10_sheetByWear 6 = .ok (.getfield 12, 3) := by decide +kernel
theorem dX10_sheetByWear_9 : decode cX10_sheetByWear 9 = .ok (.getfield 96, 3) := by decide +kernel
theorem dX10_sheetByWear_12 : decode cX10_sheetByWear 12 = .ok (.if_icmp .lt 13, 3) := by decide +kernel
theorem dX10_sheetByWear_15 : decode cX10_sheetByWear 15 = .ok (.new 145, 3) := by decide +kernel
theorem dX10_sheetByWear_18 : decode cX10_sheetByWear 18 = .ok (.dup, 1) := by decide +kernel
theorem dX10_sheetByWear_19 : decode cX10_sheetByWear 19 = .ok (.ldc 253, 2) := by decide +kernel
theorem dX10_sheetByWear_21 : decode cX10_sheetByWear 21 = .ok (.invokespecial 149, 3) := by decide +kernel
theorem dX10_sheetByWear_24 : decode cX10_sheetByWear 24 = .ok (.athrow, 1) := by decide +kernel
theorem dX10_sheetByWear_25 : decode cX10_sheetByWear 25 = .ok (.aload_n 0, 1) := by decide +kernel
theorem dX10_sheetByWear_26 : decode cX10_sheetByWear 26 = .ok (.getfield 12, 3) := by decide +kernel
theorem dX10_sheetByWear_29 : decode cX10_sheetByWear 29 = .ok (.iload_n 1, 1) := by decide +kernel
theorem dX10_sheetByWear_30 : decode cX10_sheetByWear 30 = .ok (.invokevirtual 255, 3) := by decide +kernel
theorem dX10_sheetByWear_33 : decode cX10_sheetByWear 33 = .ok (.ireturn, 1) := by decide +kernel
theorem dX10_foldCount_0 : decode cX10_foldCount 0 = .ok (.aload_n 0, 1) := by decide +kernel
theorem dX10_foldCount_1 : decode cX10_foldCount 1 = .ok (.getfield 12, 3) := by decide +kernel
theorem dX10_foldCount_4 : decode cX10_foldCount 4 = .ok (.getfield 258, 3) := by decide +kernel
theorem dX10_foldCount_7 : decode cX10_foldCount 7 = .ok (.ireturn, 1) := by decide +kernel
theorem dX10_usedPaste_0 : decode cX10_usedPaste 0 = .ok (.aload_n 0, 1) := by decide +kernel
theorem dX10_usedPaste_1 : decode cX10_usedPaste 1 = .ok (.getfield 12, 3) := by decide +kernel
theorem dX10_usedPaste_4 : decode cX10_usedPaste 4 = .ok (.getfield 261, 3) := by decide +kernel
theorem dX10_usedPaste_7 : decode cX10_usedPaste 7 = .ok (.ireturn, 1) := by decide +kernel
theorem dX10_meanWear_0 : decode cX10_meanWear 0 = .ok (.aload_n 0, 1) := by decide +kernel
theorem dX10_meanWear_1 : decode cX10_meanWear 1 = .ok (.getfield 12, 3) := by decide +kernel
theorem dX10_meanWear_4 : decode cX10_meanWear 4 = .ok (.getfield 96, 3) := by decide +kernel
theorem dX10_meanWear_7 : decode cX10_meanWear 7 = .ok (.ifCond .ne 14, 3) := by decide +kernel
theorem dX10_meanWear_10 : decode cX10_meanWear 10 = .ok (.new 264, 3) := by decide +kernel
theorem dX10_meanWear_13 : decode cX10_meanWear 13 = .ok (.dup, 1) := by decide +kernel
theorem dX10_meanWear_14 : decode cX10_meanWear 14 = .ok (.ldc_w 266, 3) := by decide +kernel
theorem dX10_meanWear_17 : decode cX10_meanWear 17 = .ok (.invokespecial 268, 3) := by decide +kernel
theorem dX10_meanWear_20 : decode cX10_meanWear 20 = .ok (.athrow, 1) := by decide +kernel
theorem dX10_meanWear_21 : decode cX10_meanWear 21 = .ok (.aload_n 0, 1) := by decide +kernel
theorem dX10_meanWear_22 : decode cX10_meanWear 22 = .ok (.getfield 12, 3) := by decide +kernel
theorem dX10_meanWear_25 : decode cX10_meanWear 25 = .ok (.invokevirtual 269, 3) := by decide +kernel
theorem dX10_meanWear_28 : decode cX10_meanWear 28 = .ok (.i2d, 1) := by decide +kernel
theorem dX10_meanWear_29 : decode cX10_meanWear 29 = .ok (.aload_n 0, 1) := by decide +kernel
theorem dX10_meanWear_30 : decode cX10_meanWear 30 = .ok (.getfield 12, 3) := by decide +kernel
theorem dX10_meanWear_33 : decode cX10_meanWear 33 = .ok (.getfield 96, 3) := by decide +kernel
theorem dX10_meanWear_36 : decode cX10_meanWear 36 = .ok (.i2d, 1) := by decide +kernel
theorem dX10_meanWear_37 : decode cX10_meanWear 37 = .ok (.ddiv, 1) := by decide +kernel
theorem dX10_meanWear_38 : decode cX10_meanWear 38 = .ok (.dreturn, 1) := by decide +kernel
theorem dX10_coveredShare_0 : decode cX10_coveredShare 0 = .ok (.bipush 9, 2) := by decide +kernel
theorem dX10_coveredShare_2 : decode cX10_coveredShare 2 = .ok (.aload_n 0, 1) := by decide +kernel
theorem dX10_coveredShare_3 : decode cX10_coveredShare 3 = .ok (.getfield 12, 3) := by decide +kernel
theorem dX10_coveredShare_6 : decode cX10_coveredShare 6 = .ok (.invokevirtual 172, 3) := by decide +kernel
theorem dX10_coveredShare_9 : decode cX10_coveredShare 9 = .ok (.isub, 1) := by decide +kernel
theorem dX10_coveredShare_10 : decode cX10_coveredShare 10 = .ok (.i2f, 1) := by decide +kernel
theorem dX10_coveredShare_11 : decode cX10_coveredShare 11 = .ok (.ldc_w 272, 3) := by decide +kernel
theorem dX10_coveredShare_14 : decode cX10_coveredShare 14 = .ok (.fdiv, 1) := by decide +kernel
theorem dX10_coveredShare_15 : decode cX10_coveredShare 15 = .ok (.freturn, 1) := by decide +kernel
theorem dX10_feed_0 : decode cX10_feed 0 = .ok (.aload_n 0, 1) := by decide +kernel
theorem dX10_feed_1 : decode cX10_feed 1 = .ok (.getfield 43, 3) := by decide +kernel
theorem dX10_feed_4 : decode cX10_feed 4 = .ok (.invokevirtual 279, 3) := by decide +kernel
theorem dX10_feed_7 : decode cX10_feed 7 = .ok (.ifCond .eq 14, 3) := by decide +kernel
theorem dX10_feed_10 : decode cX10_feed 10 = .ok (.new 191, 3) := by decide +kernel
theorem dX10_feed_13 : decode cX10_feed 13 = .ok (.dup, 1) := by decide +kernel
theorem dX10_feed_14 : decode cX10_feed 14 = .ok (.ldc_w 282, 3) := by decide +kernel
theorem dX10_feed_17 : decode cX10_feed 17 = .ok (.invokespecial 195, 3) := by decide +kernel
theorem dX10_feed_20 : decode cX10_feed 20 = .ok (.athrow, 1) := by decide +kernel
theorem dX10_feed_21 : decode cX10_feed 21 = .ok (.aload_n 0, 1) := by decide +kernel
theorem dX10_feed_22 : decode cX10_feed 22 = .ok (.getfield 43, 3) := by decide +kernel
theorem dX10_feed_25 : decode cX10_feed 25 = .ok (.iload_n 1, 1) := by decide +kernel
theorem dX10_feed_26 : decode cX10_feed 26 = .ok (.invokevirtual 284, 3) := by decide +kernel
theorem dX10_feed_29 : decode cX10_feed 29 = .ok (.aload_n 0, 1) := by decide +kernel
theorem dX10_feed_30 : decode cX10_feed 30 = .ok (.getfield 43, 3) := by decide +kernel
theorem dX10_feed_33 : decode cX10_feed 33 = .ok (.getfield 288, 3) := by decide +kernel
theorem dX10_feed_36 : decode cX10_feed 36 = .ok (.ireturn, 1) := by decide +kernel
theorem dX10_runCommands_0 : decode cX10_runCommands 0 = .ok (.aload_n 0, 1) := by decide +kernel
theorem dX10_runCommands_1 : decode cX10_runCommands 1 = .ok (.getfield 43, 3) := by decide +kernel
theorem dX10_runCommands_4 : decode cX10_runCommands 4 = .ok (.invokevirtual 291, 3) := by decide +kernel
theorem dX10_runCommands_7 : decode cX10_runCommands 7 = .ok (.istore_n 1, 1) := by decide +kernel
theorem dX10_runCommands_8 : decode cX10_runCommands 8 = .ok (.iload_n 1, 1) := by decide +kernel
theorem dX10_runCommands_9 : decode cX10_runCommands 9 = .ok (.iconst (-1), 1) := by decide +kernel
theorem dX10_runCommands_10 : decode cX10_runCommands 10 = .ok (.if_icmp .eq 26, 3) := by decide +kernel
theorem dX10_runCommands_13 : decode cX10_runCommands 13 = .ok (.aload_n 0, 1) := by decide +kernel
theorem dX10_runCommands_14 : decode cX10_runCommands 14 = .ok (.iload_n 1, 1) := by decide +kernel
theorem dX10_runCommands_15 : decode cX10_runCommands 15 = .ok (.putfield 54, 3) := by decide +kernel
theorem dX10_runCommands_18 : decode cX10_runCommands 18 = .ok (.aload_n 0, 1) := by decide +kernel
theorem dX10_runCommands_19 : decode cX10_runCommands 19 = .ok (.getfield 43, 3) := by decide +kernel
theorem dX10_runCommands_22 : decode cX10_runCommands 22 = .ok (.invokevirtual 294, 3) := by decide +kernel
theorem dX10_runCommands_25 : decode cX10_runCommands 25 = .ok (.new 183, 3) := by decide +kernel
theorem dX10_runCommands_28 : decode cX10_runCommands 28 = .ok (.dup, 1) := by decide +kernel
theorem dX10_runCommands_29 : decode cX10_runCommands 29 = .ok (.ldc_w 297, 3) := by decide +kernel
theorem dX10_runCommands_32 : decode cX10_runCommands 32 = .ok (.invokespecial 187, 3) := by decide +kernel
theorem dX10_runCommands_35 : decode cX10_runCommands 35 = .ok (.athrow, 1) := by decide +kernel
theorem dX10_runCommands_36 : decode cX10_runCommands 36 = .ok (.aload_n 0, 1) := by decide +kernel
theorem dX10_runCommands_37 : decode cX10_runCommands 37 = .ok (.getfield 22, 3) := by decide +kernel
theorem dX10_runCommands_40 : decode cX10_runCommands 40 = .ok (.aload_n 0, 1) := by decide +kernel
theorem dX10_runCommands_41 : decode cX10_runCommands 41 = .ok (.getfield 12, 3) := by decide +kernel
theorem dX10_runCommands_44 : decode cX10_runCommands 44 = .ok (.invokevirtual 61, 3) := by decide +kernel
theorem dX10_runCommands_47 : decode cX10_runCommands 47 = .ok (.aload_n 0, 1) := by decide +kernel
theorem dX10_runCommands_48 : decode cX10_runCommands 48 = .ok (.invokevirtual 299, 3) := by decide +kernel
theorem dX10_runCommands_51 : decode cX10_runCommands 51 = .ok (.istore_n 2, 1) := by decide +kernel
theorem dX10_runCommands_52 : decode cX10_runCommands 52 = .ok (.aload_n 0, 1) := by decide +kernel
theorem dX10_runCommands_53 : decode cX10_runCommands 53 = .ok (.getfield 43, 3) := by decide +kernel
theorem dX10_runCommands_56 : decode cX10_runCommands 56 = .ok (.invokevirtual 294, 3) := by decide +kernel
theorem dX10_runCommands_59 : decode cX10_runCommands 59 = .ok (.iload_n 2, 1) := by decide +kernel
theorem dX10_runCommands_60 : decode cX10_runCommands 60 = .ok (.iconst (-1), 1) := by decide +kernel
theorem dX10_runCommands_61 : decode cX10_runCommands 61 = .ok (.if_icmp .eq 30, 3) := by decide +kernel
theorem dX10_runCommands_64 : decode cX10_runCommands 64 = .ok (.aload_n 0, 1) := by decide +kernel
theorem dX10_runCommands_65 : decode cX10_runCommands 65 = .ok (.iload_n 2, 1) := by decide +kernel
theorem dX10_runCommands_66 : decode cX10_runCommands 66 = .ok (.putfield 58, 3) := by decide +kernel
theorem dX10_runCommands_69 : decode cX10_runCommands 69 = .ok (.aload_n 0, 1) := by decide +kernel
theorem dX10_runCommands_70 : decode cX10_runCommands 70 = .ok (.getfield 22, 3) := by decide +kernel
theorem dX10_runCommands_73 : decode cX10_runCommands 73 = .ok (.aload_n 0, 1) := by decide +kernel
theorem dX10_runCommands_74 : decode cX10_runCommands 74 = .ok (.getfield 12, 3) := by decide +kernel
theorem dX10_runCommands_77 : decode cX10_runCommands 77 = .ok (.invokevirtual 302, 3) := by decide +kernel
theorem dX10_runCommands_80 : decode cX10_runCommands 80 = .ok (.new 305, 3) := by decide +kernel
theorem dX10_runCommands_83 : decode cX10_runCommands 83 = .ok (.dup, 1) := by decide +kernel
theorem dX10_runCommands_84 : decode cX10_runCommands 84 = .ok (.ldc_w 307, 3) := by decide +kernel
theorem dX10_runCommands_87 : decode cX10_runCommands 87 = .ok (.invokespecial 309, 3) := by decide +kernel
theorem dX10_runCommands_90 : decode cX10_runCommands 90 = .ok (.athrow, 1) := by decide +kernel
theorem dX10_runCommands_91 : decode cX10_runCommands 91 = .ok (.aload_n 0, 1) := by decide +kernel
theorem dX10_runCommands_92 : decode cX10_runCommands 92 = .ok (.getfield 22, 3) := by decide +kernel
theorem dX10_runCommands_95 : decode cX10_runCommands 95 = .ok (.invokevirtual 310, 3) := by decide +kernel
theorem dX10_runCommands_98 : decode cX10_runCommands 98 = .ok (.aload_n 0, 1) := by decide +kernel
theorem dX10_runCommands_99 : decode cX10_runCommands 99 = .ok (.getfield 43, 3) := by decide +kernel
theorem dX10_runCommands_102 : decode cX10_runCommands 102 = .ok (.getfield 313, 3) := by decide +kernel
theorem dX10_runCommands_105 : decode cX10_runCommands 105 = .ok (.ireturn, 1) := by decide +kernel
theorem dX10_errorPosition_0 : decode cX10_errorPosition 0 = .ok (.aload_n 0, 1) := by decide +kernel
theorem dX10_errorPosition_1 : decode cX10_errorPosition 1 = .ok (.getfield 54, 3) := by decide +kernel
theorem dX10_errorPosition_4 : decode cX10_errorPosition 4 = .ok (.iconst (-1), 1) := by decide +kernel
theorem dX10_errorPosition_5 : decode cX10_errorPosition 5 = .ok (.if_icmp .ne 14, 3) := by decide +kernel
theorem dX10_errorPosition_8 : decode cX10_errorPosition 8 = .ok (.new 145, 3) := by decide +kernel
theorem dX10_errorPosition_11 : decode cX10_errorPosition 11 = .ok (.dup, 1) := by decide +kernel
theorem dX10_errorPosition_12 : decode cX10_errorPosition 12 = .ok (.ldc_w 316, 3) := by decide +kernel
theorem dX10_errorPosition_15 : decode cX10_errorPosition 15 = .ok (.invokespecial 149, 3) := by decide +kernel
theorem dX10_errorPosition_18 : decode cX10_errorPosition 18 = .ok (.athrow, 1) := by decide +kernel
theorem dX10_errorPosition_19 : decode cX10_errorPosition 19 = .ok (.aload_n 0, 1) := by decide +kernel
theorem dX10_errorPosition_20 : decode cX10_errorPosition 20 = .ok (.getfield 54, 3) := by decide +kernel
theorem dX10_errorPosition_23 : decode cX10_errorPosition 23 = .ok (.ireturn, 1) := by decide +kernel
theorem dX10_failedCommand_0 : decode cX10_failedCommand 0 = .ok (.aload_n 0, 1) := by decide +kernel
theorem dX10_failedCommand_1 : decode cX10_failedCommand 1 = .ok (.getfield 58, 3) := by decide +kernel
theorem dX10_failedCommand_4 : decode cX10_failedCommand 4 = .ok (.iconst (-1), 1) := by decide +kernel
theorem dX10_failedCommand_5 : decode cX10_failedCommand 5 = .ok (.if_icmp .ne 14, 3) := by decide +kernel
theorem dX10_failedCommand_8 : decode cX10_failedCommand 8 = .ok (.new 145, 3) := by decide +kernel
theorem dX10_failedCommand_11 : decode cX10_failedCommand 11 = .ok (.dup, 1) := by decide +kernel
theorem dX10_failedCommand_12 : decode cX10_failedCommand 12 = .ok (.ldc_w 318, 3) := by decide +kernel
theorem dX10_failedCommand_15 : decode cX10_failedCommand 15 = .ok (.invokespecial 149, 3) := by decide +kernel
theorem dX10_failedCommand_18 : decode cX10_failedCommand 18 = .ok (.athrow, 1) := by decide +kernel
theorem dX10_failedCommand_19 : decode cX10_failedCommand 19 = .ok (.aload_n 0, 1) := by decide +kernel
theorem dX10_failedCommand_20 : decode cX10_failedCommand 20 = .ok (.getfield 58, 3) := by decide +kernel
theorem dX10_failedCommand_23 : decode cX10_failedCommand 23 = .ok (.ireturn, 1) := by decide +kernel
theorem dX10_writeTable_0 : decode cX10_writeTable 0 = .ok (.aload_n 0, 1) := by decide +kernel
theorem dX10_writeTable_1 : decode cX10_writeTable 1 = .ok (.getfield 50, 3) := by decide +kernel
theorem dX10_writeTable_4 : decode cX10_writeTable 4 = .ok (.aload_n 0, 1) := by decide +kernel
theorem dX10_writeTable_5 : decode cX10_writeTable 5 = .ok (.getfield 12, 3) := by decide +kernel
theorem dX10_writeTable_8 : decode cX10_writeTable 8 = .ok (.invokevirtual 320, 3) := by decide +kernel
theorem dX10_writeTable_11 : decode cX10_writeTable 11 = .ok (.aload_n 0, 1) := by decide +kernel
theorem dX10_writeTable_12 : decode cX10_writeTable 12 = .ok (.getfield 50, 3) := by decide +kernel
theorem dX10_writeTable_15 : decode cX10_writeTable 15 = .ok (.getfield 323, 3) := by decide +kernel
theorem dX10_writeTable_18 : decode cX10_writeTable 18 = .ok (.ireturn, 1) := by decide +kernel
theorem dX10_writeSheet_0 : decode cX10_writeSheet 0 = .ok (.aload_n 0, 1) := by decide +kernel
theorem dX10_writeSheet_1 : decode cX10_writeSheet 1 = .ok (.getfield 50, 3) := by decide +kernel
theorem dX10_writeSheet_4 : decode cX10_writeSheet 4 = .ok (.aload_n 0, 1) := by decide +kernel
theorem dX10_writeSheet_5 : decode cX10_writeSheet 5 = .ok (.iload_n 1, 1) := by decide +kernel
theorem dX10_writeSheet_6 : decode cX10_writeSheet 6 = .ok (.invokevirtual 99, 3) := by decide +kernel
theorem dX10_writeSheet_9 : decode cX10_writeSheet 9 = .ok (.invokevirtual 324, 3) := by decide +kernel
theorem dX10_writeSheet_12 : decode cX10_writeSheet 12 = .ok (.aload_n 0, 1) := by decide +kernel
theorem dX10_writeSheet_13 : decode cX10_writeSheet 13 = .ok (.getfield 50, 3) := by decide +kernel
theorem dX10_writeSheet_16 : decode cX10_writeSheet 16 = .ok (.getfield 323, 3) := by decide +kernel
theorem dX10_writeSheet_19 : decode cX10_writeSheet 19 = .ok (.ireturn, 1) := by decide +kernel
theorem dX10_outputChar_0 : decode cX10_outputChar 0 = .ok (.iload_n 1, 1) := by decide +kernel
theorem dX10_outputChar_1 : decode cX10_outputChar 1 = .ok (.ifCond .lt 14, 3) := by decide +kernel
theorem dX10_outputChar_4 : decode cX10_outputChar 4 = .ok (.iload_n 1, 1) := by decide +kernel
theorem dX10_outputChar_5 : decode cX10_outputChar 5 = .ok (.aload_n 0, 1) := by decide +kernel
theorem dX10_outputChar_6 : decode cX10_outputChar 6 = .ok (.getfield 50, 3) := by decide +kernel
theorem dX10_outputChar_9 : decode cX10_outputChar 9 = .ok (.getfield 323, 3) := by decide +kernel
theorem dX10_outputChar_12 : decode cX10_outputChar 12 = .ok (.if_icmp .lt 14, 3) := by decide +kernel
theorem dX10_outputChar_15 : decode cX10_outputChar 15 = .ok (.new 131, 3) := by decide +kernel
theorem dX10_outputChar_18 : decode cX10_outputChar 18 = .ok (.dup, 1) := by decide +kernel
theorem dX10_outputChar_19 : decode cX10_outputChar 19 = .ok (.ldc_w 328, 3) := by decide +kernel
theorem dX10_outputChar_22 : decode cX10_outputChar 22 = .ok (.invokespecial 135, 3) := by decide +kernel
theorem dX10_outputChar_25 : decode cX10_outputChar 25 = .ok (.athrow, 1) := by decide +kernel
theorem dX10_outputChar_26 : decode cX10_outputChar 26 = .ok (.aload_n 0, 1) := by decide +kernel
theorem dX10_outputChar_27 : decode cX10_outputChar 27 = .ok (.getfield 50, 3) := by decide +kernel
theorem dX10_outputChar_30 : decode cX10_outputChar 30 = .ok (.getfield 330, 3) := by decide +kernel
theorem dX10_outputChar_33 : decode cX10_outputChar 33 = .ok (.iload_n 1, 1) := by decide +kernel
theorem dX10_outputChar_34 : decode cX10_outputChar 34 = .ok (.caload, 1) := by decide +kernel
theorem dX10_outputChar_35 : decode cX10_outputChar 35 = .ok (.ireturn, 1) := by decide +kernel
theorem dX10_undoCount_0 : decode cX10_undoCount 0 = .ok (.aload_n 0, 1) := by decide +kernel
theorem dX10_undoCount_1 : decode cX10_undoCount 1 = .ok (.getfield 22, 3) := by decide +kernel
theorem dX10_undoCount_4 : decode cX10_undoCount 4 = .ok (.getfield 333, 3) := by decide +kernel
theorem dX10_undoCount_7 : decode cX10_undoCount 7 = .ok (.ireturn, 1) := by decide +kernel
theorem dX10_undo_0 : decode cX10_undo 0 = .ok (.aload_n 0, 1) := by decide +kernel
theorem dX10_undo_1 : decode cX10_undo 1 = .ok (.getfield 22, 3) := by decide +kernel
theorem dX10_undo_4 : decode cX10_undo 4 = .ok (.getfield 333, 3) := by decide +kernel
theorem dX10_undo_7 : decode cX10_undo 7 = .ok (.ifCond .ne 14, 3) := by decide +kernel
theorem dX10_undo_10 : decode cX10_undo 10 = .ok (.new 191, 3) := by decide +kernel
theorem dX10_undo_13 : decode cX10_undo 13 = .ok (.dup, 1) := by decide +kernel
theorem dX10_undo_14 : decode cX10_undo 14 = .ok (.ldc_w 336, 3) := by decide +kernel
theorem dX10_undo_17 : decode cX10_undo 17 = .ok (.invokespecial 195, 3) := by decide +kernel
theorem dX10_undo_20 : decode cX10_undo 20 = .ok (.athrow, 1) := by decide +kernel
theorem dX10_undo_21 : decode cX10_undo 21 = .ok (.aload_n 0, 1) := by decide +kernel
theorem dX10_undo_22 : decode cX10_undo 22 = .ok (.getfield 22, 3) := by decide +kernel
theorem dX10_undo_25 : decode cX10_undo 25 = .ok (.aload_n 0, 1) := by decide +kernel
theorem dX10_undo_26 : decode cX10_undo 26 = .ok (.getfield 12, 3) := by decide +kernel
theorem dX10_undo_29 : decode cX10_undo 29 = .ok (.invokevirtual 338, 3) := by decide +kernel
theorem dX10_undo_32 : decode cX10_undo 32 = .ok (.aload_n 0, 1) := by decide +kernel
theorem dX10_undo_33 : decode cX10_undo 33 = .ok (.getfield 22, 3) := by decide +kernel
theorem dX10_undo_36 : decode cX10_undo 36 = .ok (.getfield 333, 3) := by decide +kernel
theorem dX10_undo_39 : decode cX10_undo 39 = .ok (.ireturn, 1) := by decide +kernel
theorem dX10_save_0 : decode cX10_save 0 = .ok (.aload_n 0, 1) := by decide +kernel
theorem dX10_save_1 : decode cX10_save 1 = .ok (.getfield 16, 3) := by decide +kernel
theorem dX10_save_4 : decode cX10_save 4 = .ok (.aload_n 0, 1) := by decide +kernel
theorem dX10_save_5 : decode cX10_save 5 = .ok (.getfield 12, 3) := by decide +kernel
theorem dX10_save_8 : decode cX10_save 8 = .ok (.invokevirtual 341, 3) := by decide +kernel
theorem dX10_save_11 : decode cX10_save 11 = .ok (.aload_n 0, 1) := by decide +kernel
theorem dX10_save_12 : decode cX10_save 12 = .ok (.iconst 1, 1) := by decide +kernel
theorem dX10_save_13 : decode cX10_save 13 = .ok (.putfield 344, 3) := by decide +kernel
theorem dX10_save_16 : decode cX10_save 16 = .ok (.aload_n 0, 1) := by decide +kernel
theorem dX10_save_17 : decode cX10_save 17 = .ok (.getfield 12, 3) := by decide +kernel
theorem dX10_save_20 : decode cX10_save 20 = .ok (.getfield 96, 3) := by decide +kernel
theorem dX10_save_23 : decode cX10_save 23 = .ok (.ireturn, 1) := by decide +kernel
theorem dX10_restore_0 : decode cX10_restore 0 = .ok (.aload_n 0, 1) := by decide +kernel
theorem dX10_restore_1 : decode cX10_restore 1 = .ok (.getfield 344, 3) := by decide +kernel
theorem dX10_restore_4 : decode cX10_restore 4 = .ok (.ifCond .ne 14, 3) := by decide +kernel
theorem dX10_restore_7 : decode cX10_restore 7 = .ok (.new 191, 3) := by decide +kernel
theorem dX10_restore_10 : decode cX10_restore 10 = .ok (.dup, 1) := by decide +kernel
theorem dX10_restore_11 : decode cX10_restore 11 = .ok (.ldc_w 347, 3) := by decide +kernel
theorem dX10_restore_14 : decode cX10_restore 14 = .ok (.invokespecial 195, 3) := by decide +kernel
theorem dX10_restore_17 : decode cX10_restore 17 = .ok (.athrow, 1) := by decide +kernel
theorem dX10_restore_18 : decode cX10_restore 18 = .ok (.aload_n 0, 1) := by decide +kernel
theorem dX10_restore_19 : decode cX10_restore 19 = .ok (.getfield 12, 3) := by decide +kernel
theorem dX10_restore_22 : decode cX10_restore 22 = .ok (.aload_n 0, 1) := by decide +kernel
theorem dX10_restore_23 : decode cX10_restore 23 = .ok (.getfield 16, 3) := by decide +kernel
theorem dX10_restore_26 : decode cX10_restore 26 = .ok (.invokevirtual 341, 3) := by decide +kernel
theorem dX10_restore_29 : decode cX10_restore 29 = .ok (.aload_n 0, 1) := by decide +kernel
theorem dX10_restore_30 : decode cX10_restore 30 = .ok (.getfield 22, 3) := by decide +kernel
theorem dX10_restore_33 : decode cX10_restore 33 = .ok (.invokevirtual 349, 3) := by decide +kernel
theorem dX10_restore_36 : decode cX10_restore 36 = .ok (.aload_n 0, 1) := by decide +kernel
theorem dX10_restore_37 : decode cX10_restore 37 = .ok (.getfield 12, 3) := by decide +kernel
theorem dX10_restore_40 : decode cX10_restore 40 = .ok (.getfield 96, 3) := by decide +kernel
theorem dX10_restore_43 : decode cX10_restore 43 = .ok (.ireturn, 1) := by decide +kernel
theorem dX10_recorded_0 : decode cX10_recorded 0 = .ok (.iload_n 1, 1) := by decide +kernel
theorem dX10_recorded_1 : decode cX10_recorded 1 = .ok (.ifCond .ge 7, 3) := by decide +kernel
theorem dX10_recorded_4 : decode cX10_recorded 4 = .ok (.iload_n 1, 1) := by decide +kernel
theorem dX10_recorded_5 : decode cX10_recorded 5 = .ok (.invokestatic 352, 3) := by decide +kernel
theorem dX10_recorded_8 : decode cX10_recorded 8 = .ok (.aload_n 0, 1) := by decide +kernel
theorem dX10_recorded_9 : decode cX10_recorded 9 = .ok (.getfield 22, 3) := by decide +kernel
theorem dX10_recorded_12 : decode cX10_recorded 12 = .ok (.invokevirtual 310, 3) := by decide +kernel
theorem dX10_recorded_15 : decode cX10_recorded 15 = .ok (.iload_n 1, 1) := by decide +kernel
theorem dX10_recorded_16 : decode cX10_recorded 16 = .ok (.ireturn, 1) := by decide +kernel
theorem dX10_throwRefusal_0 : decode cX10_throwRefusal 0 = .ok (.iload_n 0, 1) := by decide +kernel
theorem dX10_throwRefusal_1 : decode cX10_throwRefusal 1 = .ok (.tableswitch 75 (-4) (-1) #[64, 53, 42, 31], 31) := by decide +kernel
theorem dX10_throwRefusal_32 : decode cX10_throwRefusal 32 = .ok (.new 131, 3) := by decide +kernel
theorem dX10_throwRefusal_35 : decode cX10_throwRefusal 35 = .ok (.dup, 1) := by decide +kernel
theorem dX10_throwRefusal_36 : decode cX10_throwRefusal 36 = .ok (.ldc_w 355, 3) := by decide +kernel
theorem dX10_throwRefusal_39 : decode cX10_throwRefusal 39 = .ok (.invokespecial 135, 3) := by decide +kernel
theorem dX10_throwRefusal_42 : decode cX10_throwRefusal 42 = .ok (.athrow, 1) := by decide +kernel
theorem dX10_throwRefusal_43 : decode cX10_throwRefusal 43 = .ok (.new 183, 3) := by decide +kernel
theorem dX10_throwRefusal_46 : decode cX10_throwRefusal 46 = .ok (.dup, 1) := by decide +kernel
theorem dX10_throwRefusal_47 : decode cX10_throwRefusal 47 = .ok (.ldc_w 357, 3) := by decide +kernel
theorem dX10_throwRefusal_50 : decode cX10_throwRefusal 50 = .ok (.invokespecial 187, 3) := by decide +kernel
theorem dX10_throwRefusal_53 : decode cX10_throwRefusal 53 = .ok (.athrow, 1) := by decide +kernel
theorem dX10_throwRefusal_54 : decode cX10_throwRefusal 54 = .ok (.new 191, 3) := by decide +kernel
theorem dX10_throwRefusal_57 : decode cX10_throwRefusal 57 = .ok (.dup, 1) := by decide +kernel
theorem dX10_throwRefusal_58 : decode cX10_throwRefusal 58 = .ok (.ldc_w 359, 3) := by decide +kernel
theorem dX10_throwRefusal_61 : decode cX10_throwRefusal 61 = .ok (.invokespecial 195, 3) := by decide +kernel
theorem dX10_throwRefusal_64 : decode cX10_throwRefusal 64 = .ok (.athrow, 1) := by decide +kernel
theorem dX10_throwRefusal_65 : decode cX10_throwRefusal 65 = .ok (.new 305, 3) := by decide +kernel
theorem dX10_throwRefusal_68 : decode cX10_throwRefusal 68 = .ok (.dup, 1) := by decide +kernel
theorem dX10_throwRefusal_69 : decode cX10_throwRefusal 69 = .ok (.ldc_w 361, 3) := by decide +kernel
theorem dX10_throwRefusal_72 : decode cX10_throwRefusal 72 = .ok (.invokespecial 309, 3) := by decide +kernel
theorem dX10_throwRefusal_75 : decode cX10_throwRefusal 75 = .ok (.athrow, 1) := by decide +kernel
theorem dX10_throwRefusal_76 : decode cX10_throwRefusal 76 = .ok (.new 145, 3) := by decide +kernel
theorem dX10_throwRefusal_79 : decode cX10_throwRefusal 79 = .ok (.dup, 1) := by decide +kernel
theorem dX10_throwRefusal_80 : decode cX10_throwRefusal 80 = .ok (.ldc_w 363, 3) := by decide +kernel
theorem dX10_throwRefusal_83 : decode cX10_throwRefusal 83 = .ok (.invokespecial 149, 3) := by decide +kernel
theorem dX10_throwRefusal_86 : decode cX10_throwRefusal 86 = .ok (.athrow, 1) := by decide +kernel
theorem dX10_demandedSheet_0 : decode cX10_demandedSheet 0 = .ok (.aload_n 0, 1) := by decide +kernel
theorem dX10_demandedSheet_1 : decode cX10_demandedSheet 1 = .ok (.getfield 12, 3) := by decide +kernel
theorem dX10_demandedSheet_4 : decode cX10_demandedSheet 4 = .ok (.iload_n 1, 1) := by decide +kernel
theorem dX10_demandedSheet_5 : decode cX10_demandedSheet 5 = .ok (.invokevirtual 365, 3) := by decide +kernel
theorem dX10_demandedSheet_8 : decode cX10_demandedSheet 8 = .ok (.ifCond .ne 14, 3) := by decide +kernel
theorem dX10_demandedSheet_11 : decode cX10_demandedSheet 11 = .ok (.new 131, 3) := by decide +kernel
theorem dX10_demandedSheet_14 : decode cX10_demandedSheet 14 = .ok (.dup, 1) := by decide +kernel
theorem dX10_demandedSheet_15 : decode cX10_demandedSheet 15 = .ok (.ldc_w 368, 3) := by decide +kernel
theorem dX10_demandedSheet_18 : decode cX10_demandedSheet 18 = .ok (.invokespecial 135, 3) := by decide +kernel
theorem dX10_demandedSheet_21 : decode cX10_demandedSheet 21 = .ok (.athrow, 1) := by decide +kernel
theorem dX10_demandedSheet_22 : decode cX10_demandedSheet 22 = .ok (.aload_n 0, 1) := by decide +kernel
theorem dX10_demandedSheet_23 : decode cX10_demandedSheet 23 = .ok (.getfield 12, 3) := by decide +kernel
theorem dX10_demandedSheet_26 : decode cX10_demandedSheet 26 = .ok (.getfield 370, 3) := by decide +kernel
theorem dX10_demandedSheet_29 : decode cX10_demandedSheet 29 = .ok (.iload_n 1, 1) := by decide +kernel
theorem dX10_demandedSheet_30 : decode cX10_demandedSheet 30 = .ok (.aaload, 1) := by decide +kernel
theorem dX10_demandedSheet_31 : decode cX10_demandedSheet 31 = .ok (.areturn, 1) := by decide +kernel
theorem dX10_demandCell_0 : decode cX10_demandCell 0 = .ok (.iload_n 0, 1) := by decide +kernel
theorem dX10_demandCell_1 : decode cX10_demandCell 1 = .ok (.invokestatic 374, 3) := by decide +kernel
theorem dX10_demandCell_4 : decode cX10_demandCell 4 = .ok (.ifCond .ne 14, 3) := by decide +kernel
theorem dX10_demandCell_7 : decode cX10_demandCell 7 = .ok (.new 131, 3) := by decide +kernel
theorem dX10_demandCell_10 : decode cX10_demandCell 10 = .ok (.dup, 1) := by decide +kernel
theorem dX10_demandCell_11 : decode cX10_demandCell 11 = .ok (.ldc_w 377, 3) := by decide +kernel
theorem dX10_demandCell_14 : decode cX10_demandCell 14 = .ok (.invokespecial 135, 3) := by decide +kernel
theorem dX10_demandCell_17 : decode cX10_demandCell 17 = .ok (.athrow, 1) := by decide +kernel
theorem dX10_demandCell_18 : decode cX10_demandCell 18 = .ok (.return_, 1) := by decide +kernel
theorem dX10_demandSide_0 : decode cX10_demandSide 0 = .ok (.iload_n 0, 1) := by decide +kernel
theorem dX10_demandSide_1 : decode cX10_demandSide 1 = .ok (.ifCond .lt 8, 3) := by decide +kernel
theorem dX10_demandSide_4 : decode cX10_demandSide 4 = .ok (.iload_n 0, 1) := by decide +kernel
theorem dX10_demandSide_5 : decode cX10_demandSide 5 = .ok (.iconst 4, 1) := by decide +kernel
theorem dX10_demandSide_6 : decode cX10_demandSide 6 = .ok (.if_icmp .lt 14, 3) := by decide +kernel
theorem dX10_demandSide_9 : decode cX10_demandSide 9 = .ok (.new 183, 3) := by decide +kernel
theorem dX10_demandSide_12 : decode cX10_demandSide 12 = .ok (.dup, 1) := by decide +kernel
theorem dX10_demandSide_13 : decode cX10_demandSide 13 = .ok (.ldc_w 379, 3) := by decide +kernel
theorem dX10_demandSide_16 : decode cX10_demandSide 16 = .ok (.invokespecial 187, 3) := by decide +kernel
theorem dX10_demandSide_19 : decode cX10_demandSide 19 = .ok (.athrow, 1) := by decide +kernel
theorem dX10_demandSide_20 : decode cX10_demandSide 20 = .ok (.return_, 1) := by decide +kernel
theorem dX10_demandOccupied_0 : decode cX10_demandOccupied 0 = .ok (.aload_n 0, 1) := by decide +kernel
theorem dX10_demandOccupied_1 : decode cX10_demandOccupied 1 = .ok (.getfield 12, 3) := by decide +kernel
theorem dX10_demandOccupied_4 : decode cX10_demandOccupied 4 = .ok (.iload_n 1, 1) := by decide +kernel
theorem dX10_demandOccupied_5 : decode cX10_demandOccupied 5 = .ok (.invokevirtual 188, 3) := by decide +kernel
theorem dX10_demandOccupied_8 : decode cX10_demandOccupied 8 = .ok (.ifCond .ne 14, 3) := by decide +kernel
theorem dX10_demandOccupied_11 : decode cX10_demandOccupied 11 = .ok (.new 145, 3) := by decide +kernel
theorem dX10_demandOccupied_14 : decode cX10_demandOccupied 14 = .ok (.dup, 1) := by decide +kernel
theorem dX10_demandOccupied_15 : decode cX10_demandOccupied 15 = .ok (.ldc_w 363, 3) := by decide +kernel
theorem dX10_demandOccupied_18 : decode cX10_demandOccupied 18 = .ok (.invokespecial 149, 3) := by decide +kernel
theorem dX10_demandOccupied_21 : decode cX10_demandOccupied 21 = .ok (.athrow, 1) := by decide +kernel
theorem dX10_demandOccupied_22 : decode cX10_demandOccupied 22 = .ok (.return_, 1) := by decide +kernel
theorem dX10_demandFewEmptyCells_0 : decode cX10_demandFewEmptyCells 0 = .ok (.aload_n 0, 1) := by decide +kernel
theorem dX10_demandFewEmptyCells_1 : decode cX10_demandFewEmptyCells 1 = .ok (.getfield 12, 3) := by decide +kernel
theorem dX10_demandFewEmptyCells_4 : decode cX10_demandFewEmptyCells 4 = .ok (.invokevirtual 172, 3) := by decide +kernel
theorem dX10_demandFewEmptyCells_7 : decode cX10_demandFewEmptyCells 7 = .ok (.iconst 3, 1) := by decide +kernel
theorem dX10_demandFewEmptyCells_8 : decode cX10_demandFewEmptyCells 8 = .ok (.if_icmp .le 14, 3) := by decide +kernel
theorem dX10_demandFewEmptyCells_11 : decode cX10_demandFewEmptyCells 11 = .ok (.new 305, 3) := by decide +kernel
theorem dX10_demandFewEmptyCells_14 : decode cX10_demandFewEmptyCells 14 = .ok (.dup, 1) := by decide +kernel
theorem dX10_demandFewEmptyCells_15 : decode cX10_demandFewEmptyCells 15 = .ok (.ldc_w 381, 3) := by decide +kernel
theorem dX10_demandFewEmptyCells_18 : decode cX10_demandFewEmptyCells 18 = .ok (.invokespecial 309, 3) := by decide +kernel
theorem dX10_demandFewEmptyCells_21 : decode cX10_demandFewEmptyCells 21 = .ok (.athrow, 1) := by decide +kernel
theorem dX10_demandFewEmptyCells_22 : decode cX10_demandFewEmptyCells 22 = .ok (.return_, 1) := by decide +kernel
theorem dX10_carryOutAll_0 : decode cX10_carryOutAll 0 = .ok (.iconst 0, 1) := by decide +kernel
theorem dX10_carryOutAll_1 : decode cX10_carryOutAll 1 = .ok (.istore_n 1, 1) := by decide +kernel
theorem dX10_carryOutAll_2 : decode cX10_carryOutAll 2 = .ok (.iload_n 1, 1) := by decide +kernel
theorem dX10_carryOutAll_3 : decode cX10_carryOutAll 3 = .ok (.aload_n 0, 1) := by decide +kernel
theorem dX10_carryOutAll_4 : decode cX10_carryOutAll 4 = .ok (.getfield 43, 3) := by decide +kernel
theorem dX10_carryOutAll_7 : decode cX10_carryOutAll 7 = .ok (.getfield 313, 3) := by decide +kernel
theorem dX10_carryOutAll_10 : decode cX10_carryOutAll 10 = .ok (.if_icmp .ge 19, 3) := by decide +kernel
theorem dX10_carryOutAll_13 : decode cX10_carryOutAll 13 = .ok (.aload_n 0, 1) := by decide +kernel
theorem dX10_carryOutAll_14 : decode cX10_carryOutAll 14 = .ok (.iload_n 1, 1) := by decide +kernel
theorem dX10_carryOutAll_15 : decode cX10_carryOutAll 15 = .ok (.invokevirtual 383, 3) := by decide +kernel
theorem dX10_carryOutAll_18 : decode cX10_carryOutAll 18 = .ok (.ifCond .ge 5, 3) := by decide +kernel
theorem dX10_carryOutAll_21 : decode cX10_carryOutAll 21 = .ok (.iload_n 1, 1) := by decide +kernel
theorem dX10_carryOutAll_22 : decode cX10_carryOutAll 22 = .ok (.ireturn, 1) := by decide +kernel
theorem dX10_carryOutAll_23 : decode cX10_carryOutAll 23 = .ok (.iinc 1 1, 3) := by decide +kernel
theorem dX10_carryOutAll_26 : decode cX10_carryOutAll 26 = .ok (.goto (-24), 3) := by decide +kernel
theorem dX10_carryOutAll_29 : decode cX10_carryOutAll 29 = .ok (.iconst (-1), 1) := by decide +kernel
theorem dX10_carryOutAll_30 : decode cX10_carryOutAll 30 = .ok (.ireturn, 1) := by decide +kernel
theorem dX10_answerOfCommand_0 : decode cX10_answerOfCommand 0 = .ok (.aload_n 0, 1) := by decide +kernel
theorem dX10_answerOfCommand_1 : decode cX10_answerOfCommand 1 = .ok (.getfield 43, 3) := by decide +kernel
theorem dX10_answerOfCommand_4 : decode cX10_answerOfCommand 4 = .ok (.iload_n 1, 1) := by decide +kernel
theorem dX10_answerOfCommand_5 : decode cX10_answerOfCommand 5 = .ok (.iconst 0, 1) := by decide +kernel
theorem dX10_answerOfCommand_6 : decode cX10_answerOfCommand 6 = .ok (.invokevirtual 386, 3) := by decide +kernel
theorem dX10_answerOfCommand_9 : decode cX10_answerOfCommand 9 = .ok (.istore_n 2, 1) := by decide +kernel
theorem dX10_answerOfCommand_10 : decode cX10_answerOfCommand 10 = .ok (.aload_n 0, 1) := by decide +kernel
theorem dX10_answerOfCommand_11 : decode cX10_answerOfCommand 11 = .ok (.getfield 43, 3) := by decide +kernel
theorem dX10_answerOfCommand_14 : decode cX10_answerOfCommand 14 = .ok (.iload_n 1, 1) := by decide +kernel
theorem dX10_answerOfCommand_15 : decode cX10_answerOfCommand 15 = .ok (.iconst 1, 1) := by decide +kernel
theorem dX10_answerOfCommand_16 : decode cX10_answerOfCommand 16 = .ok (.invokevirtual 386, 3) := by decide +kernel
theorem dX10_answerOfCommand_19 : decode cX10_answerOfCommand 19 = .ok (.istore_n 3, 1) := by decide +kernel
theorem dX10_answerOfCommand_20 : decode cX10_answerOfCommand 20 = .ok (.aload_n 0, 1) := by decide +kernel
theorem dX10_answerOfCommand_21 : decode cX10_answerOfCommand 21 = .ok (.getfield 43, 3) := by decide +kernel
theorem dX10_answerOfCommand_24 : decode cX10_answerOfCommand 24 = .ok (.iload_n 1, 1) := by decide +kernel
theorem dX10_answerOfCommand_25 : decode cX10_answerOfCommand 25 = .ok (.iconst 2, 1) := by decide +kernel
theorem dX10_answerOfCommand_26 : decode cX10_answerOfCommand 26 = .ok (.invokevirtual 386, 3) := by decide +kernel
theorem dX10_answerOfCommand_29 : decode cX10_answerOfCommand 29 = .ok (.istore 4, 2) := by decide +kernel
theorem dX10_answerOfCommand_31 : decode cX10_answerOfCommand 31 = .ok (.getstatic 389, 3) := by decide +kernel
theorem dX10_answerOfCommand_34 : decode cX10_answerOfCommand 34 = .ok (.getstatic 394, 3) := by decide +kernel
theorem dX10_answerOfCommand_37 : decode cX10_answerOfCommand 37 = .ok (.aload_n 0, 1) := by decide +kernel
theorem dX10_answerOfCommand_38 : decode cX10_answerOfCommand 38 = .ok (.getfield 43, 3) := by decide +kernel
theorem dX10_answerOfCommand_41 : decode cX10_answerOfCommand 41 = .ok (.getfield 398, 3) := by decide +kernel
theorem dX10_answerOfCommand_44 : decode cX10_answerOfCommand 44 = .ok (.iload_n 1, 1) := by decide +kernel
theorem dX10_answerOfCommand_45 : decode cX10_answerOfCommand 45 = .ok (.iaload, 1) := by decide +kernel
theorem dX10_answerOfCommand_46 : decode cX10_answerOfCommand 46 = .ok (.aaload, 1) := by decide +kernel
theorem dX10_answerOfCommand_47 : decode cX10_answerOfCommand 47 = .ok (.invokevirtual 401, 3) := by decide +kernel
theorem dX10_answerOfCommand_50 : decode cX10_answerOfCommand 50 = .ok (.iaload, 1) := by decide +kernel
theorem dX10_answerOfCommand_51 : decode cX10_answerOfCommand 51 = .ok (.tableswitch 150 1 8 #[45, 75, 93, 102, 111, 120, 132, 141], 45) := by decide +kernel
theorem dX10_answerOfCommand_96 : decode cX10_answerOfCommand 96 = .ok (.aload_n 0, 1) := by decide +kernel
theorem dX10_answerOfCommand_97 : decode cX10_answerOfCommand 97 = .ok (.getfield 12, 3) := by decide +kernel
theorem dX10_answerOfCommand_100 : decode cX10_answerOfCommand 100 = .ok (.iload_n 2, 1) := by decide +kernel
theorem dX10_answerOfCommand_101 : decode cX10_answerOfCommand 101 = .ok (.iload_n 3, 1) := by decide +kernel
theorem dX10_answerOfCommand_102 : decode cX10_answerOfCommand 102 = .ok (.iload 4, 2) := by decide +kernel
theorem dX10_answerOfCommand_104 : decode cX10_answerOfCommand 104 = .ok (.aload_n 0, 1) := by decide +kernel
theorem dX10_answerOfCommand_105 : decode cX10_answerOfCommand 105 = .ok (.getfield 43, 3) := by decide +kernel
theorem dX10_answerOfCommand_108 : decode cX10_answerOfCommand 108 = .ok (.iload_n 1, 1) := by decide +kernel
theorem dX10_answerOfCommand_109 : decode cX10_answerOfCommand 109 = .ok (.iconst 3, 1) := by decide +kernel
theorem dX10_answerOfCommand_110 : decode cX10_answerOfCommand 110 = .ok (.invokevirtual 386, 3) := by decide +kernel
theorem dX10_answerOfCommand_113 : decode cX10_answerOfCommand 113 = .ok (.aload_n 0, 1) := by decide +kernel
theorem dX10_answerOfCommand_114 : decode cX10_answerOfCommand 114 = .ok (.getfield 43, 3) := by decide +kernel
theorem dX10_answerOfCommand_117 : decode cX10_answerOfCommand 117 = .ok (.iload_n 1, 1) := by decide +kernel
theorem dX10_answerOfCommand_118 : decode cX10_answerOfCommand 118 = .ok (.iconst 4, 1) := by decide +kernel
theorem dX10_answerOfCommand_119 : decode cX10_answerOfCommand 119 = .ok (.invokevirtual 406, 3) := by decide +kernel
theorem dX10_answerOfCommand_122 : decode cX10_answerOfCommand 122 = .ok (.invokevirtual 65, 3) := by decide +kernel
theorem dX10_answerOfCommand_125 : decode cX10_answerOfCommand 125 = .ok (.ireturn, 1) := by decide +kernel
theorem dX10_answerOfCommand_126 : decode cX10_answerOfCommand 126 = .ok (.aload_n 0, 1) := by decide +kernel
theorem dX10_answerOfCommand_127 : decode cX10_answerOfCommand 127 = .ok (.getfield 12, 3) := by decide +kernel
theorem dX10_answerOfCommand_130 : decode cX10_answerOfCommand 130 = .ok (.iload_n 2, 1) := by decide +kernel
theorem dX10_answerOfCommand_131 : decode cX10_answerOfCommand 131 = .ok (.aload_n 0, 1) := by decide +kernel
theorem dX10_answerOfCommand_132 : decode cX10_answerOfCommand 132 = .ok (.getfield 43, 3) := by decide +kernel
theorem dX10_answerOfCommand_135 : decode cX10_answerOfCommand 135 = .ok (.iload_n 1, 1) := by decide +kernel
theorem dX10_answerOfCommand_136 : decode cX10_answerOfCommand 136 = .ok (.iconst 1, 1) := by decide +kernel
theorem dX10_answerOfCommand_137 : decode cX10_answerOfCommand 137 = .ok (.invokevirtual 406, 3) := by decide +kernel
theorem dX10_answerOfCommand_140 : decode cX10_answerOfCommand 140 = .ok (.invokevirtual 73, 3) := by decide +kernel
theorem dX10_answerOfCommand_143 : decode cX10_answerOfCommand 143 = .ok (.ireturn, 1) := by decide +kernel
theorem dX10_answerOfCommand_144 : decode cX10_answerOfCommand 144 = .ok (.aload_n 0, 1) := by decide +kernel
theorem dX10_answerOfCommand_145 : decode cX10_answerOfCommand 145 = .ok (.getfield 12, 3) := by decide +kernel
theorem dX10_answerOfCommand_148 : decode cX10_answerOfCommand 148 = .ok (.iload_n 2, 1) := by decide +kernel
theorem dX10_answerOfCommand_149 : decode cX10_answerOfCommand 149 = .ok (.invokevirtual 77, 3) := by decide +kernel
theorem dX10_answerOfCommand_152 : decode cX10_answerOfCommand 152 = .ok (.ireturn, 1) := by decide +kernel
theorem dX10_answerOfCommand_153 : decode cX10_answerOfCommand 153 = .ok (.aload_n 0, 1) := by decide +kernel
theorem dX10_answerOfCommand_154 : decode cX10_answerOfCommand 154 = .ok (.getfield 12, 3) := by decide +kernel
theorem dX10_answerOfCommand_157 : decode cX10_answerOfCommand 157 = .ok (.iload_n 2, 1) := by decide +kernel
theorem dX10_answerOfCommand_158 : decode cX10_answerOfCommand 158 = .ok (.invokevirtual 80, 3) := by decide +kernel
theorem dX10_answerOfCommand_161 : decode cX10_answerOfCommand 161 = .ok (.ireturn, 1) := by decide +kernel
theorem dX10_answerOfCommand_162 : decode cX10_answerOfCommand 162 = .ok (.aload_n 0, 1) := by decide +kernel
theorem dX10_answerOfCommand_163 : decode cX10_answerOfCommand 163 = .ok (.getfield 12, 3) := by decide +kernel
theorem dX10_answerOfCommand_166 : decode cX10_answerOfCommand 166 = .ok (.iload_n 2, 1) := by decide +kernel
theorem dX10_answerOfCommand_167 : decode cX10_answerOfCommand 167 = .ok (.invokevirtual 83, 3) := by decide +kernel
theorem dX10_answerOfCommand_170 : decode cX10_answerOfCommand 170 = .ok (.ireturn, 1) := by decide +kernel
theorem dX10_answerOfCommand_171 : decode cX10_answerOfCommand 171 = .ok (.aload_n 0, 1) := by decide +kernel
theorem dX10_answerOfCommand_172 : decode cX10_answerOfCommand 172 = .ok (.getfield 12, 3) := by decide +kernel
theorem dX10_answerOfCommand_175 : decode cX10_answerOfCommand 175 = .ok (.iload_n 2, 1) := by decide +kernel
theorem dX10_answerOfCommand_176 : decode cX10_answerOfCommand 176 = .ok (.iload_n 3, 1) := by decide +kernel
theorem dX10_answerOfCommand_177 : decode cX10_answerOfCommand 177 = .ok (.iload 4, 2) := by decide +kernel
theorem dX10_answerOfCommand_179 : decode cX10_answerOfCommand 179 = .ok (.invokevirtual 86, 3) := by decide +kernel
theorem dX10_answerOfCommand_182 : decode cX10_answerOfCommand 182 = .ok (.ireturn, 1) := by decide +kernel
theorem dX10_answerOfCommand_183 : decode cX10_answerOfCommand 183 = .ok (.aload_n 0, 1) := by decide +kernel
theorem dX10_answerOfCommand_184 : decode cX10_answerOfCommand 184 = .ok (.getfield 12, 3) := by decide +kernel
theorem dX10_answerOfCommand_187 : decode cX10_answerOfCommand 187 = .ok (.iload_n 2, 1) := by decide +kernel
theorem dX10_answerOfCommand_188 : decode cX10_answerOfCommand 188 = .ok (.invokevirtual 90, 3) := by decide +kernel
theorem dX10_answerOfCommand_191 : decode cX10_answerOfCommand 191 = .ok (.ireturn, 1) := by decide +kernel
theorem dX10_answerOfCommand_192 : decode cX10_answerOfCommand 192 = .ok (.aload_n 0, 1) := by decide +kernel
theorem dX10_answerOfCommand_193 : decode cX10_answerOfCommand 193 = .ok (.getfield 12, 3) := by decide +kernel
theorem dX10_answerOfCommand_196 : decode cX10_answerOfCommand 196 = .ok (.iload_n 2, 1) := by decide +kernel
theorem dX10_answerOfCommand_197 : decode cX10_answerOfCommand 197 = .ok (.invokevirtual 93, 3) := by decide +kernel
theorem dX10_answerOfCommand_200 : decode cX10_answerOfCommand 200 = .ok (.ireturn, 1) := by decide +kernel
theorem dX10_answerOfCommand_201 : decode cX10_answerOfCommand 201 = .ok (.aload_n 0, 1) := by decide +kernel
theorem dX10_answerOfCommand_202 : decode cX10_answerOfCommand 202 = .ok (.getfield 12, 3) := by decide +kernel
theorem dX10_answerOfCommand_205 : decode cX10_answerOfCommand 205 = .ok (.bipush 10, 2) := by decide +kernel
theorem dX10_answerOfCommand_207 : decode cX10_answerOfCommand 207 = .ok (.iload_n 2, 1) := by decide +kernel
theorem dX10_answerOfCommand_208 : decode cX10_answerOfCommand 208 = .ok (.imul, 1) := by decide +kernel
theorem dX10_answerOfCommand_209 : decode cX10_answerOfCommand 209 = .ok (.iload_n 3, 1) := by decide +kernel
theorem dX10_answerOfCommand_210 : decode cX10_answerOfCommand 210 = .ok (.iadd, 1) := by decide +kernel
theorem dX10_answerOfCommand_211 : decode cX10_answerOfCommand 211 = .ok (.invokevirtual 93, 3) := by decide +kernel
theorem dX10_answerOfCommand_214 : decode cX10_answerOfCommand 214 = .ok (.ireturn, 1) := by decide +kernel
theorem dX10_waysFrom_0 : decode cX10_waysFrom 0 = .ok (.iload_n 1, 1) := by decide +kernel
theorem dX10_waysFrom_1 : decode cX10_waysFrom 1 = .ok (.bipush 9, 2) := by decide +kernel
theorem dX10_waysFrom_3 : decode cX10_waysFrom 3 = .ok (.if_icmp .lt 5, 3) := by decide +kernel
theorem dX10_waysFrom_6 : decode cX10_waysFrom 6 = .ok (.iconst 1, 1) := by decide +kernel
theorem dX10_waysFrom_7 : decode cX10_waysFrom 7 = .ok (.ireturn, 1) := by decide +kernel
theorem dX10_waysFrom_8 : decode cX10_waysFrom 8 = .ok (.iload_n 2, 1) := by decide +kernel
theorem dX10_waysFrom_9 : decode cX10_waysFrom 9 = .ok (.ifCond .eq 10, 3) := by decide +kernel
theorem dX10_waysFrom_12 : decode cX10_waysFrom 12 = .ok (.bipush 8, 2) := by decide +kernel
theorem dX10_waysFrom_14 : decode cX10_waysFrom 14 = .ok (.iload_n 1, 1) := by decide +kernel
theorem dX10_waysFrom_15 : decode cX10_waysFrom 15 = .ok (.isub, 1) := by decide +kernel
theorem dX10_waysFrom_16 : decode cX10_waysFrom 16 = .ok (.goto 4, 3) := by decide +kernel
theorem dX10_waysFrom_19 : decode cX10_waysFrom 19 = .ok (.iload_n 1, 1) := by decide +kernel
theorem dX10_waysFrom_20 : decode cX10_waysFrom 20 = .ok (.istore_n 3, 1) := by decide +kernel
theorem dX10_waysFrom_21 : decode cX10_waysFrom 21 = .ok (.aload_n 0, 1) := by decide +kernel
theorem dX10_waysFrom_22 : decode cX10_waysFrom 22 = .ok (.iload_n 3, 1) := by decide +kernel
theorem dX10_waysFrom_23 : decode cX10_waysFrom 23 = .ok (.invokevirtual 188, 3) := by decide +kernel
theorem dX10_waysFrom_26 : decode cX10_waysFrom 26 = .ok (.ifCond .eq 12, 3) := by decide +kernel
theorem dX10_waysFrom_29 : decode cX10_waysFrom 29 = .ok (.aload_n 0, 1) := by decide +kernel
theorem dX10_waysFrom_30 : decode cX10_waysFrom 30 = .ok (.iload_n 1, 1) := by decide +kernel
theorem dX10_waysFrom_31 : decode cX10_waysFrom 31 = .ok (.iconst 1, 1) := by decide +kernel
theorem dX10_waysFrom_32 : decode cX10_waysFrom 32 = .ok (.iadd, 1) := by decide +kernel
theorem dX10_waysFrom_33 : decode cX10_waysFrom 33 = .ok (.iload_n 2, 1) := by decide +kernel
theorem dX10_waysFrom_34 : decode cX10_waysFrom 34 = .ok (.invokestatic 210, 3) := by decide +kernel
theorem dX10_waysFrom_37 : decode cX10_waysFrom 37 = .ok (.ireturn, 1) := by decide +kernel
theorem dX10_waysFrom_38 : decode cX10_waysFrom 38 = .ok (.iconst 0, 1) := by decide +kernel
theorem dX10_waysFrom_39 : decode cX10_waysFrom 39 = .ok (.istore 4, 2) := by decide +kernel
theorem dX10_waysFrom_41 : decode cX10_waysFrom 41 = .ok (.iconst 0, 1) := by decide +kernel
theorem dX10_waysFrom_42 : decode cX10_waysFrom 42 = .ok (.istore 5, 2) := by decide +kernel
theorem dX10_waysFrom_44 : decode cX10_waysFrom 44 = .ok (.iload 5, 2) := by decide +kernel
theorem dX10_waysFrom_46 : decode cX10_waysFrom 46 = .ok (.aload_n 0, 1) := by decide +kernel
theorem dX10_waysFrom_47 : decode cX10_waysFrom 47 = .ok (.getfield 96, 3) := by decide +kernel
theorem dX10_waysFrom_50 : decode cX10_waysFrom 50 = .ok (.if_icmp .ge 80, 3) := by decide +kernel
theorem dX10_waysFrom_53 : decode cX10_waysFrom 53 = .ok (.aload_n 0, 1) := by decide +kernel
theorem dX10_waysFrom_54 : decode cX10_waysFrom 54 = .ok (.getfield 370, 3) := by decide +kernel
theorem dX10_waysFrom_57 : decode cX10_waysFrom 57 = .ok (.iload 5, 2) := by decide +kernel
theorem dX10_waysFrom_59 : decode cX10_waysFrom 59 = .ok (.aaload, 1) := by decide +kernel
theorem dX10_waysFrom_60 : decode cX10_waysFrom 60 = .ok (.astore 6, 2) := by decide +kernel
theorem dX10_waysFrom_62 : decode cX10_waysFrom 62 = .ok (.iconst 0, 1) := by decide +kernel
theorem dX10_waysFrom_63 : decode cX10_waysFrom 63 = .ok (.istore 7, 2) := by decide +kernel
theorem dX10_waysFrom_65 : decode cX10_waysFrom 65 = .ok (.iload 7, 2) := by decide +kernel
theorem dX10_waysFrom_67 : decode cX10_waysFrom 67 = .ok (.iconst 4, 1) := by decide +kernel
theorem dX10_waysFrom_68 : decode cX10_waysFrom 68 = .ok (.if_icmp .ge 56, 3) := by decide +kernel
theorem dX10_waysFrom_71 : decode cX10_waysFrom 71 = .ok (.aload 6, 2) := by decide +kernel
theorem dX10_waysFrom_73 : decode cX10_waysFrom 73 = .ok (.invokevirtual 200, 3) := by decide +kernel
theorem dX10_waysFrom_76 : decode cX10_waysFrom 76 = .ok (.ifCond .eq 42, 3) := by decide +kernel
theorem dX10_waysFrom_79 : decode cX10_waysFrom 79 = .ok (.aload_n 0, 1) := by decide +kernel
theorem dX10_waysFrom_80 : decode cX10_waysFrom 80 = .ok (.aload 6, 2) := by decide +kernel
theorem dX10_waysFrom_82 : decode cX10_waysFrom 82 = .ok (.iload_n 3, 1) := by decide +kernel
theorem dX10_waysFrom_83 : decode cX10_waysFrom 83 = .ok (.iload 7, 2) := by decide +kernel
theorem dX10_waysFrom_85 : decode cX10_waysFrom 85 = .ok (.invokevirtual 196, 3) := by decide +kernel
theorem dX10_waysFrom_88 : decode cX10_waysFrom 88 = .ok (.ifCond .eq 30, 3) := by decide +kernel
theorem dX10_waysFrom_91 : decode cX10_waysFrom 91 = .ok (.aload_n 0, 1) := by decide +kernel
theorem dX10_waysFrom_92 : decode cX10_waysFrom 92 = .ok (.iload 5, 2) := by decide +kernel
theorem dX10_waysFrom_94 : decode cX10_waysFrom 94 = .ok (.iload_n 3, 1) := by decide +kernel
theorem dX10_waysFrom_95 : decode cX10_waysFrom 95 = .ok (.iload 7, 2) := by decide +kernel
theorem dX10_waysFrom_97 : decode cX10_waysFrom 97 = .ok (.invokevirtual 410, 3) := by decide +kernel
theorem dX10_waysFrom_100 : decode cX10_waysFrom 100 = .ok (.iload 4, 2) := by decide +kernel
theorem dX10_waysFrom_102 : decode cX10_waysFrom 102 = .ok (.aload_n 0, 1) := by decide +kernel
theorem dX10_waysFrom_103 : decode cX10_waysFrom 103 = .ok (.iload_n 1, 1) := by decide +kernel
theorem dX10_waysFrom_104 : decode cX10_waysFrom 104 = .ok (.iconst 1, 1) := by decide +kernel
theorem dX10_waysFrom_105 : decode cX10_waysFrom 105 = .ok (.iadd, 1) := by decide +kernel
theorem dX10_waysFrom_106 : decode cX10_waysFrom 106 = .ok (.iload_n 2, 1) := by decide +kernel
theorem dX10_waysFrom_107 : decode cX10_waysFrom 107 = .ok (.invokestatic 210, 3) := by decide +kernel
theorem dX10_waysFrom_110 : decode cX10_waysFrom 110 = .ok (.iadd, 1) := by decide +kernel
theorem dX10_waysFrom_111 : decode cX10_waysFrom 111 = .ok (.istore 4, 2) := by decide +kernel
theorem dX10_waysFrom_113 : decode cX10_waysFrom 113 = .ok (.aload_n 0, 1) := by decide +kernel
theorem dX10_waysFrom_114 : decode cX10_waysFrom 114 = .ok (.iload_n 3, 1) := by decide +kernel
theorem dX10_waysFrom_115 : decode cX10_waysFrom 115 = .ok (.invokevirtual 414, 3) := by decide +kernel
theorem dX10_waysFrom_118 : decode cX10_waysFrom 118 = .ok (.iinc 7 1, 3) := by decide +kernel
theorem dX10_waysFrom_121 : decode cX10_waysFrom 121 = .ok (.goto (-56), 3) := by decide +kernel
theorem dX10_waysFrom_124 : decode cX10_waysFrom 124 = .ok (.iinc 5 1, 3) := by decide +kernel
theorem dX10_waysFrom_127 : decode cX10_waysFrom 127 = .ok (.goto (-83), 3) := by decide +kernel
theorem dX10_waysFrom_130 : decode cX10_waysFrom 130 = .ok (.iload 4, 2) := by decide +kernel
theorem dX10_waysFrom_132 : decode cX10_waysFrom 132 = .ok (.ireturn, 1) := by decide +kernel
theorem dX10_isCell_0 : decode cX10_isCell 0 = .ok (.iload_n 0, 1) := by decide +kernel
theorem dX10_isCell_1 : decode cX10_isCell 1 = .ok (.ifCond .lt 13, 3) := by decide +kernel
theorem dX10_isCell_4 : decode cX10_isCell 4 = .ok (.iload_n 0, 1) := by decide +kernel
theorem dX10_isCell_5 : decode cX10_isCell 5 = .ok (.bipush 9, 2) := by decide +kernel
theorem dX10_isCell_7 : decode cX10_isCell 7 = .ok (.if_icmp .ge 7, 3) := by decide +kernel
theorem dX10_isCell_10 : decode cX10_isCell 10 = .ok (.iconst 1, 1) := by decide +kernel
theorem dX10_isCell_11 : decode cX10_isCell 11 = .ok (.goto 4, 3) := by decide +kernel
theorem dX10_isCell_14 : decode cX10_isCell 14 = .ok (.iconst 0, 1) := by decide +kernel
theorem dX10_isCell_15 : decode cX10_isCell 15 = .ok (.ireturn, 1) := by decide +kernel
theorem dX10_isTurns_0 : decode cX10_isTurns 0 = .ok (.iload_n 0, 1) := by decide +kernel
theorem dX10_isTurns_1 : decode cX10_isTurns 1 = .ok (.ifCond .lt 12, 3) := by decide +kernel
theorem dX10_isTurns_4 : decode cX10_isTurns 4 = .ok (.iload_n 0, 1) := by decide +kernel
theorem dX10_isTurns_5 : decode cX10_isTurns 5 = .ok (.iconst 4, 1) := by decide +kernel
theorem dX10_isTurns_6 : decode cX10_isTurns 6 = .ok (.if_icmp .ge 7, 3) := by decide +kernel
theorem dX10_isTurns_9 : decode cX10_isTurns 9 = .ok (.iconst 1, 1) := by decide +kernel
theorem dX10_isTurns_10 : decode cX10_isTurns 10 = .ok (.goto 4, 3) := by decide +kernel
theorem dX10_isTurns_13 : decode cX10_isTurns 13 = .ok (.iconst 0, 1) := by decide +kernel
theorem dX10_isTurns_14 : decode cX10_isTurns 14 = .ok (.ireturn, 1) := by decide +kernel
theorem dX10_isCode_0 : decode cX10_isCode 0 = .ok (.iload_n 0, 1) := by decide +kernel
theorem dX10_isCode_1 : decode cX10_isCode 1 = .ok (.ifCond .lt 13, 3) := by decide +kernel
theorem dX10_isCode_4 : decode cX10_isCode 4 = .ok (.iload_n 0, 1) := by decide +kernel
theorem dX10_isCode_5 : decode cX10_isCode 5 = .ok (.bipush 9, 2) := by decide +kernel
theorem dX10_isCode_7 : decode cX10_isCode 7 = .ok (.if_icmp .gt 7, 3) := by decide +kernel
theorem dX10_isCode_10 : decode cX10_isCode 10 = .ok (.iconst 1, 1) := by decide +kernel
theorem dX10_isCode_11 : decode cX10_isCode 11 = .ok (.goto 4, 3) := by decide +kernel
theorem dX10_isCode_14 : decode cX10_isCode 14 = .ok (.iconst 0, 1) := by decide +kernel
theorem dX10_isCode_15 : decode cX10_isCode 15 = .ok (.ireturn, 1) := by decide +kernel
theorem dX10_isKind_0 : decode cX10_isKind 0 = .ok (.iload_n 0, 1) := by decide +kernel
theorem dX10_isKind_1 : decode cX10_isKind 1 = .ok (.bipush 115, 2) := by decide +kernel
theorem dX10_isKind_3 : decode cX10_isKind 3 = .ok (.if_icmp .eq 15, 3) := by decide +kernel
theorem dX10_isKind_6 : decode cX10_isKind 6 = .ok (.iload_n 0, 1) := by decide +kernel
theorem dX10_isKind_7 : decode cX10_isKind 7 = .ok (.bipush 108, 2) := by decide +kernel
theorem dX10_isKind_9 : decode cX10_isKind 9 = .ok (.if_icmp .eq 9, 3) := by decide +kernel
theorem dX10_isKind_12 : decode cX10_isKind 12 = .ok (.iload_n 0, 1) := by decide +kernel
theorem dX10_isKind_13 : decode cX10_isKind 13 = .ok (.bipush 99, 2) := by decide +kernel
theorem dX10_isKind_15 : decode cX10_isKind 15 = .ok (.if_icmp .ne 7, 3) := by decide +kernel
theorem dX10_isKind_18 : decode cX10_isKind 18 = .ok (.iconst 1, 1) := by decide +kernel
theorem dX10_isKind_19 : decode cX10_isKind 19 = .ok (.goto 4, 3) := by decide +kernel
theorem dX10_isKind_22 : decode cX10_isKind 22 = .ok (.iconst 0, 1) := by decide +kernel
theorem dX10_isKind_23 : decode cX10_isKind 23 = .ok (.ireturn, 1) := by decide +kernel
theorem dX10_isCrease_0 : decode cX10_isCrease 0 = .ok (.iload_n 0, 1) := by decide +kernel
theorem dX10_isCrease_1 : decode cX10_isCrease 1 = .ok (.bipush 118, 2) := by decide +kernel
theorem dX10_isCrease_3 : decode cX10_isCrease 3 = .ok (.if_icmp .eq 9, 3) := by decide +kernel
theorem dX10_isCrease_6 : decode cX10_isCrease 6 = .ok (.iload_n 0, 1) := by decide +kernel
theorem dX10_isCrease_7 : decode cX10_isCrease 7 = .ok (.bipush 109, 2) := by decide +kernel
theorem dX10_isCrease_9 : decode cX10_isCrease 9 = .ok (.if_icmp .ne 7, 3) := by decide +kernel
theorem dX10_isCrease_12 : decode cX10_isCrease 12 = .ok (.iconst 1, 1) := by decide +kernel
theorem dX10_isCrease_13 : decode cX10_isCrease 13 = .ok (.goto 4, 3) := by decide +kernel
theorem dX10_isCrease_16 : decode cX10_isCrease 16 = .ok (.iconst 0, 1) := by decide +kernel
theorem dX10_isCrease_17 : decode cX10_isCrease 17 = .ok (.ireturn, 1) := by decide +kernel
theorem dX10_neighbour_0 : decode cX10_neighbour 0 = .ok (.iload_n 0, 1) := by decide +kernel
theorem dX10_neighbour_1 : decode cX10_neighbour 1 = .ok (.iconst 3, 1) := by decide +kernel
theorem dX10_neighbour_2 : decode cX10_neighbour 2 = .ok (.irem, 1) := by decide +kernel
theorem dX10_neighbour_3 : decode cX10_neighbour 3 = .ok (.istore_n 2, 1) := by decide +kernel
theorem dX10_neighbour_4 : decode cX10_neighbour 4 = .ok (.iload_n 1, 1) := by decide +kernel
theorem dX10_neighbour_5 : decode cX10_neighbour 5 = .ok (.tableswitch 67 0 2 #[27, 40, 53], 27) := by decide +kernel
theorem dX10_neighbour_32 : decode cX10_neighbour 32 = .ok (.iload_n 0, 1) := by decide +kernel
theorem dX10_neighbour_33 : decode cX10_neighbour 33 = .ok (.iconst 3, 1) := by decide +kernel
theorem dX10_neighbour_34 : decode cX10_neighbour 34 = .ok (.if_icmp .lt 9, 3) := by decide +kernel
theorem dX10_neighbour_37 : decode cX10_neighbour 37 = .ok (.iload_n 0, 1) := by decide +kernel
theorem dX10_neighbour_38 : decode cX10_neighbour 38 = .ok (.iconst 3, 1) := by decide +kernel
theorem dX10_neighbour_39 : decode cX10_neighbour 39 = .ok (.isub, 1) := by decide +kernel
theorem dX10_neighbour_40 : decode cX10_neighbour 40 = .ok (.goto 4, 3) := by decide +kernel
theorem dX10_neighbour_43 : decode cX10_neighbour 43 = .ok (.iconst (-1), 1) := by decide +kernel
theorem dX10_neighbour_44 : decode cX10_neighbour 44 = .ok (.ireturn, 1) := by decide +kernel
theorem dX10_neighbour_45 : decode cX10_neighbour 45 = .ok (.iload_n 2, 1) := by decide +kernel
theorem dX10_neighbour_46 : decode cX10_neighbour 46 = .ok (.iconst 2, 1) := by decide +kernel
theorem dX10_neighbour_47 : decode cX10_neighbour 47 = .ok (.if_icmp .ge 9, 3) := by decide +kernel
theorem dX10_neighbour_50 : decode cX10_neighbour 50 = .ok (.iload_n 0, 1) := by decide +kernel
theorem dX10_neighbour_51 : decode cX10_neighbour 51 = .ok (.iconst 1, 1) := by decide +kernel
theorem dX10_neighbour_52 : decode cX10_neighbour 52 = .ok (.iadd, 1) := by decide +kernel
theorem dX10_neighbour_53 : decode cX10_neighbour 53 = .ok (.goto 4, 3) := by decide +kernel
theorem dX10_neighbour_56 : decode cX10_neighbour 56 = .ok (.iconst (-1), 1) := by decide +kernel
theorem dX10_neighbour_57 : decode cX10_neighbour 57 = .ok (.ireturn, 1) := by decide +kernel
theorem dX10_neighbour_58 : decode cX10_neighbour 58 = .ok (.iload_n 0, 1) := by decide +kernel
theorem dX10_neighbour_59 : decode cX10_neighbour 59 = .ok (.bipush 6, 2) := by decide +kernel
theorem dX10_neighbour_61 : decode cX10_neighbour 61 = .ok (.if_icmp .ge 9, 3) := by decide +kernel
theorem dX10_neighbour_64 : decode cX10_neighbour 64 = .ok (.iload_n 0, 1) := by decide +kernel
theorem dX10_neighbour_65 : decode cX10_neighbour 65 = .ok (.iconst 3, 1) := by decide +kernel
theorem dX10_neighbour_66 : decode cX10_neighbour 66 = .ok (.iadd, 1) := by decide +kernel
theorem dX10_neighbour_67 : decode cX10_neighbour 67 = .ok (.goto 4, 3) := by decide +kernel
theorem dX10_neighbour_70 : decode cX10_neighbour 70 = .ok (.iconst (-1), 1) := by decide +kernel
theorem dX10_neighbour_71 : decode cX10_neighbour 71 = .ok (.ireturn, 1) := by decide +kernel
theorem dX10_neighbour_72 : decode cX10_neighbour 72 = .ok (.iload_n 2, 1) := by decide +kernel
theorem dX10_neighbour_73 : decode cX10_neighbour 73 = .ok (.ifCond .le 9, 3) := by decide +kernel
theorem dX10_neighbour_76 : decode cX10_neighbour 76 = .ok (.iload_n 0, 1) := by decide +kernel
theorem dX10_neighbour_77 : decode cX10_neighbour 77 = .ok (.iconst 1, 1) := by decide +kernel
theorem dX10_neighbour_78 : decode cX10_neighbour 78 = .ok (.isub, 1) := by decide +kernel
theorem dX10_neighbour_79 : decode cX10_neighbour 79 = .ok (.goto 4, 3) := by decide +kernel
theorem dX10_neighbour_82 : decode cX10_neighbour 82 = .ok (.iconst (-1), 1) := by decide +kernel
theorem dX10_neighbour_83 : decode cX10_neighbour 83 = .ok (.ireturn, 1) := by decide +kernel
theorem dX10_opposite_0 : decode cX10_opposite 0 = .ok (.iload_n 0, 1) := by decide +kernel
theorem dX10_opposite_1 : decode cX10_opposite 1 = .ok (.iconst 2, 1) := by decide +kernel
theorem dX10_opposite_2 : decode cX10_opposite 2 = .ok (.iadd, 1) := by decide +kernel
theorem dX10_opposite_3 : decode cX10_opposite 3 = .ok (.iconst 4, 1) := by decide +kernel
theorem dX10_opposite_4 : decode cX10_opposite 4 = .ok (.irem, 1) := by decide +kernel
theorem dX10_opposite_5 : decode cX10_opposite 5 = .ok (.ireturn, 1) := by decide +kernel

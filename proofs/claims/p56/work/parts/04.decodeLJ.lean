theorem dL_at_0 : decode cL_at 0 = .ok (.iload_n 1, 1) := by decide +kernel
theorem dL_at_1 : decode cL_at 1 = .ok (.aload_n 0, 1) := by decide +kernel
theorem dL_at_2 : decode cL_at 2 = .ok (.arraylength, 1) := by decide +kernel
theorem dL_at_3 : decode cL_at 3 = .ok (.if_icmp .ge 9, 3) := by decide +kernel
theorem dL_at_6 : decode cL_at 6 = .ok (.aload_n 0, 1) := by decide +kernel
theorem dL_at_7 : decode cL_at 7 = .ok (.iload_n 1, 1) := by decide +kernel
theorem dL_at_8 : decode cL_at 8 = .ok (.iaload, 1) := by decide +kernel
theorem dL_at_9 : decode cL_at 9 = .ok (.goto 4, 3) := by decide +kernel
theorem dL_at_12 : decode cL_at 12 = .ok (.iconst 0, 1) := by decide +kernel
theorem dL_at_13 : decode cL_at 13 = .ok (.ireturn, 1) := by decide +kernel
theorem dL_some_0 : decode cL_some 0 = .ok (.iload_n 0, 1) := by decide +kernel
theorem dL_some_1 : decode cL_some 1 = .ok (.iload_n 1, 1) := by decide +kernel
theorem dL_some_2 : decode cL_some 2 = .ok (.irem, 1) := by decide +kernel
theorem dL_some_3 : decode cL_some 3 = .ok (.istore_n 2, 1) := by decide +kernel
theorem dL_some_4 : decode cL_some 4 = .ok (.iload_n 2, 1) := by decide +kernel
theorem dL_some_5 : decode cL_some 5 = .ok (.ifCond .ge 9, 3) := by decide +kernel
theorem dL_some_8 : decode cL_some 8 = .ok (.iload_n 2, 1) := by decide +kernel
theorem dL_some_9 : decode cL_some 9 = .ok (.iload_n 1, 1) := by decide +kernel
theorem dL_some_10 : decode cL_some 10 = .ok (.iadd, 1) := by decide +kernel
theorem dL_some_11 : decode cL_some 11 = .ok (.goto 4, 3) := by decide +kernel
theorem dL_some_14 : decode cL_some 14 = .ok (.iload_n 2, 1) := by decide +kernel
theorem dL_some_15 : decode cL_some 15 = .ok (.ireturn, 1) := by decide +kernel
theorem dL_addSheet_0 : decode cL_addSheet 0 = .ok (.aload_n 0, 1) := by decide +kernel
theorem dL_addSheet_1 : decode cL_addSheet 1 = .ok (.iload_n 1, 1) := by decide +kernel
theorem dL_addSheet_2 : decode cL_addSheet 2 = .ok (.iload_n 2, 1) := by decide +kernel
theorem dL_addSheet_3 : decode cL_addSheet 3 = .ok (.iload_n 3, 1) := by decide +kernel
theorem dL_addSheet_4 : decode cL_addSheet 4 = .ok (.iload 4, 2) := by decide +kernel
theorem dL_addSheet_6 : decode cL_addSheet 6 = .ok (.iload 5, 2) := by decide +kernel
theorem dL_addSheet_8 : decode cL_addSheet 8 = .ok (.invokevirtual 7, 3) := by decide +kernel
theorem dL_addSheet_11 : decode cL_addSheet 11 = .ok (.ireturn, 1) := by decide +kernel
theorem dL_addSheet_12 : decode cL_addSheet 12 = .ok (.astore 6, 2) := by decide +kernel
theorem dL_addSheet_14 : decode cL_addSheet 14 = .ok (.sipush (-1001), 3) := by decide +kernel
theorem dL_addSheet_17 : decode cL_addSheet 17 = .ok (.ireturn, 1) := by decide +kernel
theorem dL_addSheet_18 : decode cL_addSheet 18 = .ok (.astore 6, 2) := by decide +kernel
theorem dL_addSheet_20 : decode cL_addSheet 20 = .ok (.sipush (-1002), 3) := by decide +kernel
theorem dL_addSheet_23 : decode cL_addSheet 23 = .ok (.ireturn, 1) := by decide +kernel
theorem dL_addCrease_0 : decode cL_addCrease 0 = .ok (.aload_n 0, 1) := by decide +kernel
theorem dL_addCrease_1 : decode cL_addCrease 1 = .ok (.iload_n 1, 1) := by decide +kernel
theorem dL_addCrease_2 : decode cL_addCrease 2 = .ok (.iload_n 2, 1) := by decide +kernel
theorem dL_addCrease_3 : decode cL_addCrease 3 = .ok (.invokevirtual 17, 3) := by decide +kernel
theorem dL_addCrease_6 : decode cL_addCrease 6 = .ok (.ireturn, 1) := by decide +kernel
theorem dL_addCrease_7 : decode cL_addCrease 7 = .ok (.astore_n 3, 1) := by decide +kernel
theorem dL_addCrease_8 : decode cL_addCrease 8 = .ok (.sipush (-1001), 3) := by decide +kernel
theorem dL_addCrease_11 : decode cL_addCrease 11 = .ok (.ireturn, 1) := by decide +kernel
theorem dL_addCrease_12 : decode cL_addCrease 12 = .ok (.astore_n 3, 1) := by decide +kernel
theorem dL_addCrease_13 : decode cL_addCrease 13 = .ok (.sipush (-1002), 3) := by decide +kernel
theorem dL_addCrease_16 : decode cL_addCrease 16 = .ok (.ireturn, 1) := by decide +kernel
theorem dL_addCrease_17 : decode cL_addCrease 17 = .ok (.astore_n 3, 1) := by decide +kernel
theorem dL_addCrease_18 : decode cL_addCrease 18 = .ok (.sipush (-1003), 3) := by decide +kernel
theorem dL_addCrease_21 : decode cL_addCrease 21 = .ok (.ireturn, 1) := by decide +kernel
theorem dL_fold_0 : decode cL_fold 0 = .ok (.aload_n 0, 1) := by decide +kernel
theorem dL_fold_1 : decode cL_fold 1 = .ok (.iload_n 1, 1) := by decide +kernel
theorem dL_fold_2 : decode cL_fold 2 = .ok (.invokevirtual 23, 3) := by decide +kernel
theorem dL_fold_5 : decode cL_fold 5 = .ok (.ireturn, 1) := by decide +kernel
theorem dL_fold_6 : decode cL_fold 6 = .ok (.astore_n 2, 1) := by decide +kernel
theorem dL_fold_7 : decode cL_fold 7 = .ok (.sipush (-1001), 3) := by decide +kernel
theorem dL_fold_10 : decode cL_fold 10 = .ok (.ireturn, 1) := by decide +kernel
theorem dL_fold_11 : decode cL_fold 11 = .ok (.astore_n 2, 1) := by decide +kernel
theorem dL_fold_12 : decode cL_fold 12 = .ok (.sipush (-1002), 3) := by decide +kernel
theorem dL_fold_15 : decode cL_fold 15 = .ok (.ireturn, 1) := by decide +kernel
theorem dL_unfold_0 : decode cL_unfold 0 = .ok (.aload_n 0, 1) := by decide +kernel
theorem dL_unfold_1 : decode cL_unfold 1 = .ok (.iload_n 1, 1) := by decide +kernel
theorem dL_unfold_2 : decode cL_unfold 2 = .ok (.invokevirtual 27, 3) := by decide +kernel
theorem dL_unfold_5 : decode cL_unfold 5 = .ok (.ireturn, 1) := by decide +kernel
theorem dL_unfold_6 : decode cL_unfold 6 = .ok (.astore_n 2, 1) := by decide +kernel
theorem dL_unfold_7 : decode cL_unfold 7 = .ok (.sipush (-1001), 3) := by decide +kernel
theorem dL_unfold_10 : decode cL_unfold 10 = .ok (.ireturn, 1) := by decide +kernel
theorem dL_unfold_11 : decode cL_unfold 11 = .ok (.astore_n 2, 1) := by decide +kernel
theorem dL_unfold_12 : decode cL_unfold 12 = .ok (.sipush (-1002), 3) := by decide +kernel
theorem dL_unfold_15 : decode cL_unfold 15 = .ok (.ireturn, 1) := by decide +kernel
theorem dL_mend_0 : decode cL_mend 0 = .ok (.aload_n 0, 1) := by decide +kernel
theorem dL_mend_1 : decode cL_mend 1 = .ok (.iload_n 1, 1) := by decide +kernel
theorem dL_mend_2 : decode cL_mend 2 = .ok (.invokevirtual 30, 3) := by decide +kernel
theorem dL_mend_5 : decode cL_mend 5 = .ok (.ireturn, 1) := by decide +kernel
theorem dL_mend_6 : decode cL_mend 6 = .ok (.astore_n 2, 1) := by decide +kernel
theorem dL_mend_7 : decode cL_mend 7 = .ok (.sipush (-1001), 3) := by decide +kernel
theorem dL_mend_10 : decode cL_mend 10 = .ok (.ireturn, 1) := by decide +kernel
theorem dL_mend_11 : decode cL_mend 11 = .ok (.astore_n 2, 1) := by decide +kernel
theorem dL_mend_12 : decode cL_mend 12 = .ok (.sipush (-1002), 3) := by decide +kernel
theorem dL_mend_15 : decode cL_mend 15 = .ok (.ireturn, 1) := by decide +kernel
theorem dL_mend_16 : decode cL_mend 16 = .ok (.astore_n 2, 1) := by decide +kernel
theorem dL_mend_17 : decode cL_mend 17 = .ok (.sipush (-1003), 3) := by decide +kernel
theorem dL_mend_20 : decode cL_mend 20 = .ok (.ireturn, 1) := by decide +kernel
theorem dL_put_0 : decode cL_put 0 = .ok (.aload_n 0, 1) := by decide +kernel
theorem dL_put_1 : decode cL_put 1 = .ok (.iload_n 1, 1) := by decide +kernel
theorem dL_put_2 : decode cL_put 2 = .ok (.iload_n 2, 1) := by decide +kernel
theorem dL_put_3 : decode cL_put 3 = .ok (.iload_n 3, 1) := by decide +kernel
theorem dL_put_4 : decode cL_put 4 = .ok (.invokevirtual 35, 3) := by decide +kernel
theorem dL_put_7 : decode cL_put 7 = .ok (.ireturn, 1) := by decide +kernel
theorem dL_put_8 : decode cL_put 8 = .ok (.astore 4, 2) := by decide +kernel
theorem dL_put_10 : decode cL_put 10 = .ok (.sipush (-1001), 3) := by decide +kernel
theorem dL_put_13 : decode cL_put 13 = .ok (.ireturn, 1) := by decide +kernel
theorem dL_put_14 : decode cL_put 14 = .ok (.astore 4, 2) := by decide +kernel
theorem dL_put_16 : decode cL_put 16 = .ok (.sipush (-1002), 3) := by decide +kernel
theorem dL_put_19 : decode cL_put 19 = .ok (.ireturn, 1) := by decide +kernel
theorem dL_put_20 : decode cL_put 20 = .ok (.astore 4, 2) := by decide +kernel
theorem dL_put_22 : decode cL_put 22 = .ok (.sipush (-1003), 3) := by decide +kernel
theorem dL_put_25 : decode cL_put 25 = .ok (.ireturn, 1) := by decide +kernel
theorem dL_put_26 : decode cL_put 26 = .ok (.astore 4, 2) := by decide +kernel
theorem dL_put_28 : decode cL_put 28 = .ok (.sipush (-1004), 3) := by decide +kernel
theorem dL_put_31 : decode cL_put 31 = .ok (.ireturn, 1) := by decide +kernel
theorem dL_take_0 : decode cL_take 0 = .ok (.aload_n 0, 1) := by decide +kernel
theorem dL_take_1 : decode cL_take 1 = .ok (.iload_n 1, 1) := by decide +kernel
theorem dL_take_2 : decode cL_take 2 = .ok (.invokevirtual 39, 3) := by decide +kernel
theorem dL_take_5 : decode cL_take 5 = .ok (.ireturn, 1) := by decide +kernel
theorem dL_take_6 : decode cL_take 6 = .ok (.astore_n 2, 1) := by decide +kernel
theorem dL_take_7 : decode cL_take 7 = .ok (.sipush (-1001), 3) := by decide +kernel
theorem dL_take_10 : decode cL_take 10 = .ok (.ireturn, 1) := by decide +kernel
theorem dL_take_11 : decode cL_take 11 = .ok (.astore_n 2, 1) := by decide +kernel
theorem dL_take_12 : decode cL_take 12 = .ok (.sipush (-1002), 3) := by decide +kernel
theorem dL_take_15 : decode cL_take 15 = .ok (.ireturn, 1) := by decide +kernel
theorem dL_addPaste_0 : decode cL_addPaste 0 = .ok (.aload_n 0, 1) := by decide +kernel
theorem dL_addPaste_1 : decode cL_addPaste 1 = .ok (.iload_n 1, 1) := by decide +kernel
theorem dL_addPaste_2 : decode cL_addPaste 2 = .ok (.invokevirtual 44, 3) := by decide +kernel
theorem dL_addPaste_5 : decode cL_addPaste 5 = .ok (.ireturn, 1) := by decide +kernel
theorem dL_addPaste_6 : decode cL_addPaste 6 = .ok (.astore_n 2, 1) := by decide +kernel
theorem dL_addPaste_7 : decode cL_addPaste 7 = .ok (.sipush (-1001), 3) := by decide +kernel
theorem dL_addPaste_10 : decode cL_addPaste 10 = .ok (.ireturn, 1) := by decide +kernel
theorem dL_addPaste_11 : decode cL_addPaste 11 = .ok (.astore_n 2, 1) := by decide +kernel
theorem dL_addPaste_12 : decode cL_addPaste 12 = .ok (.sipush (-1002), 3) := by decide +kernel
theorem dL_addPaste_15 : decode cL_addPaste 15 = .ok (.ireturn, 1) := by decide +kernel
theorem dL_kind_0 : decode cL_kind 0 = .ok (.aload_n 0, 1) := by decide +kernel
theorem dL_kind_1 : decode cL_kind 1 = .ok (.iload_n 1, 1) := by decide +kernel
theorem dL_kind_2 : decode cL_kind 2 = .ok (.invokevirtual 47, 3) := by decide +kernel
theorem dL_kind_5 : decode cL_kind 5 = .ok (.ireturn, 1) := by decide +kernel
theorem dL_kind_6 : decode cL_kind 6 = .ok (.astore_n 2, 1) := by decide +kernel
theorem dL_kind_7 : decode cL_kind 7 = .ok (.sipush (-1001), 3) := by decide +kernel
theorem dL_kind_10 : decode cL_kind 10 = .ok (.ireturn, 1) := by decide +kernel
theorem dL_border_0 : decode cL_border 0 = .ok (.aload_n 0, 1) := by decide +kernel
theorem dL_border_1 : decode cL_border 1 = .ok (.iload_n 1, 1) := by decide +kernel
theorem dL_border_2 : decode cL_border 2 = .ok (.iload_n 2, 1) := by decide +kernel
theorem dL_border_3 : decode cL_border 3 = .ok (.invokevirtual 51, 3) := by decide +kernel
theorem dL_border_6 : decode cL_border 6 = .ok (.ireturn, 1) := by decide +kernel
theorem dL_border_7 : decode cL_border 7 = .ok (.astore_n 3, 1) := by decide +kernel
theorem dL_border_8 : decode cL_border 8 = .ok (.sipush (-1001), 3) := by decide +kernel
theorem dL_border_11 : decode cL_border 11 = .ok (.ireturn, 1) := by decide +kernel
theorem dL_border_12 : decode cL_border 12 = .ok (.astore_n 3, 1) := by decide +kernel
theorem dL_border_13 : decode cL_border 13 = .ok (.sipush (-1002), 3) := by decide +kernel
theorem dL_border_16 : decode cL_border 16 = .ok (.ireturn, 1) := by decide +kernel
theorem dL_wear_0 : decode cL_wear 0 = .ok (.aload_n 0, 1) := by decide +kernel
theorem dL_wear_1 : decode cL_wear 1 = .ok (.iload_n 1, 1) := by decide +kernel
theorem dL_wear_2 : decode cL_wear 2 = .ok (.invokevirtual 55, 3) := by decide +kernel
theorem dL_wear_5 : decode cL_wear 5 = .ok (.ireturn, 1) := by decide +kernel
theorem dL_wear_6 : decode cL_wear 6 = .ok (.astore_n 2, 1) := by decide +kernel
theorem dL_wear_7 : decode cL_wear 7 = .ok (.sipush (-1001), 3) := by decide +kernel
theorem dL_wear_10 : decode cL_wear 10 = .ok (.ireturn, 1) := by decide +kernel
theorem dL_isTorn_0 : decode cL_isTorn 0 = .ok (.aload_n 0, 1) := by decide +kernel
theorem dL_isTorn_1 : decode cL_isTorn 1 = .ok (.iload_n 1, 1) := by decide +kernel
theorem dL_isTorn_2 : decode cL_isTorn 2 = .ok (.invokevirtual 58, 3) := by decide +kernel
theorem dL_isTorn_5 : decode cL_isTorn 5 = .ok (.ifCond .eq 7, 3) := by decide +kernel
theorem dL_isTorn_8 : decode cL_isTorn 8 = .ok (.iconst 1, 1) := by decide +kernel
theorem dL_isTorn_9 : decode cL_isTorn 9 = .ok (.goto 4, 3) := by decide +kernel
theorem dL_isTorn_12 : decode cL_isTorn 12 = .ok (.iconst 0, 1) := by decide +kernel
theorem dL_isTorn_13 : decode cL_isTorn 13 = .ok (.ireturn, 1) := by decide +kernel
theorem dL_isTorn_14 : decode cL_isTorn 14 = .ok (.astore_n 2, 1) := by decide +kernel
theorem dL_isTorn_15 : decode cL_isTorn 15 = .ok (.sipush (-1001), 3) := by decide +kernel
theorem dL_isTorn_18 : decode cL_isTorn 18 = .ok (.ireturn, 1) := by decide +kernel
theorem dL_isFolded_0 : decode cL_isFolded 0 = .ok (.aload_n 0, 1) := by decide +kernel
theorem dL_isFolded_1 : decode cL_isFolded 1 = .ok (.iload_n 1, 1) := by decide +kernel
theorem dL_isFolded_2 : decode cL_isFolded 2 = .ok (.invokevirtual 62, 3) := by decide +kernel
theorem dL_isFolded_5 : decode cL_isFolded 5 = .ok (.ifCond .eq 7, 3) := by decide +kernel
theorem dL_isFolded_8 : decode cL_isFolded 8 = .ok (.iconst 1, 1) := by decide +kernel
theorem dL_isFolded_9 : decode cL_isFolded 9 = .ok (.goto 4, 3) := by decide +kernel
theorem dL_isFolded_12 : decode cL_isFolded 12 = .ok (.iconst 0, 1) := by decide +kernel
theorem dL_isFolded_13 : decode cL_isFolded 13 = .ok (.ireturn, 1) := by decide +kernel
theorem dL_isFolded_14 : decode cL_isFolded 14 = .ok (.astore_n 2, 1) := by decide +kernel
theorem dL_isFolded_15 : decode cL_isFolded 15 = .ok (.sipush (-1001), 3) := by decide +kernel
theorem dL_isFolded_18 : decode cL_isFolded 18 = .ok (.ireturn, 1) := by decide +kernel
theorem dL_creaseCount_0 : decode cL_creaseCount 0 = .ok (.aload_n 0, 1) := by decide +kernel
theorem dL_creaseCount_1 : decode cL_creaseCount 1 = .ok (.iload_n 1, 1) := by decide +kernel
theorem dL_creaseCount_2 : decode cL_creaseCount 2 = .ok (.invokevirtual 65, 3) := by decide +kernel
theorem dL_creaseCount_5 : decode cL_creaseCount 5 = .ok (.ireturn, 1) := by decide +kernel
theorem dL_creaseCount_6 : decode cL_creaseCount 6 = .ok (.astore_n 2, 1) := by decide +kernel
theorem dL_creaseCount_7 : decode cL_creaseCount 7 = .ok (.sipush (-1001), 3) := by decide +kernel
theorem dL_creaseCount_10 : decode cL_creaseCount 10 = .ok (.ireturn, 1) := by decide +kernel
theorem dL_crease_0 : decode cL_crease 0 = .ok (.aload_n 0, 1) := by decide +kernel
theorem dL_crease_1 : decode cL_crease 1 = .ok (.iload_n 1, 1) := by decide +kernel
theorem dL_crease_2 : decode cL_crease 2 = .ok (.iload_n 2, 1) := by decide +kernel
theorem dL_crease_3 : decode cL_crease 3 = .ok (.invokevirtual 68, 3) := by decide +kernel
theorem dL_crease_6 : decode cL_crease 6 = .ok (.ireturn, 1) := by decide +kernel
theorem dL_crease_7 : decode cL_crease 7 = .ok (.astore_n 3, 1) := by decide +kernel
theorem dL_crease_8 : decode cL_crease 8 = .ok (.sipush (-1001), 3) := by decide +kernel
theorem dL_crease_11 : decode cL_crease 11 = .ok (.ireturn, 1) := by decide +kernel
theorem dL_cellOf_0 : decode cL_cellOf 0 = .ok (.aload_n 0, 1) := by decide +kernel
theorem dL_cellOf_1 : decode cL_cellOf 1 = .ok (.iload_n 1, 1) := by decide +kernel
theorem dL_cellOf_2 : decode cL_cellOf 2 = .ok (.invokevirtual 72, 3) := by decide +kernel
theorem dL_cellOf_5 : decode cL_cellOf 5 = .ok (.ireturn, 1) := by decide +kernel
theorem dL_cellOf_6 : decode cL_cellOf 6 = .ok (.astore_n 2, 1) := by decide +kernel
theorem dL_cellOf_7 : decode cL_cellOf 7 = .ok (.sipush (-1001), 3) := by decide +kernel
theorem dL_cellOf_10 : decode cL_cellOf 10 = .ok (.ireturn, 1) := by decide +kernel
theorem dL_cellOf_11 : decode cL_cellOf 11 = .ok (.astore_n 2, 1) := by decide +kernel
theorem dL_cellOf_12 : decode cL_cellOf 12 = .ok (.sipush (-1002), 3) := by decide +kernel
theorem dL_cellOf_15 : decode cL_cellOf 15 = .ok (.ireturn, 1) := by decide +kernel
theorem dL_sheetIn_0 : decode cL_sheetIn 0 = .ok (.aload_n 0, 1) := by decide +kernel
theorem dL_sheetIn_1 : decode cL_sheetIn 1 = .ok (.iload_n 1, 1) := by decide +kernel
theorem dL_sheetIn_2 : decode cL_sheetIn 2 = .ok (.invokevirtual 75, 3) := by decide +kernel
theorem dL_sheetIn_5 : decode cL_sheetIn 5 = .ok (.ireturn, 1) := by decide +kernel
theorem dL_sheetIn_6 : decode cL_sheetIn 6 = .ok (.astore_n 2, 1) := by decide +kernel
theorem dL_sheetIn_7 : decode cL_sheetIn 7 = .ok (.sipush (-1001), 3) := by decide +kernel
theorem dL_sheetIn_10 : decode cL_sheetIn 10 = .ok (.ireturn, 1) := by decide +kernel
theorem dL_sheetIn_11 : decode cL_sheetIn 11 = .ok (.astore_n 2, 1) := by decide +kernel
theorem dL_sheetIn_12 : decode cL_sheetIn 12 = .ok (.sipush (-1002), 3) := by decide +kernel
theorem dL_sheetIn_15 : decode cL_sheetIn 15 = .ok (.ireturn, 1) := by decide +kernel
theorem dL_turnsIn_0 : decode cL_turnsIn 0 = .ok (.aload_n 0, 1) := by decide +kernel
theorem dL_turnsIn_1 : decode cL_turnsIn 1 = .ok (.iload_n 1, 1) := by decide +kernel
theorem dL_turnsIn_2 : decode cL_turnsIn 2 = .ok (.invokevirtual 78, 3) := by decide +kernel
theorem dL_turnsIn_5 : decode cL_turnsIn 5 = .ok (.ireturn, 1) := by decide +kernel
theorem dL_turnsIn_6 : decode cL_turnsIn 6 = .ok (.astore_n 2, 1) := by decide +kernel
theorem dL_turnsIn_7 : decode cL_turnsIn 7 = .ok (.sipush (-1001), 3) := by decide +kernel
theorem dL_turnsIn_10 : decode cL_turnsIn 10 = .ok (.ireturn, 1) := by decide +kernel
theorem dL_turnsIn_11 : decode cL_turnsIn 11 = .ok (.astore_n 2, 1) := by decide +kernel
theorem dL_turnsIn_12 : decode cL_turnsIn 12 = .ok (.sipush (-1002), 3) := by decide +kernel
theorem dL_turnsIn_15 : decode cL_turnsIn 15 = .ok (.ireturn, 1) := by decide +kernel
theorem dL_borderIn_0 : decode cL_borderIn 0 = .ok (.aload_n 0, 1) := by decide +kernel
theorem dL_borderIn_1 : decode cL_borderIn 1 = .ok (.iload_n 1, 1) := by decide +kernel
theorem dL_borderIn_2 : decode cL_borderIn 2 = .ok (.iload_n 2, 1) := by decide +kernel
theorem dL_borderIn_3 : decode cL_borderIn 3 = .ok (.invokevirtual 81, 3) := by decide +kernel
theorem dL_borderIn_6 : decode cL_borderIn 6 = .ok (.ireturn, 1) := by decide +kernel
theorem dL_borderIn_7 : decode cL_borderIn 7 = .ok (.astore_n 3, 1) := by decide +kernel
theorem dL_borderIn_8 : decode cL_borderIn 8 = .ok (.sipush (-1001), 3) := by decide +kernel
theorem dL_borderIn_11 : decode cL_borderIn 11 = .ok (.ireturn, 1) := by decide +kernel
theorem dL_borderIn_12 : decode cL_borderIn 12 = .ok (.astore_n 3, 1) := by decide +kernel
theorem dL_borderIn_13 : decode cL_borderIn 13 = .ok (.sipush (-1002), 3) := by decide +kernel
theorem dL_borderIn_16 : decode cL_borderIn 16 = .ok (.ireturn, 1) := by decide +kernel
theorem dL_borderIn_17 : decode cL_borderIn 17 = .ok (.astore_n 3, 1) := by decide +kernel
theorem dL_borderIn_18 : decode cL_borderIn 18 = .ok (.sipush (-1003), 3) := by decide +kernel
theorem dL_borderIn_21 : decode cL_borderIn 21 = .ok (.ireturn, 1) := by decide +kernel
theorem dL_matches_0 : decode cL_matches 0 = .ok (.aload_n 0, 1) := by decide +kernel
theorem dL_matches_1 : decode cL_matches 1 = .ok (.iload_n 1, 1) := by decide +kernel
theorem dL_matches_2 : decode cL_matches 2 = .ok (.iload_n 2, 1) := by decide +kernel
theorem dL_matches_3 : decode cL_matches 3 = .ok (.iload_n 3, 1) := by decide +kernel
theorem dL_matches_4 : decode cL_matches 4 = .ok (.invokevirtual 84, 3) := by decide +kernel
theorem dL_matches_7 : decode cL_matches 7 = .ok (.ifCond .eq 7, 3) := by decide +kernel
theorem dL_matches_10 : decode cL_matches 10 = .ok (.iconst 1, 1) := by decide +kernel
theorem dL_matches_11 : decode cL_matches 11 = .ok (.goto 4, 3) := by decide +kernel
theorem dL_matches_14 : decode cL_matches 14 = .ok (.iconst 0, 1) := by decide +kernel
theorem dL_matches_15 : decode cL_matches 15 = .ok (.ireturn, 1) := by decide +kernel
theorem dL_matches_16 : decode cL_matches 16 = .ok (.astore 4, 2) := by decide +kernel
theorem dL_matches_18 : decode cL_matches 18 = .ok (.sipush (-1001), 3) := by decide +kernel
theorem dL_matches_21 : decode cL_matches 21 = .ok (.ireturn, 1) := by decide +kernel
theorem dL_matches_22 : decode cL_matches 22 = .ok (.astore 4, 2) := by decide +kernel
theorem dL_matches_24 : decode cL_matches 24 = .ok (.sipush (-1002), 3) := by decide +kernel
theorem dL_matches_27 : decode cL_matches 27 = .ok (.ireturn, 1) := by decide +kernel
theorem dL_matches_28 : decode cL_matches 28 = .ok (.astore 4, 2) := by decide +kernel
theorem dL_matches_30 : decode cL_matches 30 = .ok (.sipush (-1003), 3) := by decide +kernel
theorem dL_matches_33 : decode cL_matches 33 = .ok (.ireturn, 1) := by decide +kernel
theorem dL_waysToPut_0 : decode cL_waysToPut 0 = .ok (.aload_n 0, 1) := by decide +kernel
theorem dL_waysToPut_1 : decode cL_waysToPut 1 = .ok (.iload_n 1, 1) := by decide +kernel
theorem dL_waysToPut_2 : decode cL_waysToPut 2 = .ok (.invokevirtual 88, 3) := by decide +kernel
theorem dL_waysToPut_5 : decode cL_waysToPut 5 = .ok (.ireturn, 1) := by decide +kernel
theorem dL_waysToPut_6 : decode cL_waysToPut 6 = .ok (.astore_n 2, 1) := by decide +kernel
theorem dL_waysToPut_7 : decode cL_waysToPut 7 = .ok (.sipush (-1001), 3) := by decide +kernel
theorem dL_waysToPut_10 : decode cL_waysToPut 10 = .ok (.ireturn, 1) := by decide +kernel
theorem dL_completions_0 : decode cL_completions 0 = .ok (.aload_n 0, 1) := by decide +kernel
theorem dL_completions_1 : decode cL_completions 1 = .ok (.invokevirtual 91, 3) := by decide +kernel
theorem dL_completions_4 : decode cL_completions 4 = .ok (.ireturn, 1) := by decide +kernel
theorem dL_completions_5 : decode cL_completions 5 = .ok (.astore_n 1, 1) := by decide +kernel
theorem dL_completions_6 : decode cL_completions 6 = .ok (.sipush (-1001), 3) := by decide +kernel
theorem dL_completions_9 : decode cL_completions 9 = .ok (.ireturn, 1) := by decide +kernel
theorem dL_backwards_0 : decode cL_backwards 0 = .ok (.aload_n 0, 1) := by decide +kernel
theorem dL_backwards_1 : decode cL_backwards 1 = .ok (.invokevirtual 95, 3) := by decide +kernel
theorem dL_backwards_4 : decode cL_backwards 4 = .ok (.ireturn, 1) := by decide +kernel
theorem dL_backwards_5 : decode cL_backwards 5 = .ok (.astore_n 1, 1) := by decide +kernel
theorem dL_backwards_6 : decode cL_backwards 6 = .ok (.sipush (-1001), 3) := by decide +kernel
theorem dL_backwards_9 : decode cL_backwards 9 = .ok (.ireturn, 1) := by decide +kernel
theorem dL_foldings_0 : decode cL_foldings 0 = .ok (.aload_n 0, 1) := by decide +kernel
theorem dL_foldings_1 : decode cL_foldings 1 = .ok (.iload_n 1, 1) := by decide +kernel
theorem dL_foldings_2 : decode cL_foldings 2 = .ok (.invokevirtual 98, 3) := by decide +kernel
theorem dL_foldings_5 : decode cL_foldings 5 = .ok (.ireturn, 1) := by decide +kernel
theorem dL_foldings_6 : decode cL_foldings 6 = .ok (.astore_n 2, 1) := by decide +kernel
theorem dL_foldings_7 : decode cL_foldings 7 = .ok (.sipush (-1001), 3) := by decide +kernel
theorem dL_foldings_10 : decode cL_foldings 10 = .ok (.ireturn, 1) := by decide +kernel
theorem dL_byPermutations_0 : decode cL_byPermutations 0 = .ok (.aload_n 0, 1) := by decide +kernel
theorem dL_byPermutations_1 : decode cL_byPermutations 1 = .ok (.iload_n 1, 1) := by decide +kernel
theorem dL_byPermutations_2 : decode cL_byPermutations 2 = .ok (.invokevirtual 101, 3) := by decide +kernel
theorem dL_byPermutations_5 : decode cL_byPermutations 5 = .ok (.ireturn, 1) := by decide +kernel
theorem dL_byPermutations_6 : decode cL_byPermutations 6 = .ok (.astore_n 2, 1) := by decide +kernel
theorem dL_byPermutations_7 : decode cL_byPermutations 7 = .ok (.sipush (-1001), 3) := by decide +kernel
theorem dL_byPermutations_10 : decode cL_byPermutations 10 = .ok (.ireturn, 1) := by decide +kernel
theorem dL_onTop_0 : decode cL_onTop 0 = .ok (.aload_n 0, 1) := by decide +kernel
theorem dL_onTop_1 : decode cL_onTop 1 = .ok (.iload_n 1, 1) := by decide +kernel
theorem dL_onTop_2 : decode cL_onTop 2 = .ok (.iload_n 2, 1) := by decide +kernel
theorem dL_onTop_3 : decode cL_onTop 3 = .ok (.invokevirtual 104, 3) := by decide +kernel
theorem dL_onTop_6 : decode cL_onTop 6 = .ok (.ifCond .eq 7, 3) := by decide +kernel
theorem dL_onTop_9 : decode cL_onTop 9 = .ok (.iconst 1, 1) := by decide +kernel
theorem dL_onTop_10 : decode cL_onTop 10 = .ok (.goto 4, 3) := by decide +kernel
theorem dL_onTop_13 : decode cL_onTop 13 = .ok (.iconst 0, 1) := by decide +kernel
theorem dL_onTop_14 : decode cL_onTop 14 = .ok (.ireturn, 1) := by decide +kernel
theorem dL_onTop_15 : decode cL_onTop 15 = .ok (.astore_n 3, 1) := by decide +kernel
theorem dL_onTop_16 : decode cL_onTop 16 = .ok (.sipush (-1001), 3) := by decide +kernel
theorem dL_onTop_19 : decode cL_onTop 19 = .ok (.ireturn, 1) := by decide +kernel
theorem dL_pointsOf_0 : decode cL_pointsOf 0 = .ok (.aload_n 0, 1) := by decide +kernel
theorem dL_pointsOf_1 : decode cL_pointsOf 1 = .ok (.iload_n 1, 1) := by decide +kernel
theorem dL_pointsOf_2 : decode cL_pointsOf 2 = .ok (.invokevirtual 108, 3) := by decide +kernel
theorem dL_pointsOf_5 : decode cL_pointsOf 5 = .ok (.ireturn, 1) := by decide +kernel
theorem dL_pointsOf_6 : decode cL_pointsOf 6 = .ok (.astore_n 2, 1) := by decide +kernel
theorem dL_pointsOf_7 : decode cL_pointsOf 7 = .ok (.sipush (-1001), 3) := by decide +kernel
theorem dL_pointsOf_10 : decode cL_pointsOf 10 = .ok (.ireturn, 1) := by decide +kernel
theorem dL_pointsOf_11 : decode cL_pointsOf 11 = .ok (.astore_n 2, 1) := by decide +kernel
theorem dL_pointsOf_12 : decode cL_pointsOf 12 = .ok (.sipush (-1002), 3) := by decide +kernel
theorem dL_pointsOf_15 : decode cL_pointsOf 15 = .ok (.ireturn, 1) := by decide +kernel
theorem dL_groupSize_0 : decode cL_groupSize 0 = .ok (.aload_n 0, 1) := by decide +kernel
theorem dL_groupSize_1 : decode cL_groupSize 1 = .ok (.iload_n 1, 1) := by decide +kernel
theorem dL_groupSize_2 : decode cL_groupSize 2 = .ok (.invokevirtual 111, 3) := by decide +kernel
theorem dL_groupSize_5 : decode cL_groupSize 5 = .ok (.ireturn, 1) := by decide +kernel
theorem dL_groupSize_6 : decode cL_groupSize 6 = .ok (.astore_n 2, 1) := by decide +kernel
theorem dL_groupSize_7 : decode cL_groupSize 7 = .ok (.sipush (-1001), 3) := by decide +kernel
theorem dL_groupSize_10 : decode cL_groupSize 10 = .ok (.ireturn, 1) := by decide +kernel
theorem dL_groupSize_11 : decode cL_groupSize 11 = .ok (.astore_n 2, 1) := by decide +kernel
theorem dL_groupSize_12 : decode cL_groupSize 12 = .ok (.sipush (-1002), 3) := by decide +kernel
theorem dL_groupSize_15 : decode cL_groupSize 15 = .ok (.ireturn, 1) := by decide +kernel
theorem dL_byWear_0 : decode cL_byWear 0 = .ok (.aload_n 0, 1) := by decide +kernel
theorem dL_byWear_1 : decode cL_byWear 1 = .ok (.iload_n 1, 1) := by decide +kernel
theorem dL_byWear_2 : decode cL_byWear 2 = .ok (.invokevirtual 114, 3) := by decide +kernel
theorem dL_byWear_5 : decode cL_byWear 5 = .ok (.ireturn, 1) := by decide +kernel
theorem dL_byWear_6 : decode cL_byWear 6 = .ok (.astore_n 2, 1) := by decide +kernel
theorem dL_byWear_7 : decode cL_byWear 7 = .ok (.sipush (-1001), 3) := by decide +kernel
theorem dL_byWear_10 : decode cL_byWear 10 = .ok (.ireturn, 1) := by decide +kernel
theorem dL_meanWear_0 : decode cL_meanWear 0 = .ok (.aload_n 0, 1) := by decide +kernel
theorem dL_meanWear_1 : decode cL_meanWear 1 = .ok (.invokevirtual 117, 3) := by decide +kernel
theorem dL_meanWear_4 : decode cL_meanWear 4 = .ok (.dreturn, 1) := by decide +kernel
theorem dL_meanWear_5 : decode cL_meanWear 5 = .ok (.astore_n 1, 1) := by decide +kernel
theorem dL_meanWear_6 : decode cL_meanWear 6 = .ok (.ldc2_w 123, 3) := by decide +kernel
theorem dL_meanWear_9 : decode cL_meanWear 9 = .ok (.dreturn, 1) := by decide +kernel
theorem dL_feed_0 : decode cL_feed 0 = .ok (.aload_n 0, 1) := by decide +kernel
theorem dL_feed_1 : decode cL_feed 1 = .ok (.iload_n 1, 1) := by decide +kernel
theorem dL_feed_2 : decode cL_feed 2 = .ok (.invokevirtual 125, 3) := by decide +kernel
theorem dL_feed_5 : decode cL_feed 5 = .ok (.ireturn, 1) := by decide +kernel
theorem dL_feed_6 : decode cL_feed 6 = .ok (.astore_n 2, 1) := by decide +kernel
theorem dL_feed_7 : decode cL_feed 7 = .ok (.sipush (-1001), 3) := by decide +kernel
theorem dL_feed_10 : decode cL_feed 10 = .ok (.ireturn, 1) := by decide +kernel
theorem dL_run_0 : decode cL_run 0 = .ok (.aload_n 0, 1) := by decide +kernel
theorem dL_run_1 : decode cL_run 1 = .ok (.invokevirtual 129, 3) := by decide +kernel
theorem dL_run_4 : decode cL_run 4 = .ok (.ireturn, 1) := by decide +kernel
theorem dL_run_5 : decode cL_run 5 = .ok (.astore_n 1, 1) := by decide +kernel
theorem dL_run_6 : decode cL_run 6 = .ok (.sipush (-1001), 3) := by decide +kernel
theorem dL_run_9 : decode cL_run 9 = .ok (.ireturn, 1) := by decide +kernel
theorem dL_run_10 : decode cL_run 10 = .ok (.astore_n 1, 1) := by decide +kernel
theorem dL_run_11 : decode cL_run 11 = .ok (.sipush (-1002), 3) := by decide +kernel
theorem dL_run_14 : decode cL_run 14 = .ok (.ireturn, 1) := by decide +kernel
theorem dL_errorPosition_0 : decode cL_errorPosition 0 = .ok (.aload_n 0, 1) := by decide +kernel
theorem dL_errorPosition_1 : decode cL_errorPosition 1 = .ok (.invokevirtual 132, 3) := by decide +kernel
theorem dL_errorPosition_4 : decode cL_errorPosition 4 = .ok (.ireturn, 1) := by decide +kernel
theorem dL_errorPosition_5 : decode cL_errorPosition 5 = .ok (.astore_n 1, 1) := by decide +kernel
theorem dL_errorPosition_6 : decode cL_errorPosition 6 = .ok (.sipush (-1001), 3) := by decide +kernel
theorem dL_errorPosition_9 : decode cL_errorPosition 9 = .ok (.ireturn, 1) := by decide +kernel
theorem dL_failedCommand_0 : decode cL_failedCommand 0 = .ok (.aload_n 0, 1) := by decide +kernel
theorem dL_failedCommand_1 : decode cL_failedCommand 1 = .ok (.invokevirtual 135, 3) := by decide +kernel
theorem dL_failedCommand_4 : decode cL_failedCommand 4 = .ok (.ireturn, 1) := by decide +kernel
theorem dL_failedCommand_5 : decode cL_failedCommand 5 = .ok (.astore_n 1, 1) := by decide +kernel
theorem dL_failedCommand_6 : decode cL_failedCommand 6 = .ok (.sipush (-1001), 3) := by decide +kernel
theorem dL_failedCommand_9 : decode cL_failedCommand 9 = .ok (.ireturn, 1) := by decide +kernel
theorem dL_writeSheet_0 : decode cL_writeSheet 0 = .ok (.aload_n 0, 1) := by decide +kernel
theorem dL_writeSheet_1 : decode cL_writeSheet 1 = .ok (.iload_n 1, 1) := by decide +kernel
theorem dL_writeSheet_2 : decode cL_writeSheet 2 = .ok (.invokevirtual 138, 3) := by decide +kernel
theorem dL_writeSheet_5 : decode cL_writeSheet 5 = .ok (.ireturn, 1) := by decide +kernel
theorem dL_writeSheet_6 : decode cL_writeSheet 6 = .ok (.astore_n 2, 1) := by decide +kernel
theorem dL_writeSheet_7 : decode cL_writeSheet 7 = .ok (.sipush (-1001), 3) := by decide +kernel
theorem dL_writeSheet_10 : decode cL_writeSheet 10 = .ok (.ireturn, 1) := by decide +kernel
theorem dL_outputChar_0 : decode cL_outputChar 0 = .ok (.aload_n 0, 1) := by decide +kernel
theorem dL_outputChar_1 : decode cL_outputChar 1 = .ok (.iload_n 1, 1) := by decide +kernel
theorem dL_outputChar_2 : decode cL_outputChar 2 = .ok (.invokevirtual 141, 3) := by decide +kernel
theorem dL_outputChar_5 : decode cL_outputChar 5 = .ok (.ireturn, 1) := by decide +kernel
theorem dL_outputChar_6 : decode cL_outputChar 6 = .ok (.astore_n 2, 1) := by decide +kernel
theorem dL_outputChar_7 : decode cL_outputChar 7 = .ok (.sipush (-1001), 3) := by decide +kernel
theorem dL_outputChar_10 : decode cL_outputChar 10 = .ok (.ireturn, 1) := by decide +kernel
theorem dL_undo_0 : decode cL_undo 0 = .ok (.aload_n 0, 1) := by decide +kernel
theorem dL_undo_1 : decode cL_undo 1 = .ok (.invokevirtual 144, 3) := by decide +kernel
theorem dL_undo_4 : decode cL_undo 4 = .ok (.ireturn, 1) := by decide +kernel
theorem dL_undo_5 : decode cL_undo 5 = .ok (.astore_n 1, 1) := by decide +kernel
theorem dL_undo_6 : decode cL_undo 6 = .ok (.sipush (-1001), 3) := by decide +kernel
theorem dL_undo_9 : decode cL_undo 9 = .ok (.ireturn, 1) := by decide +kernel
theorem dL_restore_0 : decode cL_restore 0 = .ok (.aload_n 0, 1) := by decide +kernel
theorem dL_restore_1 : decode cL_restore 1 = .ok (.invokevirtual 147, 3) := by decide +kernel
theorem dL_restore_4 : decode cL_restore 4 = .ok (.ireturn, 1) := by decide +kernel
theorem dL_restore_5 : decode cL_restore 5 = .ok (.astore_n 1, 1) := by decide +kernel
theorem dL_restore_6 : decode cL_restore 6 = .ok (.sipush (-1001), 3) := by decide +kernel
theorem dL_restore_9 : decode cL_restore 9 = .ok (.ireturn, 1) := by decide +kernel
theorem dL_runs_0 : decode cL_runs 0 = .ok (.iconst 0, 1) := by decide +kernel
theorem dL_runs_1 : decode cL_runs 1 = .ok (.istore_n 2, 1) := by decide +kernel
theorem dL_runs_2 : decode cL_runs 2 = .ok (.iload_n 2, 1) := by decide +kernel
theorem dL_runs_3 : decode cL_runs 3 = .ok (.aload_n 1, 1) := by decide +kernel
theorem dL_runs_4 : decode cL_runs 4 = .ok (.invokevirtual 150, 3) := by decide +kernel
theorem dL_runs_7 : decode cL_runs 7 = .ok (.if_icmp .ge 28, 3) := by decide +kernel
theorem dL_runs_10 : decode cL_runs 10 = .ok (.aload_n 0, 1) := by decide +kernel
theorem dL_runs_11 : decode cL_runs 11 = .ok (.aload_n 1, 1) := by decide +kernel
theorem dL_runs_12 : decode cL_runs 12 = .ok (.iload_n 2, 1) := by decide +kernel
theorem dL_runs_13 : decode cL_runs 13 = .ok (.invokevirtual 155, 3) := by decide +kernel
theorem dL_runs_16 : decode cL_runs 16 = .ok (.invokestatic 158, 3) := by decide +kernel
theorem dL_runs_19 : decode cL_runs 19 = .ok (.iload_n 2, 1) := by decide +kernel
theorem dL_runs_20 : decode cL_runs 20 = .ok (.iconst 1, 1) := by decide +kernel
theorem dL_runs_21 : decode cL_runs 21 = .ok (.iadd, 1) := by decide +kernel
theorem dL_runs_22 : decode cL_runs 22 = .ok (.if_icmp .eq 7, 3) := by decide +kernel
theorem dL_runs_25 : decode cL_runs 25 = .ok (.sipush (-9999), 3) := by decide +kernel
theorem dL_runs_28 : decode cL_runs 28 = .ok (.ireturn, 1) := by decide +kernel
theorem dL_runs_29 : decode cL_runs 29 = .ok (.iinc 2 1, 3) := by decide +kernel
theorem dL_runs_32 : decode cL_runs 32 = .ok (.goto (-30), 3) := by decide +kernel
theorem dL_runs_35 : decode cL_runs 35 = .ok (.aload_n 0, 1) := by decide +kernel
theorem dL_runs_36 : decode cL_runs 36 = .ok (.invokestatic 163, 3) := by decide +kernel
theorem dL_runs_39 : decode cL_runs 39 = .ok (.ireturn, 1) := by decide +kernel
theorem dL_makes_0 : decode cL_makes 0 = .ok (.iconst 4, 1) := by decide +kernel
theorem dL_makes_1 : decode cL_makes 1 = .ok (.aload_n 1, 1) := by decide +kernel
theorem dL_makes_2 : decode cL_makes 2 = .ok (.iconst 0, 1) := by decide +kernel
theorem dL_makes_3 : decode cL_makes 3 = .ok (.invokestatic 170, 3) := by decide +kernel
theorem dL_makes_6 : decode cL_makes 6 = .ok (.bipush 6, 2) := by decide +kernel
theorem dL_makes_8 : decode cL_makes 8 = .ok (.invokestatic 174, 3) := by decide +kernel
theorem dL_makes_11 : decode cL_makes 11 = .ok (.iadd, 1) := by decide +kernel
theorem dL_makes_12 : decode cL_makes 12 = .ok (.istore_n 2, 1) := by decide +kernel
theorem dL_makes_13 : decode cL_makes 13 = .ok (.iconst 1, 1) := by decide +kernel
theorem dL_makes_14 : decode cL_makes 14 = .ok (.aload_n 1, 1) := by decide +kernel
theorem dL_makes_15 : decode cL_makes 15 = .ok (.iconst 1, 1) := by decide +kernel
theorem dL_makes_16 : decode cL_makes 16 = .ok (.invokestatic 170, 3) := by decide +kernel
theorem dL_makes_19 : decode cL_makes 19 = .ok (.iconst 3, 1) := by decide +kernel
theorem dL_makes_20 : decode cL_makes 20 = .ok (.invokestatic 174, 3) := by decide +kernel
theorem dL_makes_23 : decode cL_makes 23 = .ok (.iadd, 1) := by decide +kernel
theorem dL_makes_24 : decode cL_makes 24 = .ok (.istore_n 3, 1) := by decide +kernel
theorem dL_makes_25 : decode cL_makes 25 = .ok (.iconst 0, 1) := by decide +kernel
theorem dL_makes_26 : decode cL_makes 26 = .ok (.istore 4, 2) := by decide +kernel
theorem dL_makes_28 : decode cL_makes 28 = .ok (.iload 4, 2) := by decide +kernel
theorem dL_makes_30 : decode cL_makes 30 = .ok (.iload_n 2, 1) := by decide +kernel
theorem dL_makes_31 : decode cL_makes 31 = .ok (.if_icmp .ge 134, 3) := by decide +kernel
theorem dL_makes_34 : decode cL_makes 34 = .ok (.aload_n 1, 1) := by decide +kernel
theorem dL_makes_35 : decode cL_makes 35 = .ok (.iconst 2, 1) := by decide +kernel
theorem dL_makes_36 : decode cL_makes 36 = .ok (.iload 4, 2) := by decide +kernel
theorem dL_makes_38 : decode cL_makes 38 = .ok (.iadd, 1) := by decide +kernel
theorem dL_makes_39 : decode cL_makes 39 = .ok (.invokestatic 170, 3) := by decide +kernel
theorem dL_makes_42 : decode cL_makes 42 = .ok (.istore 5, 2) := by decide +kernel
theorem dL_makes_44 : decode cL_makes 44 = .ok (.aload_n 0, 1) := by decide +kernel
theorem dL_makes_45 : decode cL_makes 45 = .ok (.iload 5, 2) := by decide +kernel
theorem dL_makes_47 : decode cL_makes 47 = .ok (.iload_n 3, 1) := by decide +kernel
theorem dL_makes_48 : decode cL_makes 48 = .ok (.invokestatic 174, 3) := by decide +kernel
theorem dL_makes_51 : decode cL_makes 51 = .ok (.iload 5, 2) := by decide +kernel
theorem dL_makes_53 : decode cL_makes 53 = .ok (.iconst 3, 1) := by decide +kernel
theorem dL_makes_54 : decode cL_makes 54 = .ok (.ishr, 1) := by decide +kernel
theorem dL_makes_55 : decode cL_makes 55 = .ok (.iload_n 3, 1) := by decide +kernel
theorem dL_makes_56 : decode cL_makes 56 = .ok (.invokestatic 174, 3) := by decide +kernel
theorem dL_makes_59 : decode cL_makes 59 = .ok (.iload 5, 2) := by decide +kernel
theorem dL_makes_61 : decode cL_makes 61 = .ok (.bipush 6, 2) := by decide +kernel
theorem dL_makes_63 : decode cL_makes 63 = .ok (.ishr, 1) := by decide +kernel
theorem dL_makes_64 : decode cL_makes 64 = .ok (.iload_n 3, 1) := by decide +kernel
theorem dL_makes_65 : decode cL_makes 65 = .ok (.invokestatic 174, 3) := by decide +kernel
theorem dL_makes_68 : decode cL_makes 68 = .ok (.iload 5, 2) := by decide +kernel
theorem dL_makes_70 : decode cL_makes 70 = .ok (.bipush 9, 2) := by decide +kernel
theorem dL_makes_72 : decode cL_makes 72 = .ok (.ishr, 1) := by decide +kernel
theorem dL_makes_73 : decode cL_makes 73 = .ok (.iload_n 3, 1) := by decide +kernel
theorem dL_makes_74 : decode cL_makes 74 = .ok (.invokestatic 174, 3) := by decide +kernel
theorem dL_makes_77 : decode cL_makes 77 = .ok (.ldc 177, 2) := by decide +kernel
theorem dL_makes_79 : decode cL_makes 79 = .ok (.iload 5, 2) := by decide +kernel
theorem dL_makes_81 : decode cL_makes 81 = .ok (.bipush 12, 2) := by decide +kernel
theorem dL_makes_83 : decode cL_makes 83 = .ok (.ishr, 1) := by decide +kernel
theorem dL_makes_84 : decode cL_makes 84 = .ok (.iconst 3, 1) := by decide +kernel
theorem dL_makes_85 : decode cL_makes 85 = .ok (.invokestatic 174, 3) := by decide +kernel
theorem dL_makes_88 : decode cL_makes 88 = .ok (.invokevirtual 155, 3) := by decide +kernel
theorem dL_makes_91 : decode cL_makes 91 = .ok (.invokestatic 179, 3) := by decide +kernel
theorem dL_makes_94 : decode cL_makes 94 = .ok (.iload 4, 2) := by decide +kernel
theorem dL_makes_96 : decode cL_makes 96 = .ok (.if_icmp .eq 5, 3) := by decide +kernel
theorem dL_makes_99 : decode cL_makes 99 = .ok (.iconst 0, 1) := by decide +kernel
theorem dL_makes_100 : decode cL_makes 100 = .ok (.ireturn, 1) := by decide +kernel
theorem dL_makes_101 : decode cL_makes 101 = .ok (.iconst 0, 1) := by decide +kernel
theorem dL_makes_102 : decode cL_makes 102 = .ok (.istore 6, 2) := by decide +kernel
theorem dL_makes_104 : decode cL_makes 104 = .ok (.iload 6, 2) := by decide +kernel
theorem dL_makes_106 : decode cL_makes 106 = .ok (.iload 5, 2) := by decide +kernel
theorem dL_makes_108 : decode cL_makes 108 = .ok (.bipush 14, 2) := by decide +kernel
theorem dL_makes_110 : decode cL_makes 110 = .ok (.ishr, 1) := by decide +kernel
theorem dL_makes_111 : decode cL_makes 111 = .ok (.iconst 4, 1) := by decide +kernel
theorem dL_makes_112 : decode cL_makes 112 = .ok (.invokestatic 174, 3) := by decide +kernel
theorem dL_makes_115 : decode cL_makes 115 = .ok (.if_icmp .ge 44, 3) := by decide +kernel
theorem dL_makes_118 : decode cL_makes 118 = .ok (.aload_n 0, 1) := by decide +kernel
theorem dL_makes_119 : decode cL_makes 119 = .ok (.iload 4, 2) := by decide +kernel
theorem dL_makes_121 : decode cL_makes 121 = .ok (.iload 5, 2) := by decide +kernel
theorem dL_makes_123 : decode cL_makes 123 = .ok (.bipush 17, 2) := by decide +kernel
theorem dL_makes_125 : decode cL_makes 125 = .ok (.iload 6, 2) := by decide +kernel
theorem dL_makes_127 : decode cL_makes 127 = .ok (.iadd, 1) := by decide +kernel
theorem dL_makes_128 : decode cL_makes 128 = .ok (.ishr, 1) := by decide +kernel
theorem dL_makes_129 : decode cL_makes 129 = .ok (.iconst 1, 1) := by decide +kernel
theorem dL_makes_130 : decode cL_makes 130 = .ok (.iand, 1) := by decide +kernel
theorem dL_makes_131 : decode cL_makes 131 = .ok (.ifCond .ne 8, 3) := by decide +kernel
theorem dL_makes_134 : decode cL_makes 134 = .ok (.bipush 118, 2) := by decide +kernel
theorem dL_makes_136 : decode cL_makes 136 = .ok (.goto 5, 3) := by decide +kernel
theorem dL_makes_139 : decode cL_makes 139 = .ok (.bipush 109, 2) := by decide +kernel
theorem dL_makes_141 : decode cL_makes 141 = .ok (.invokestatic 182, 3) := by decide +kernel
theorem dL_makes_144 : decode cL_makes 144 = .ok (.iload 6, 2) := by decide +kernel
theorem dL_makes_146 : decode cL_makes 146 = .ok (.iconst 1, 1) := by decide +kernel
theorem dL_makes_147 : decode cL_makes 147 = .ok (.iadd, 1) := by decide +kernel
theorem dL_makes_148 : decode cL_makes 148 = .ok (.if_icmp .eq 5, 3) := by decide +kernel
theorem dL_makes_151 : decode cL_makes 151 = .ok (.iconst 0, 1) := by decide +kernel
theorem dL_makes_152 : decode cL_makes 152 = .ok (.ireturn, 1) := by decide +kernel
theorem dL_makes_153 : decode cL_makes 153 = .ok (.iinc 6 1, 3) := by decide +kernel
theorem dL_makes_156 : decode cL_makes 156 = .ok (.goto (-52), 3) := by decide +kernel
theorem dL_makes_159 : decode cL_makes 159 = .ok (.iinc 4 1, 3) := by decide +kernel
theorem dL_makes_162 : decode cL_makes 162 = .ok (.goto (-134), 3) := by decide +kernel
theorem dL_makes_165 : decode cL_makes 165 = .ok (.iconst 0, 1) := by decide +kernel
theorem dL_makes_166 : decode cL_makes 166 = .ok (.istore 4, 2) := by decide +kernel
theorem dL_makes_168 : decode cL_makes 168 = .ok (.iload 4, 2) := by decide +kernel
theorem dL_makes_170 : decode cL_makes 170 = .ok (.iload_n 2, 1) := by decide +kernel
theorem dL_makes_171 : decode cL_makes 171 = .ok (.if_icmp .ge 66, 3) := by decide +kernel
theorem dL_makes_174 : decode cL_makes 174 = .ok (.aload_n 1, 1) := by decide +kernel
theorem dL_makes_175 : decode cL_makes 175 = .ok (.bipush 12, 2) := by decide +kernel
theorem dL_makes_177 : decode cL_makes 177 = .ok (.iload 4, 2) := by decide +kernel
theorem dL_makes_179 : decode cL_makes 179 = .ok (.iadd, 1) := by decide +kernel
theorem dL_makes_180 : decode cL_makes 180 = .ok (.invokestatic 170, 3) := by decide +kernel
theorem dL_makes_183 : decode cL_makes 183 = .ok (.istore 5, 2) := by decide +kernel
theorem dL_makes_185 : decode cL_makes 185 = .ok (.aload_n 0, 1) := by decide +kernel
theorem dL_makes_186 : decode cL_makes 186 = .ok (.iload 4, 2) := by decide +kernel
theorem dL_makes_188 : decode cL_makes 188 = .ok (.iload 5, 2) := by decide +kernel
theorem dL_makes_190 : decode cL_makes 190 = .ok (.bipush 9, 2) := by decide +kernel
theorem dL_makes_192 : decode cL_makes 192 = .ok (.invokestatic 174, 3) := by decide +kernel
theorem dL_makes_195 : decode cL_makes 195 = .ok (.iload 5, 2) := by decide +kernel
theorem dL_makes_197 : decode cL_makes 197 = .ok (.iconst 4, 1) := by decide +kernel
theorem dL_makes_198 : decode cL_makes 198 = .ok (.ishr, 1) := by decide +kernel
theorem dL_makes_199 : decode cL_makes 199 = .ok (.iconst 4, 1) := by decide +kernel
theorem dL_makes_200 : decode cL_makes 200 = .ok (.invokestatic 174, 3) := by decide +kernel
theorem dL_makes_203 : decode cL_makes 203 = .ok (.invokestatic 185, 3) := by decide +kernel
theorem dL_makes_206 : decode cL_makes 206 = .ok (.istore 6, 2) := by decide +kernel
theorem dL_makes_208 : decode cL_makes 208 = .ok (.iload 6, 2) := by decide +kernel
theorem dL_makes_210 : decode cL_makes 210 = .ok (.ifCond .ge 21, 3) := by decide +kernel
theorem dL_makes_213 : decode cL_makes 213 = .ok (.iload 6, 2) := by decide +kernel
theorem dL_makes_215 : decode cL_makes 215 = .ok (.sipush (-1003), 3) := by decide +kernel
theorem dL_makes_218 : decode cL_makes 218 = .ok (.if_icmp .eq 13, 3) := by decide +kernel
theorem dL_makes_221 : decode cL_makes 221 = .ok (.iload 6, 2) := by decide +kernel
theorem dL_makes_223 : decode cL_makes 223 = .ok (.sipush (-1004), 3) := by decide +kernel
theorem dL_makes_226 : decode cL_makes 226 = .ok (.if_icmp .eq 5, 3) := by decide +kernel
theorem dL_makes_229 : decode cL_makes 229 = .ok (.iconst 0, 1) := by decide +kernel
theorem dL_makes_230 : decode cL_makes 230 = .ok (.ireturn, 1) := by decide +kernel
theorem dL_makes_231 : decode cL_makes 231 = .ok (.iinc 4 1, 3) := by decide +kernel
theorem dL_makes_234 : decode cL_makes 234 = .ok (.goto (-66), 3) := by decide +kernel
theorem dL_makes_237 : decode cL_makes 237 = .ok (.aload_n 0, 1) := by decide +kernel
theorem dL_makes_238 : decode cL_makes 238 = .ok (.iconst 1, 1) := by decide +kernel
theorem dL_makes_239 : decode cL_makes 239 = .ok (.aload_n 1, 1) := by decide +kernel
theorem dL_makes_240 : decode cL_makes 240 = .ok (.bipush 22, 2) := by decide +kernel
theorem dL_makes_242 : decode cL_makes 242 = .ok (.invokestatic 170, 3) := by decide +kernel
theorem dL_makes_245 : decode cL_makes 245 = .ok (.bipush 20, 2) := by decide +kernel
theorem dL_makes_247 : decode cL_makes 247 = .ok (.invokestatic 174, 3) := by decide +kernel
theorem dL_makes_250 : decode cL_makes 250 = .ok (.iadd, 1) := by decide +kernel
theorem dL_makes_251 : decode cL_makes 251 = .ok (.invokestatic 188, 3) := by decide +kernel
theorem dL_makes_254 : decode cL_makes 254 = .ok (.ifCond .le 7, 3) := by decide +kernel
theorem dL_makes_257 : decode cL_makes 257 = .ok (.iconst 1, 1) := by decide +kernel
theorem dL_makes_258 : decode cL_makes 258 = .ok (.goto 4, 3) := by decide +kernel
theorem dL_makes_261 : decode cL_makes 261 = .ok (.iconst 0, 1) := by decide +kernel
theorem dL_makes_262 : decode cL_makes 262 = .ok (.ireturn, 1) := by decide +kernel
theorem dL_asks_0 : decode cL_asks 0 = .ok (.aload_n 0, 1) := by decide +kernel
theorem dL_asks_1 : decode cL_asks 1 = .ok (.invokevirtual 190, 3) := by decide +kernel
theorem dL_asks_4 : decode cL_asks 4 = .ok (.istore_n 1, 1) := by decide +kernel
theorem dL_asks_5 : decode cL_asks 5 = .ok (.ldc2_w 193, 3) := by decide +kernel
theorem dL_asks_8 : decode cL_asks 8 = .ok (.aload_n 0, 1) := by decide +kernel
theorem dL_asks_9 : decode cL_asks 9 = .ok (.invokestatic 195, 3) := by decide +kernel
theorem dL_asks_12 : decode cL_asks 12 = .ok (.invokestatic 198, 3) := by decide +kernel
theorem dL_asks_15 : decode cL_asks 15 = .ok (.lmul, 1) := by decide +kernel
theorem dL_asks_16 : decode cL_asks 16 = .ok (.aload_n 0, 1) := by decide +kernel
theorem dL_asks_17 : decode cL_asks 17 = .ok (.invokevirtual 204, 3) := by decide +kernel
theorem dL_asks_20 : decode cL_asks 20 = .ok (.invokestatic 208, 3) := by decide +kernel
theorem dL_asks_23 : decode cL_asks 23 = .ok (.i2l, 1) := by decide +kernel
theorem dL_asks_24 : decode cL_asks 24 = .ok (.ladd, 1) := by decide +kernel
theorem dL_asks_25 : decode cL_asks 25 = .ok (.lstore_n 2, 1) := by decide +kernel
theorem dL_asks_26 : decode cL_asks 26 = .ok (.ldc2_w 193, 3) := by decide +kernel
theorem dL_asks_29 : decode cL_asks 29 = .ok (.ldc2_w 193, 3) := by decide +kernel
theorem dL_asks_32 : decode cL_asks 32 = .ok (.ldc2_w 193, 3) := by decide +kernel
theorem dL_asks_35 : decode cL_asks 35 = .ok (.ldc2_w 193, 3) := by decide +kernel
theorem dL_asks_38 : decode cL_asks 38 = .ok (.ldc2_w 193, 3) := by decide +kernel
theorem dL_asks_41 : decode cL_asks 41 = .ok (.lload_n 2, 1) := by decide +kernel
theorem dL_asks_42 : decode cL_asks 42 = .ok (.lmul, 1) := by decide +kernel
theorem dL_asks_43 : decode cL_asks 43 = .ok (.iload_n 1, 1) := by decide +kernel
theorem dL_asks_44 : decode cL_asks 44 = .ok (.i2l, 1) := by decide +kernel
theorem dL_asks_45 : decode cL_asks 45 = .ok (.ladd, 1) := by decide +kernel
theorem dL_asks_46 : decode cL_asks 46 = .ok (.lmul, 1) := by decide +kernel
theorem dL_asks_47 : decode cL_asks 47 = .ok (.aload_n 0, 1) := by decide +kernel
theorem dL_asks_48 : decode cL_asks 48 = .ok (.invokevirtual 214, 3) := by decide +kernel
theorem dL_asks_51 : decode cL_asks 51 = .ok (.i2l, 1) := by decide +kernel
theorem dL_asks_52 : decode cL_asks 52 = .ok (.ladd, 1) := by decide +kernel
theorem dL_asks_53 : decode cL_asks 53 = .ok (.lmul, 1) := by decide +kernel
theorem dL_asks_54 : decode cL_asks 54 = .ok (.aload_n 0, 1) := by decide +kernel
theorem dL_asks_55 : decode cL_asks 55 = .ok (.invokevirtual 217, 3) := by decide +kernel
theorem dL_asks_58 : decode cL_asks 58 = .ok (.i2l, 1) := by decide +kernel
theorem dL_asks_59 : decode cL_asks 59 = .ok (.ladd, 1) := by decide +kernel
theorem dL_asks_60 : decode cL_asks 60 = .ok (.lmul, 1) := by decide +kernel
theorem dL_asks_61 : decode cL_asks 61 = .ok (.aload_n 0, 1) := by decide +kernel
theorem dL_asks_62 : decode cL_asks 62 = .ok (.invokevirtual 220, 3) := by decide +kernel
theorem dL_asks_65 : decode cL_asks 65 = .ok (.i2l, 1) := by decide +kernel
theorem dL_asks_66 : decode cL_asks 66 = .ok (.ladd, 1) := by decide +kernel
theorem dL_asks_67 : decode cL_asks 67 = .ok (.lmul, 1) := by decide +kernel
theorem dL_asks_68 : decode cL_asks 68 = .ok (.aload_n 0, 1) := by decide +kernel
theorem dL_asks_69 : decode cL_asks 69 = .ok (.invokevirtual 223, 3) := by decide +kernel
theorem dL_asks_72 : decode cL_asks 72 = .ok (.i2l, 1) := by decide +kernel
theorem dL_asks_73 : decode cL_asks 73 = .ok (.ladd, 1) := by decide +kernel
theorem dL_asks_74 : decode cL_asks 74 = .ok (.lstore_n 2, 1) := by decide +kernel
theorem dL_asks_75 : decode cL_asks 75 = .ok (.ldc2_w 193, 3) := by decide +kernel
theorem dL_asks_78 : decode cL_asks 78 = .ok (.ldc2_w 193, 3) := by decide +kernel
theorem dL_asks_81 : decode cL_asks 81 = .ok (.ldc2_w 193, 3) := by decide +kernel
theorem dL_asks_84 : decode cL_asks 84 = .ok (.lload_n 2, 1) := by decide +kernel
theorem dL_asks_85 : decode cL_asks 85 = .ok (.lmul, 1) := by decide +kernel
theorem dL_asks_86 : decode cL_asks 86 = .ok (.aload_n 0, 1) := by decide +kernel
theorem dL_asks_87 : decode cL_asks 87 = .ok (.invokevirtual 226, 3) := by decide +kernel
theorem dL_asks_90 : decode cL_asks 90 = .ok (.i2l, 1) := by decide +kernel
theorem dL_asks_91 : decode cL_asks 91 = .ok (.ladd, 1) := by decide +kernel
theorem dL_asks_92 : decode cL_asks 92 = .ok (.lmul, 1) := by decide +kernel
theorem dL_asks_93 : decode cL_asks 93 = .ok (.aload_n 0, 1) := by decide +kernel
theorem dL_asks_94 : decode cL_asks 94 = .ok (.invokevirtual 229, 3) := by decide +kernel
theorem dL_asks_97 : decode cL_asks 97 = .ok (.i2l, 1) := by decide +kernel
theorem dL_asks_98 : decode cL_asks 98 = .ok (.ladd, 1) := by decide +kernel
theorem dL_asks_99 : decode cL_asks 99 = .ok (.lmul, 1) := by decide +kernel
theorem dL_asks_100 : decode cL_asks 100 = .ok (.aload_n 0, 1) := by decide +kernel
theorem dL_asks_101 : decode cL_asks 101 = .ok (.invokestatic 232, 3) := by decide +kernel
theorem dL_asks_104 : decode cL_asks 104 = .ok (.i2l, 1) := by decide +kernel
theorem dL_asks_105 : decode cL_asks 105 = .ok (.ladd, 1) := by decide +kernel
theorem dL_asks_106 : decode cL_asks 106 = .ok (.lstore_n 2, 1) := by decide +kernel
theorem dL_asks_107 : decode cL_asks 107 = .ok (.aload_n 0, 1) := by decide +kernel
theorem dL_asks_108 : decode cL_asks 108 = .ok (.invokevirtual 234, 3) := by decide +kernel
theorem dL_asks_111 : decode cL_asks 111 = .ok (.istore 4, 2) := by decide +kernel
theorem dL_asks_113 : decode cL_asks 113 = .ok (.iconst 0, 1) := by decide +kernel
theorem dL_asks_114 : decode cL_asks 114 = .ok (.istore 5, 2) := by decide +kernel
theorem dL_asks_116 : decode cL_asks 116 = .ok (.iload 5, 2) := by decide +kernel
theorem dL_asks_118 : decode cL_asks 118 = .ok (.iload 4, 2) := by decide +kernel
theorem dL_asks_120 : decode cL_asks 120 = .ok (.if_icmp .ge 23, 3) := by decide +kernel
theorem dL_asks_123 : decode cL_asks 123 = .ok (.ldc2_w 193, 3) := by decide +kernel
theorem dL_asks_126 : decode cL_asks 126 = .ok (.lload_n 2, 1) := by decide +kernel
theorem dL_asks_127 : decode cL_asks 127 = .ok (.lmul, 1) := by decide +kernel
theorem dL_asks_128 : decode cL_asks 128 = .ok (.aload_n 0, 1) := by decide +kernel
theorem dL_asks_129 : decode cL_asks 129 = .ok (.iload 5, 2) := by decide +kernel
theorem dL_asks_131 : decode cL_asks 131 = .ok (.invokestatic 167, 3) := by decide +kernel
theorem dL_asks_134 : decode cL_asks 134 = .ok (.i2l, 1) := by decide +kernel
theorem dL_asks_135 : decode cL_asks 135 = .ok (.ladd, 1) := by decide +kernel
theorem dL_asks_136 : decode cL_asks 136 = .ok (.lstore_n 2, 1) := by decide +kernel
theorem dL_asks_137 : decode cL_asks 137 = .ok (.iinc 5 1, 3) := by decide +kernel
theorem dL_asks_140 : decode cL_asks 140 = .ok (.goto (-24), 3) := by decide +kernel
theorem dL_asks_143 : decode cL_asks 143 = .ok (.iconst 0, 1) := by decide +kernel
theorem dL_asks_144 : decode cL_asks 144 = .ok (.istore 5, 2) := by decide +kernel
theorem dL_asks_146 : decode cL_asks 146 = .ok (.iload 5, 2) := by decide +kernel
theorem dL_asks_148 : decode cL_asks 148 = .ok (.iload_n 1, 1) := by decide +kernel
theorem dL_asks_149 : decode cL_asks 149 = .ok (.if_icmp .ge 99, 3) := by decide +kernel
theorem dL_asks_152 : decode cL_asks 152 = .ok (.ldc2_w 193, 3) := by decide +kernel
theorem dL_asks_155 : decode cL_asks 155 = .ok (.ldc2_w 193, 3) := by decide +kernel
theorem dL_asks_158 : decode cL_asks 158 = .ok (.ldc2_w 193, 3) := by decide +kernel
theorem dL_asks_161 : decode cL_asks 161 = .ok (.lload_n 2, 1) := by decide +kernel
theorem dL_asks_162 : decode cL_asks 162 = .ok (.lmul, 1) := by decide +kernel
theorem dL_asks_163 : decode cL_asks 163 = .ok (.aload_n 0, 1) := by decide +kernel
theorem dL_asks_164 : decode cL_asks 164 = .ok (.iload 5, 2) := by decide +kernel
theorem dL_asks_166 : decode cL_asks 166 = .ok (.invokestatic 237, 3) := by decide +kernel
theorem dL_asks_169 : decode cL_asks 169 = .ok (.i2l, 1) := by decide +kernel
theorem dL_asks_170 : decode cL_asks 170 = .ok (.ladd, 1) := by decide +kernel
theorem dL_asks_171 : decode cL_asks 171 = .ok (.lmul, 1) := by decide +kernel
theorem dL_asks_172 : decode cL_asks 172 = .ok (.aload_n 0, 1) := by decide +kernel
theorem dL_asks_173 : decode cL_asks 173 = .ok (.iload 5, 2) := by decide +kernel
theorem dL_asks_175 : decode cL_asks 175 = .ok (.invokestatic 239, 3) := by decide +kernel
theorem dL_asks_178 : decode cL_asks 178 = .ok (.i2l, 1) := by decide +kernel
theorem dL_asks_179 : decode cL_asks 179 = .ok (.ladd, 1) := by decide +kernel
theorem dL_asks_180 : decode cL_asks 180 = .ok (.lmul, 1) := by decide +kernel
theorem dL_asks_181 : decode cL_asks 181 = .ok (.aload_n 0, 1) := by decide +kernel
theorem dL_asks_182 : decode cL_asks 182 = .ok (.iload 5, 2) := by decide +kernel
theorem dL_asks_184 : decode cL_asks 184 = .ok (.invokestatic 242, 3) := by decide +kernel
theorem dL_asks_187 : decode cL_asks 187 = .ok (.iconst 4, 1) := by decide +kernel
theorem dL_asks_188 : decode cL_asks 188 = .ok (.if_icmp .ge 12, 3) := by decide +kernel
theorem dL_asks_191 : decode cL_asks 191 = .ok (.aload_n 0, 1) := by decide +kernel
theorem dL_asks_192 : decode cL_asks 192 = .ok (.iload 5, 2) := by decide +kernel
theorem dL_asks_194 : decode cL_asks 194 = .ok (.invokestatic 244, 3) := by decide +kernel
theorem dL_asks_197 : decode cL_asks 197 = .ok (.goto 4, 3) := by decide +kernel
theorem dL_asks_200 : decode cL_asks 200 = .ok (.iconst 0, 1) := by decide +kernel
theorem dL_asks_201 : decode cL_asks 201 = .ok (.i2l, 1) := by decide +kernel
theorem dL_asks_202 : decode cL_asks 202 = .ok (.ladd, 1) := by decide +kernel
theorem dL_asks_203 : decode cL_asks 203 = .ok (.lstore_n 2, 1) := by decide +kernel
theorem dL_asks_204 : decode cL_asks 204 = .ok (.aload_n 0, 1) := by decide +kernel
theorem dL_asks_205 : decode cL_asks 205 = .ok (.iload 5, 2) := by decide +kernel
theorem dL_asks_207 : decode cL_asks 207 = .ok (.invokestatic 246, 3) := by decide +kernel
theorem dL_asks_210 : decode cL_asks 210 = .ok (.istore 4, 2) := by decide +kernel
theorem dL_asks_212 : decode cL_asks 212 = .ok (.iconst 0, 1) := by decide +kernel
theorem dL_asks_213 : decode cL_asks 213 = .ok (.istore 6, 2) := by decide +kernel
theorem dL_asks_215 : decode cL_asks 215 = .ok (.iload 6, 2) := by decide +kernel
theorem dL_asks_217 : decode cL_asks 217 = .ok (.iload 4, 2) := by decide +kernel
theorem dL_asks_219 : decode cL_asks 219 = .ok (.if_icmp .ge 23, 3) := by decide +kernel
theorem dL_asks_222 : decode cL_asks 222 = .ok (.ldc2_w 193, 3) := by decide +kernel
theorem dL_asks_225 : decode cL_asks 225 = .ok (.lload_n 2, 1) := by decide +kernel
theorem dL_asks_226 : decode cL_asks 226 = .ok (.lmul, 1) := by decide +kernel
theorem dL_asks_227 : decode cL_asks 227 = .ok (.aload_n 0, 1) := by decide +kernel
theorem dL_asks_228 : decode cL_asks 228 = .ok (.iload 6, 2) := by decide +kernel
theorem dL_asks_230 : decode cL_asks 230 = .ok (.invokestatic 167, 3) := by decide +kernel
theorem dL_asks_233 : decode cL_asks 233 = .ok (.i2l, 1) := by decide +kernel
theorem dL_asks_234 : decode cL_asks 234 = .ok (.ladd, 1) := by decide +kernel
theorem dL_asks_235 : decode cL_asks 235 = .ok (.lstore_n 2, 1) := by decide +kernel
theorem dL_asks_236 : decode cL_asks 236 = .ok (.iinc 6 1, 3) := by decide +kernel
theorem dL_asks_239 : decode cL_asks 239 = .ok (.goto (-24), 3) := by decide +kernel
theorem dL_asks_242 : decode cL_asks 242 = .ok (.iinc 5 1, 3) := by decide +kernel
theorem dL_asks_245 : decode cL_asks 245 = .ok (.goto (-99), 3) := by decide +kernel
theorem dL_asks_248 : decode cL_asks 248 = .ok (.lload_n 2, 1) := by decide +kernel
theorem dL_asks_249 : decode cL_asks 249 = .ok (.lreturn, 1) := by decide +kernel
theorem dL_changes_0 : decode cL_changes 0 = .ok (.iload_n 1, 1) := by decide +kernel
theorem dL_changes_1 : decode cL_changes 1 = .ok (.iconst 4, 1) := by decide +kernel
theorem dL_changes_2 : decode cL_changes 2 = .ok (.ishr, 1) := by decide +kernel
theorem dL_changes_3 : decode cL_changes 3 = .ok (.bipush 10, 2) := by decide +kernel
theorem dL_changes_5 : decode cL_changes 5 = .ok (.invokestatic 174, 3) := by decide +kernel
theorem dL_changes_8 : decode cL_changes 8 = .ok (.istore_n 2, 1) := by decide +kernel
theorem dL_changes_9 : decode cL_changes 9 = .ok (.iload_n 1, 1) := by decide +kernel
theorem dL_changes_10 : decode cL_changes 10 = .ok (.bipush 8, 2) := by decide +kernel
theorem dL_changes_12 : decode cL_changes 12 = .ok (.ishr, 1) := by decide +kernel
theorem dL_changes_13 : decode cL_changes 13 = .ok (.bipush 10, 2) := by decide +kernel
theorem dL_changes_15 : decode cL_changes 15 = .ok (.invokestatic 174, 3) := by decide +kernel
theorem dL_changes_18 : decode cL_changes 18 = .ok (.istore_n 3, 1) := by decide +kernel
theorem dL_changes_19 : decode cL_changes 19 = .ok (.iload_n 1, 1) := by decide +kernel
theorem dL_changes_20 : decode cL_changes 20 = .ok (.bipush 24, 2) := by decide +kernel
theorem dL_changes_22 : decode cL_changes 22 = .ok (.invokestatic 174, 3) := by decide +kernel
theorem dL_changes_25 : decode cL_changes 25 = .ok (.tableswitch 319 0 17 #[87, 144, 144, 144, 171, 171, 171, 185, 185, 199, 199, 213, 213, 234, 234, 234, 248, 248], 87) := by decide +kernel
theorem dL_changes_112 : decode cL_changes 112 = .ok (.aload_n 0, 1) := by decide +kernel
theorem dL_changes_113 : decode cL_changes 113 = .ok (.iload_n 1, 1) := by decide +kernel
theorem dL_changes_114 : decode cL_changes 114 = .ok (.iconst 4, 1) := by decide +kernel
theorem dL_changes_115 : decode cL_changes 115 = .ok (.ishr, 1) := by decide +kernel
theorem dL_changes_116 : decode cL_changes 116 = .ok (.bipush 11, 2) := by decide +kernel
theorem dL_changes_118 : decode cL_changes 118 = .ok (.invokestatic 174, 3) := by decide +kernel
theorem dL_changes_121 : decode cL_changes 121 = .ok (.iload_n 1, 1) := by decide +kernel
theorem dL_changes_122 : decode cL_changes 122 = .ok (.iconst 5, 1) := by decide +kernel
theorem dL_changes_123 : decode cL_changes 123 = .ok (.ishr, 1) := by decide +kernel
theorem dL_changes_124 : decode cL_changes 124 = .ok (.iconst 3, 1) := by decide +kernel
theorem dL_changes_125 : decode cL_changes 125 = .ok (.invokestatic 174, 3) := by decide +kernel
theorem dL_changes_128 : decode cL_changes 128 = .ok (.iload_n 1, 1) := by decide +kernel
theorem dL_changes_129 : decode cL_changes 129 = .ok (.bipush 7, 2) := by decide +kernel
theorem dL_changes_131 : decode cL_changes 131 = .ok (.ishr, 1) := by decide +kernel
theorem dL_changes_132 : decode cL_changes 132 = .ok (.iconst 3, 1) := by decide +kernel
theorem dL_changes_133 : decode cL_changes 133 = .ok (.invokestatic 174, 3) := by decide +kernel
theorem dL_changes_136 : decode cL_changes 136 = .ok (.iload_n 1, 1) := by decide +kernel
theorem dL_changes_137 : decode cL_changes 137 = .ok (.bipush 9, 2) := by decide +kernel
theorem dL_changes_139 : decode cL_changes 139 = .ok (.ishr, 1) := by decide +kernel
theorem dL_changes_140 : decode cL_changes 140 = .ok (.iconst 3, 1) := by decide +kernel
theorem dL_changes_141 : decode cL_changes 141 = .ok (.invokestatic 174, 3) := by decide +kernel
theorem dL_changes_144 : decode cL_changes 144 = .ok (.ldc 248, 2) := by decide +kernel
theorem dL_changes_146 : decode cL_changes 146 = .ok (.iload_n 1, 1) := by decide +kernel
theorem dL_changes_147 : decode cL_changes 147 = .ok (.bipush 11, 2) := by decide +kernel
theorem dL_changes_149 : decode cL_changes 149 = .ok (.ishr, 1) := by decide +kernel
theorem dL_changes_150 : decode cL_changes 150 = .ok (.iconst 4, 1) := by decide +kernel
theorem dL_changes_151 : decode cL_changes 151 = .ok (.invokestatic 174, 3) := by decide +kernel
theorem dL_changes_154 : decode cL_changes 154 = .ok (.invokevirtual 155, 3) := by decide +kernel
theorem dL_changes_157 : decode cL_changes 157 = .ok (.invokestatic 179, 3) := by decide +kernel
theorem dL_changes_160 : decode cL_changes 160 = .ok (.ifCond .lt 7, 3) := by decide +kernel
theorem dL_changes_163 : decode cL_changes 163 = .ok (.iconst 1, 1) := by decide +kernel
theorem dL_changes_164 : decode cL_changes 164 = .ok (.goto 4, 3) := by decide +kernel
theorem dL_changes_167 : decode cL_changes 167 = .ok (.iconst 0, 1) := by decide +kernel
theorem dL_changes_168 : decode cL_changes 168 = .ok (.ireturn, 1) := by decide +kernel
theorem dL_changes_169 : decode cL_changes 169 = .ok (.aload_n 0, 1) := by decide +kernel
theorem dL_changes_170 : decode cL_changes 170 = .ok (.iload_n 2, 1) := by decide +kernel
theorem dL_changes_171 : decode cL_changes 171 = .ok (.ldc 250, 2) := by decide +kernel
theorem dL_changes_173 : decode cL_changes 173 = .ok (.iload_n 1, 1) := by decide +kernel
theorem dL_changes_174 : decode cL_changes 174 = .ok (.bipush 8, 2) := by decide +kernel
theorem dL_changes_176 : decode cL_changes 176 = .ok (.ishr, 1) := by decide +kernel
theorem dL_changes_177 : decode cL_changes 177 = .ok (.iconst 3, 1) := by decide +kernel
theorem dL_changes_178 : decode cL_changes 178 = .ok (.invokestatic 174, 3) := by decide +kernel
theorem dL_changes_181 : decode cL_changes 181 = .ok (.invokevirtual 155, 3) := by decide +kernel
theorem dL_changes_184 : decode cL_changes 184 = .ok (.invokestatic 182, 3) := by decide +kernel
theorem dL_changes_187 : decode cL_changes 187 = .ok (.ifCond .lt 7, 3) := by decide +kernel
theorem dL_changes_190 : decode cL_changes 190 = .ok (.iconst 1, 1) := by decide +kernel
theorem dL_changes_191 : decode cL_changes 191 = .ok (.goto 4, 3) := by decide +kernel
theorem dL_changes_194 : decode cL_changes 194 = .ok (.iconst 0, 1) := by decide +kernel
theorem dL_changes_195 : decode cL_changes 195 = .ok (.ireturn, 1) := by decide +kernel
theorem dL_changes_196 : decode cL_changes 196 = .ok (.aload_n 0, 1) := by decide +kernel
theorem dL_changes_197 : decode cL_changes 197 = .ok (.iload_n 2, 1) := by decide +kernel
theorem dL_changes_198 : decode cL_changes 198 = .ok (.invokestatic 252, 3) := by decide +kernel
theorem dL_changes_201 : decode cL_changes 201 = .ok (.ifCond .lt 7, 3) := by decide +kernel
theorem dL_changes_204 : decode cL_changes 204 = .ok (.iconst 1, 1) := by decide +kernel
theorem dL_changes_205 : decode cL_changes 205 = .ok (.goto 4, 3) := by decide +kernel
theorem dL_changes_208 : decode cL_changes 208 = .ok (.iconst 0, 1) := by decide +kernel
theorem dL_changes_209 : decode cL_changes 209 = .ok (.ireturn, 1) := by decide +kernel
theorem dL_changes_210 : decode cL_changes 210 = .ok (.aload_n 0, 1) := by decide +kernel
theorem dL_changes_211 : decode cL_changes 211 = .ok (.iload_n 2, 1) := by decide +kernel
theorem dL_changes_212 : decode cL_changes 212 = .ok (.invokestatic 254, 3) := by decide +kernel
theorem dL_changes_215 : decode cL_changes 215 = .ok (.ifCond .lt 7, 3) := by decide +kernel
theorem dL_changes_218 : decode cL_changes 218 = .ok (.iconst 1, 1) := by decide +kernel
theorem dL_changes_219 : decode cL_changes 219 = .ok (.goto 4, 3) := by decide +kernel
theorem dL_changes_222 : decode cL_changes 222 = .ok (.iconst 0, 1) := by decide +kernel
theorem dL_changes_223 : decode cL_changes 223 = .ok (.ireturn, 1) := by decide +kernel
theorem dL_changes_224 : decode cL_changes 224 = .ok (.aload_n 0, 1) := by decide +kernel
theorem dL_changes_225 : decode cL_changes 225 = .ok (.iload_n 2, 1) := by decide +kernel
theorem dL_changes_226 : decode cL_changes 226 = .ok (.invokestatic 256, 3) := by decide +kernel
theorem dL_changes_229 : decode cL_changes 229 = .ok (.ifCond .lt 7, 3) := by decide +kernel
theorem dL_changes_232 : decode cL_changes 232 = .ok (.iconst 1, 1) := by decide +kernel
theorem dL_changes_233 : decode cL_changes 233 = .ok (.goto 4, 3) := by decide +kernel
theorem dL_changes_236 : decode cL_changes 236 = .ok (.iconst 0, 1) := by decide +kernel
theorem dL_changes_237 : decode cL_changes 237 = .ok (.ireturn, 1) := by decide +kernel
theorem dL_changes_238 : decode cL_changes 238 = .ok (.aload_n 0, 1) := by decide +kernel
theorem dL_changes_239 : decode cL_changes 239 = .ok (.iload_n 1, 1) := by decide +kernel
theorem dL_changes_240 : decode cL_changes 240 = .ok (.iconst 4, 1) := by decide +kernel
theorem dL_changes_241 : decode cL_changes 241 = .ok (.ishr, 1) := by decide +kernel
theorem dL_changes_242 : decode cL_changes 242 = .ok (.bipush 23, 2) := by decide +kernel
theorem dL_changes_244 : decode cL_changes 244 = .ok (.invokestatic 174, 3) := by decide +kernel
theorem dL_changes_247 : decode cL_changes 247 = .ok (.invokestatic 188, 3) := by decide +kernel
theorem dL_changes_250 : decode cL_changes 250 = .ok (.ifCond .lt 7, 3) := by decide +kernel
theorem dL_changes_253 : decode cL_changes 253 = .ok (.iconst 1, 1) := by decide +kernel
theorem dL_changes_254 : decode cL_changes 254 = .ok (.goto 4, 3) := by decide +kernel
theorem dL_changes_257 : decode cL_changes 257 = .ok (.iconst 0, 1) := by decide +kernel
theorem dL_changes_258 : decode cL_changes 258 = .ok (.ireturn, 1) := by decide +kernel
theorem dL_changes_259 : decode cL_changes 259 = .ok (.aload_n 0, 1) := by decide +kernel
theorem dL_changes_260 : decode cL_changes 260 = .ok (.iload_n 3, 1) := by decide +kernel
theorem dL_changes_261 : decode cL_changes 261 = .ok (.invokestatic 258, 3) := by decide +kernel
theorem dL_changes_264 : decode cL_changes 264 = .ok (.ifCond .lt 7, 3) := by decide +kernel
theorem dL_changes_267 : decode cL_changes 267 = .ok (.iconst 1, 1) := by decide +kernel
theorem dL_changes_268 : decode cL_changes 268 = .ok (.goto 4, 3) := by decide +kernel
theorem dL_changes_271 : decode cL_changes 271 = .ok (.iconst 0, 1) := by decide +kernel
theorem dL_changes_272 : decode cL_changes 272 = .ok (.ireturn, 1) := by decide +kernel
theorem dL_changes_273 : decode cL_changes 273 = .ok (.aload_n 0, 1) := by decide +kernel
theorem dL_changes_274 : decode cL_changes 274 = .ok (.iload_n 1, 1) := by decide +kernel
theorem dL_changes_275 : decode cL_changes 275 = .ok (.bipush 6, 2) := by decide +kernel
theorem dL_changes_277 : decode cL_changes 277 = .ok (.ishr, 1) := by decide +kernel
theorem dL_changes_278 : decode cL_changes 278 = .ok (.iconst 1, 1) := by decide +kernel
theorem dL_changes_279 : decode cL_changes 279 = .ok (.iand, 1) := by decide +kernel
theorem dL_changes_280 : decode cL_changes 280 = .ok (.ifCond .ne 26, 3) := by decide +kernel
theorem dL_changes_283 : decode cL_changes 283 = .ok (.new 260, 3) := by decide +kernel
theorem dL_changes_286 : decode cL_changes 286 = .ok (.dup, 1) := by decide +kernel
theorem dL_changes_287 : decode cL_changes 287 = .ok (.invokespecial 262, 3) := by decide +kernel
theorem dL_changes_290 : decode cL_changes 290 = .ok (.ldc_w 263, 3) := by decide +kernel
theorem dL_changes_293 : decode cL_changes 293 = .ok (.invokevirtual 265, 3) := by decide +kernel
theorem dL_changes_296 : decode cL_changes 296 = .ok (.iload_n 2, 1) := by decide +kernel
theorem dL_changes_297 : decode cL_changes 297 = .ok (.invokevirtual 269, 3) := by decide +kernel
theorem dL_changes_300 : decode cL_changes 300 = .ok (.invokevirtual 272, 3) := by decide +kernel
theorem dL_changes_303 : decode cL_changes 303 = .ok (.goto 29, 3) := by decide +kernel
theorem dL_changes_306 : decode cL_changes 306 = .ok (.new 260, 3) := by decide +kernel
theorem dL_changes_309 : decode cL_changes 309 = .ok (.dup, 1) := by decide +kernel
theorem dL_changes_310 : decode cL_changes 310 = .ok (.invokespecial 262, 3) := by decide +kernel
theorem dL_changes_313 : decode cL_changes 313 = .ok (.ldc_w 276, 3) := by decide +kernel
theorem dL_changes_316 : decode cL_changes 316 = .ok (.invokevirtual 265, 3) := by decide +kernel
theorem dL_changes_319 : decode cL_changes 319 = .ok (.iload_n 2, 1) := by decide +kernel
theorem dL_changes_320 : decode cL_changes 320 = .ok (.invokevirtual 269, 3) := by decide +kernel
theorem dL_changes_323 : decode cL_changes 323 = .ok (.ldc_w 278, 3) := by decide +kernel
theorem dL_changes_326 : decode cL_changes 326 = .ok (.invokevirtual 265, 3) := by decide +kernel
theorem dL_changes_329 : decode cL_changes 329 = .ok (.invokevirtual 272, 3) := by decide +kernel
theorem dL_changes_332 : decode cL_changes 332 = .ok (.invokestatic 280, 3) := by decide +kernel
theorem dL_changes_335 : decode cL_changes 335 = .ok (.ifCond .lt 7, 3) := by decide +kernel
theorem dL_changes_338 : decode cL_changes 338 = .ok (.iconst 1, 1) := by decide +kernel
theorem dL_changes_339 : decode cL_changes 339 = .ok (.goto 4, 3) := by decide +kernel
theorem dL_changes_342 : decode cL_changes 342 = .ok (.iconst 0, 1) := by decide +kernel
theorem dL_changes_343 : decode cL_changes 343 = .ok (.ireturn, 1) := by decide +kernel
theorem dL_changes_344 : decode cL_changes 344 = .ok (.aload_n 0, 1) := by decide +kernel
theorem dL_changes_345 : decode cL_changes 345 = .ok (.iload_n 2, 1) := by decide +kernel
theorem dL_changes_346 : decode cL_changes 346 = .ok (.iload_n 3, 1) := by decide +kernel
theorem dL_changes_347 : decode cL_changes 347 = .ok (.iload_n 1, 1) := by decide +kernel
theorem dL_changes_348 : decode cL_changes 348 = .ok (.bipush 12, 2) := by decide +kernel
theorem dL_changes_350 : decode cL_changes 350 = .ok (.ishr, 1) := by decide +kernel
theorem dL_changes_351 : decode cL_changes 351 = .ok (.iconst 5, 1) := by decide +kernel
theorem dL_changes_352 : decode cL_changes 352 = .ok (.invokestatic 174, 3) := by decide +kernel
theorem dL_changes_355 : decode cL_changes 355 = .ok (.invokestatic 185, 3) := by decide +kernel
theorem dL_changes_358 : decode cL_changes 358 = .ok (.ifCond .lt 7, 3) := by decide +kernel
theorem dL_changes_361 : decode cL_changes 361 = .ok (.iconst 1, 1) := by decide +kernel
theorem dL_changes_362 : decode cL_changes 362 = .ok (.goto 4, 3) := by decide +kernel
theorem dL_changes_365 : decode cL_changes 365 = .ok (.iconst 0, 1) := by decide +kernel
theorem dL_changes_366 : decode cL_changes 366 = .ok (.ireturn, 1) := by decide +kernel
theorem dL_thrown_0 : decode cL_thrown 0 = .ok (.aload_n 0, 1) := by decide +kernel
theorem dL_thrown_1 : decode cL_thrown 1 = .ok (.invokestatic 284, 3) := by decide +kernel
theorem dL_thrown_4 : decode cL_thrown 4 = .ok (.lstore_n 1, 1) := by decide +kernel
theorem dL_thrown_5 : decode cL_thrown 5 = .ok (.aload_n 0, 1) := by decide +kernel
theorem dL_thrown_6 : decode cL_thrown 6 = .ok (.invokevirtual 190, 3) := by decide +kernel
theorem dL_thrown_9 : decode cL_thrown 9 = .ok (.istore_n 3, 1) := by decide +kernel
theorem dL_thrown_10 : decode cL_thrown 10 = .ok (.aload_n 0, 1) := by decide +kernel
theorem dL_thrown_11 : decode cL_thrown 11 = .ok (.invokevirtual 288, 3) := by decide +kernel
theorem dL_thrown_14 : decode cL_thrown 14 = .ok (.istore 4, 2) := by decide +kernel
theorem dL_thrown_16 : decode cL_thrown 16 = .ok (.aload_n 0, 1) := by decide +kernel
theorem dL_thrown_17 : decode cL_thrown 17 = .ok (.iconst (-1), 1) := by decide +kernel
theorem dL_thrown_18 : decode cL_thrown 18 = .ok (.iconst 0, 1) := by decide +kernel
theorem dL_thrown_19 : decode cL_thrown 19 = .ok (.iconst 0, 1) := by decide +kernel
theorem dL_thrown_20 : decode cL_thrown 20 = .ok (.iconst 0, 1) := by decide +kernel
theorem dL_thrown_21 : decode cL_thrown 21 = .ok (.bipush 115, 2) := by decide +kernel
theorem dL_thrown_23 : decode cL_thrown 23 = .ok (.invokestatic 179, 3) := by decide +kernel
theorem dL_thrown_26 : decode cL_thrown 26 = .ok (.sipush (-1001), 3) := by decide +kernel
theorem dL_thrown_29 : decode cL_thrown 29 = .ok (.if_icmp .ne 262, 3) := by decide +kernel
theorem dL_thrown_32 : decode cL_thrown 32 = .ok (.aload_n 0, 1) := by decide +kernel
theorem dL_thrown_33 : decode cL_thrown 33 = .ok (.iconst 0, 1) := by decide +kernel
theorem dL_thrown_34 : decode cL_thrown 34 = .ok (.bipush 10, 2) := by decide +kernel
theorem dL_thrown_36 : decode cL_thrown 36 = .ok (.iconst 0, 1) := by decide +kernel
theorem dL_thrown_37 : decode cL_thrown 37 = .ok (.iconst 0, 1) := by decide +kernel
theorem dL_thrown_38 : decode cL_thrown 38 = .ok (.bipush 115, 2) := by decide +kernel
theorem dL_thrown_40 : decode cL_thrown 40 = .ok (.invokestatic 179, 3) := by decide +kernel
theorem dL_thrown_43 : decode cL_thrown 43 = .ok (.sipush (-1001), 3) := by decide +kernel
theorem dL_thrown_46 : decode cL_thrown 46 = .ok (.if_icmp .ne 245, 3) := by decide +kernel
theorem dL_thrown_49 : decode cL_thrown 49 = .ok (.aload_n 0, 1) := by decide +kernel
theorem dL_thrown_50 : decode cL_thrown 50 = .ok (.iconst 0, 1) := by decide +kernel
theorem dL_thrown_51 : decode cL_thrown 51 = .ok (.iconst 0, 1) := by decide +kernel
theorem dL_thrown_52 : decode cL_thrown 52 = .ok (.iconst 0, 1) := by decide +kernel
theorem dL_thrown_53 : decode cL_thrown 53 = .ok (.bipush 10, 2) := by decide +kernel
theorem dL_thrown_55 : decode cL_thrown 55 = .ok (.bipush 108, 2) := by decide +kernel
theorem dL_thrown_57 : decode cL_thrown 57 = .ok (.invokestatic 179, 3) := by decide +kernel
theorem dL_thrown_60 : decode cL_thrown 60 = .ok (.sipush (-1001), 3) := by decide +kernel
theorem dL_thrown_63 : decode cL_thrown 63 = .ok (.if_icmp .ne 228, 3) := by decide +kernel
theorem dL_thrown_66 : decode cL_thrown 66 = .ok (.aload_n 0, 1) := by decide +kernel
theorem dL_thrown_67 : decode cL_thrown 67 = .ok (.iconst 0, 1) := by decide +kernel
theorem dL_thrown_68 : decode cL_thrown 68 = .ok (.iconst 0, 1) := by decide +kernel
theorem dL_thrown_69 : decode cL_thrown 69 = .ok (.iconst 0, 1) := by decide +kernel
theorem dL_thrown_70 : decode cL_thrown 70 = .ok (.iconst 0, 1) := by decide +kernel
theorem dL_thrown_71 : decode cL_thrown 71 = .ok (.bipush 83, 2) := by decide +kernel
theorem dL_thrown_73 : decode cL_thrown 73 = .ok (.invokestatic 179, 3) := by decide +kernel
theorem dL_thrown_76 : decode cL_thrown 76 = .ok (.sipush (-1001), 3) := by decide +kernel
theorem dL_thrown_79 : decode cL_thrown 79 = .ok (.if_icmp .ne 212, 3) := by decide +kernel
theorem dL_thrown_82 : decode cL_thrown 82 = .ok (.iload_n 3, 1) := by decide +kernel
theorem dL_thrown_83 : decode cL_thrown 83 = .ok (.bipush 9, 2) := by decide +kernel
theorem dL_thrown_85 : decode cL_thrown 85 = .ok (.if_icmp .lt 19, 3) := by decide +kernel
theorem dL_thrown_88 : decode cL_thrown 88 = .ok (.aload_n 0, 1) := by decide +kernel
theorem dL_thrown_89 : decode cL_thrown 89 = .ok (.iconst 0, 1) := by decide +kernel
theorem dL_thrown_90 : decode cL_thrown 90 = .ok (.iconst 0, 1) := by decide +kernel
theorem dL_thrown_91 : decode cL_thrown 91 = .ok (.iconst 0, 1) := by decide +kernel
theorem dL_thrown_92 : decode cL_thrown 92 = .ok (.iconst 0, 1) := by decide +kernel
theorem dL_thrown_93 : decode cL_thrown 93 = .ok (.bipush 115, 2) := by decide +kernel
theorem dL_thrown_95 : decode cL_thrown 95 = .ok (.invokestatic 179, 3) := by decide +kernel
theorem dL_thrown_98 : decode cL_thrown 98 = .ok (.sipush (-1002), 3) := by decide +kernel
theorem dL_thrown_101 : decode cL_thrown 101 = .ok (.if_icmp .ne 190, 3) := by decide +kernel
theorem dL_thrown_104 : decode cL_thrown 104 = .ok (.aload_n 0, 1) := by decide +kernel
theorem dL_thrown_105 : decode cL_thrown 105 = .ok (.iload_n 3, 1) := by decide +kernel
theorem dL_thrown_106 : decode cL_thrown 106 = .ok (.bipush 120, 2) := by decide +kernel
theorem dL_thrown_108 : decode cL_thrown 108 = .ok (.invokestatic 182, 3) := by decide +kernel
theorem dL_thrown_111 : decode cL_thrown 111 = .ok (.sipush (-1001), 3) := by decide +kernel
theorem dL_thrown_114 : decode cL_thrown 114 = .ok (.if_icmp .ne 177, 3) := by decide +kernel
theorem dL_thrown_117 : decode cL_thrown 117 = .ok (.aload_n 0, 1) := by decide +kernel
theorem dL_thrown_118 : decode cL_thrown 118 = .ok (.iconst 0, 1) := by decide +kernel
theorem dL_thrown_119 : decode cL_thrown 119 = .ok (.bipush 120, 2) := by decide +kernel
theorem dL_thrown_121 : decode cL_thrown 121 = .ok (.invokestatic 182, 3) := by decide +kernel
theorem dL_thrown_124 : decode cL_thrown 124 = .ok (.sipush (-1002), 3) := by decide +kernel
theorem dL_thrown_127 : decode cL_thrown 127 = .ok (.if_icmp .ne 164, 3) := by decide +kernel
theorem dL_thrown_130 : decode cL_thrown 130 = .ok (.aload_n 0, 1) := by decide +kernel
theorem dL_thrown_131 : decode cL_thrown 131 = .ok (.iload_n 3, 1) := by decide +kernel
theorem dL_thrown_132 : decode cL_thrown 132 = .ok (.invokestatic 252, 3) := by decide +kernel
theorem dL_thrown_135 : decode cL_thrown 135 = .ok (.sipush (-1001), 3) := by decide +kernel
theorem dL_thrown_138 : decode cL_thrown 138 = .ok (.if_icmp .ne 153, 3) := by decide +kernel
theorem dL_thrown_141 : decode cL_thrown 141 = .ok (.aload_n 0, 1) := by decide +kernel
theorem dL_thrown_142 : decode cL_thrown 142 = .ok (.iconst (-1), 1) := by decide +kernel
theorem dL_thrown_143 : decode cL_thrown 143 = .ok (.invokestatic 254, 3) := by decide +kernel
theorem dL_thrown_146 : decode cL_thrown 146 = .ok (.sipush (-1001), 3) := by decide +kernel
theorem dL_thrown_149 : decode cL_thrown 149 = .ok (.if_icmp .ne 142, 3) := by decide +kernel
theorem dL_thrown_152 : decode cL_thrown 152 = .ok (.aload_n 0, 1) := by decide +kernel
theorem dL_thrown_153 : decode cL_thrown 153 = .ok (.iload_n 3, 1) := by decide +kernel
theorem dL_thrown_154 : decode cL_thrown 154 = .ok (.invokestatic 256, 3) := by decide +kernel
theorem dL_thrown_157 : decode cL_thrown 157 = .ok (.sipush (-1001), 3) := by decide +kernel
theorem dL_thrown_160 : decode cL_thrown 160 = .ok (.if_icmp .ne 131, 3) := by decide +kernel
theorem dL_thrown_163 : decode cL_thrown 163 = .ok (.aload_n 0, 1) := by decide +kernel
theorem dL_thrown_164 : decode cL_thrown 164 = .ok (.iload_n 3, 1) := by decide +kernel
theorem dL_thrown_165 : decode cL_thrown 165 = .ok (.iconst 0, 1) := by decide +kernel
theorem dL_thrown_166 : decode cL_thrown 166 = .ok (.bipush 9, 2) := by decide +kernel
theorem dL_thrown_168 : decode cL_thrown 168 = .ok (.invokestatic 185, 3) := by decide +kernel
theorem dL_thrown_171 : decode cL_thrown 171 = .ok (.sipush (-1001), 3) := by decide +kernel
theorem dL_thrown_174 : decode cL_thrown 174 = .ok (.if_icmp .ne 117, 3) := by decide +kernel
theorem dL_thrown_177 : decode cL_thrown 177 = .ok (.aload_n 0, 1) := by decide +kernel
theorem dL_thrown_178 : decode cL_thrown 178 = .ok (.iconst 0, 1) := by decide +kernel
theorem dL_thrown_179 : decode cL_thrown 179 = .ok (.bipush 9, 2) := by decide +kernel
theorem dL_thrown_181 : decode cL_thrown 181 = .ok (.bipush 9, 2) := by decide +kernel
theorem dL_thrown_183 : decode cL_thrown 183 = .ok (.invokestatic 185, 3) := by decide +kernel
theorem dL_thrown_186 : decode cL_thrown 186 = .ok (.sipush (-1001), 3) := by decide +kernel
theorem dL_thrown_189 : decode cL_thrown 189 = .ok (.if_icmp .ne 102, 3) := by decide +kernel
theorem dL_thrown_192 : decode cL_thrown 192 = .ok (.aload_n 0, 1) := by decide +kernel
theorem dL_thrown_193 : decode cL_thrown 193 = .ok (.iconst 0, 1) := by decide +kernel
theorem dL_thrown_194 : decode cL_thrown 194 = .ok (.iconst (-1), 1) := by decide +kernel
theorem dL_thrown_195 : decode cL_thrown 195 = .ok (.iconst 0, 1) := by decide +kernel
theorem dL_thrown_196 : decode cL_thrown 196 = .ok (.invokestatic 185, 3) := by decide +kernel
theorem dL_thrown_199 : decode cL_thrown 199 = .ok (.sipush (-1001), 3) := by decide +kernel
theorem dL_thrown_202 : decode cL_thrown 202 = .ok (.if_icmp .ne 89, 3) := by decide +kernel
theorem dL_thrown_205 : decode cL_thrown 205 = .ok (.aload_n 0, 1) := by decide +kernel
theorem dL_thrown_206 : decode cL_thrown 206 = .ok (.iconst 0, 1) := by decide +kernel
theorem dL_thrown_207 : decode cL_thrown 207 = .ok (.iconst 0, 1) := by decide +kernel
theorem dL_thrown_208 : decode cL_thrown 208 = .ok (.iconst 4, 1) := by decide +kernel
theorem dL_thrown_209 : decode cL_thrown 209 = .ok (.invokestatic 185, 3) := by decide +kernel
theorem dL_thrown_212 : decode cL_thrown 212 = .ok (.sipush (-1002), 3) := by decide +kernel
theorem dL_thrown_215 : decode cL_thrown 215 = .ok (.if_icmp .ne 76, 3) := by decide +kernel
theorem dL_thrown_218 : decode cL_thrown 218 = .ok (.aload_n 0, 1) := by decide +kernel
theorem dL_thrown_219 : decode cL_thrown 219 = .ok (.iconst 0, 1) := by decide +kernel
theorem dL_thrown_220 : decode cL_thrown 220 = .ok (.iconst 0, 1) := by decide +kernel
theorem dL_thrown_221 : decode cL_thrown 221 = .ok (.iconst (-1), 1) := by decide +kernel
theorem dL_thrown_222 : decode cL_thrown 222 = .ok (.invokestatic 185, 3) := by decide +kernel
theorem dL_thrown_225 : decode cL_thrown 225 = .ok (.sipush (-1002), 3) := by decide +kernel
theorem dL_thrown_228 : decode cL_thrown 228 = .ok (.if_icmp .ne 63, 3) := by decide +kernel
theorem dL_thrown_231 : decode cL_thrown 231 = .ok (.aload_n 0, 1) := by decide +kernel
theorem dL_thrown_232 : decode cL_thrown 232 = .ok (.bipush 9, 2) := by decide +kernel
theorem dL_thrown_234 : decode cL_thrown 234 = .ok (.invokestatic 258, 3) := by decide +kernel
theorem dL_thrown_237 : decode cL_thrown 237 = .ok (.sipush (-1001), 3) := by decide +kernel
theorem dL_thrown_240 : decode cL_thrown 240 = .ok (.if_icmp .ne 51, 3) := by decide +kernel
theorem dL_thrown_243 : decode cL_thrown 243 = .ok (.aload_n 0, 1) := by decide +kernel
theorem dL_thrown_244 : decode cL_thrown 244 = .ok (.iconst 0, 1) := by decide +kernel
theorem dL_thrown_245 : decode cL_thrown 245 = .ok (.invokestatic 188, 3) := by decide +kernel
theorem dL_thrown_248 : decode cL_thrown 248 = .ok (.sipush (-1001), 3) := by decide +kernel
theorem dL_thrown_251 : decode cL_thrown 251 = .ok (.if_icmp .ne 40, 3) := by decide +kernel
theorem dL_thrown_254 : decode cL_thrown 254 = .ok (.aload_n 0, 1) := by decide +kernel
theorem dL_thrown_255 : decode cL_thrown 255 = .ok (.bipush 21, 2) := by decide +kernel
theorem dL_thrown_257 : decode cL_thrown 257 = .ok (.invokestatic 188, 3) := by decide +kernel
theorem dL_thrown_260 : decode cL_thrown 260 = .ok (.sipush (-1001), 3) := by decide +kernel
theorem dL_thrown_263 : decode cL_thrown 263 = .ok (.if_icmp .ne 28, 3) := by decide +kernel
theorem dL_thrown_266 : decode cL_thrown 266 = .ok (.aload_n 0, 1) := by decide +kernel
theorem dL_thrown_267 : decode cL_thrown 267 = .ok (.invokevirtual 214, 3) := by decide +kernel
theorem dL_thrown_270 : decode cL_thrown 270 = .ok (.bipush 31, 2) := by decide +kernel
theorem dL_thrown_272 : decode cL_thrown 272 = .ok (.if_icmp .lt 15, 3) := by decide +kernel
theorem dL_thrown_275 : decode cL_thrown 275 = .ok (.aload_n 0, 1) := by decide +kernel
theorem dL_thrown_276 : decode cL_thrown 276 = .ok (.bipush 20, 2) := by decide +kernel
theorem dL_thrown_278 : decode cL_thrown 278 = .ok (.invokestatic 188, 3) := by decide +kernel
theorem dL_thrown_281 : decode cL_thrown 281 = .ok (.sipush (-1002), 3) := by decide +kernel
theorem dL_thrown_284 : decode cL_thrown 284 = .ok (.if_icmp .ne 7, 3) := by decide +kernel
theorem dL_thrown_287 : decode cL_thrown 287 = .ok (.iconst 1, 1) := by decide +kernel
theorem dL_thrown_288 : decode cL_thrown 288 = .ok (.goto 4, 3) := by decide +kernel
theorem dL_thrown_291 : decode cL_thrown 291 = .ok (.iconst 0, 1) := by decide +kernel
theorem dL_thrown_292 : decode cL_thrown 292 = .ok (.istore 5, 2) := by decide +kernel
theorem dL_thrown_294 : decode cL_thrown 294 = .ok (.iconst 0, 1) := by decide +kernel
theorem dL_thrown_295 : decode cL_thrown 295 = .ok (.istore 6, 2) := by decide +kernel
theorem dL_thrown_297 : decode cL_thrown 297 = .ok (.iload 6, 2) := by decide +kernel
theorem dL_thrown_299 : decode cL_thrown 299 = .ok (.iload_n 3, 1) := by decide +kernel
theorem dL_thrown_300 : decode cL_thrown 300 = .ok (.if_icmp .ge 410, 3) := by decide +kernel
theorem dL_thrown_303 : decode cL_thrown 303 = .ok (.iload 5, 2) := by decide +kernel
theorem dL_thrown_305 : decode cL_thrown 305 = .ok (.ifCond .eq 29, 3) := by decide +kernel
theorem dL_thrown_308 : decode cL_thrown 308 = .ok (.aload_n 0, 1) := by decide +kernel
theorem dL_thrown_309 : decode cL_thrown 309 = .ok (.iload 6, 2) := by decide +kernel
theorem dL_thrown_311 : decode cL_thrown 311 = .ok (.invokestatic 291, 3) := by decide +kernel
theorem dL_thrown_314 : decode cL_thrown 314 = .ok (.iconst 1, 1) := by decide +kernel
theorem dL_thrown_315 : decode cL_thrown 315 = .ok (.if_icmp .eq 15, 3) := by decide +kernel
theorem dL_thrown_318 : decode cL_thrown 318 = .ok (.aload_n 0, 1) := by decide +kernel
theorem dL_thrown_319 : decode cL_thrown 319 = .ok (.iload 6, 2) := by decide +kernel
theorem dL_thrown_321 : decode cL_thrown 321 = .ok (.invokestatic 254, 3) := by decide +kernel
theorem dL_thrown_324 : decode cL_thrown 324 = .ok (.sipush (-1002), 3) := by decide +kernel
theorem dL_thrown_327 : decode cL_thrown 327 = .ok (.if_icmp .ne 7, 3) := by decide +kernel
theorem dL_thrown_330 : decode cL_thrown 330 = .ok (.iconst 1, 1) := by decide +kernel
theorem dL_thrown_331 : decode cL_thrown 331 = .ok (.goto 4, 3) := by decide +kernel
theorem dL_thrown_334 : decode cL_thrown 334 = .ok (.iconst 0, 1) := by decide +kernel
theorem dL_thrown_335 : decode cL_thrown 335 = .ok (.istore 5, 2) := by decide +kernel
theorem dL_thrown_337 : decode cL_thrown 337 = .ok (.aload_n 0, 1) := by decide +kernel
theorem dL_thrown_338 : decode cL_thrown 338 = .ok (.iload 6, 2) := by decide +kernel
theorem dL_thrown_340 : decode cL_thrown 340 = .ok (.invokestatic 242, 3) := by decide +kernel
theorem dL_thrown_343 : decode cL_thrown 343 = .ok (.ifCond .eq 22, 3) := by decide +kernel
theorem dL_thrown_346 : decode cL_thrown 346 = .ok (.aload_n 0, 1) := by decide +kernel
theorem dL_thrown_347 : decode cL_thrown 347 = .ok (.iload 6, 2) := by decide +kernel
theorem dL_thrown_349 : decode cL_thrown 349 = .ok (.invokestatic 291, 3) := by decide +kernel
theorem dL_thrown_352 : decode cL_thrown 352 = .ok (.iconst 1, 1) := by decide +kernel
theorem dL_thrown_353 : decode cL_thrown 353 = .ok (.if_icmp .eq 12, 3) := by decide +kernel
theorem dL_thrown_356 : decode cL_thrown 356 = .ok (.aload_n 0, 1) := by decide +kernel
theorem dL_thrown_357 : decode cL_thrown 357 = .ok (.iload 6, 2) := by decide +kernel
theorem dL_thrown_359 : decode cL_thrown 359 = .ok (.invokestatic 293, 3) := by decide +kernel
theorem dL_thrown_362 : decode cL_thrown 362 = .ok (.ifCond .lt 27, 3) := by decide +kernel
theorem dL_thrown_365 : decode cL_thrown 365 = .ok (.iload 5, 2) := by decide +kernel
theorem dL_thrown_367 : decode cL_thrown 367 = .ok (.ifCond .eq 19, 3) := by decide +kernel
theorem dL_thrown_370 : decode cL_thrown 370 = .ok (.aload_n 0, 1) := by decide +kernel
theorem dL_thrown_371 : decode cL_thrown 371 = .ok (.iload 6, 2) := by decide +kernel
theorem dL_thrown_373 : decode cL_thrown 373 = .ok (.invokestatic 252, 3) := by decide +kernel
theorem dL_thrown_376 : decode cL_thrown 376 = .ok (.sipush (-1002), 3) := by decide +kernel
theorem dL_thrown_379 : decode cL_thrown 379 = .ok (.if_icmp .ne 7, 3) := by decide +kernel
theorem dL_thrown_382 : decode cL_thrown 382 = .ok (.iconst 1, 1) := by decide +kernel
theorem dL_thrown_383 : decode cL_thrown 383 = .ok (.goto 4, 3) := by decide +kernel
theorem dL_thrown_386 : decode cL_thrown 386 = .ok (.iconst 0, 1) := by decide +kernel
theorem dL_thrown_387 : decode cL_thrown 387 = .ok (.istore 5, 2) := by decide +kernel
theorem dL_thrown_389 : decode cL_thrown 389 = .ok (.aload_n 0, 1) := by decide +kernel
theorem dL_thrown_390 : decode cL_thrown 390 = .ok (.iload 6, 2) := by decide +kernel
theorem dL_thrown_392 : decode cL_thrown 392 = .ok (.invokestatic 295, 3) := by decide +kernel
theorem dL_thrown_395 : decode cL_thrown 395 = .ok (.ifCond .eq 13, 3) := by decide +kernel
theorem dL_thrown_398 : decode cL_thrown 398 = .ok (.aload_n 0, 1) := by decide +kernel
theorem dL_thrown_399 : decode cL_thrown 399 = .ok (.iload 6, 2) := by decide +kernel
theorem dL_thrown_401 : decode cL_thrown 401 = .ok (.invokestatic 291, 3) := by decide +kernel
theorem dL_thrown_404 : decode cL_thrown 404 = .ok (.iconst 1, 1) := by decide +kernel
theorem dL_thrown_405 : decode cL_thrown 405 = .ok (.if_icmp .ne 30, 3) := by decide +kernel
theorem dL_thrown_408 : decode cL_thrown 408 = .ok (.iload 5, 2) := by decide +kernel
theorem dL_thrown_410 : decode cL_thrown 410 = .ok (.ifCond .eq 19, 3) := by decide +kernel
theorem dL_thrown_413 : decode cL_thrown 413 = .ok (.aload_n 0, 1) := by decide +kernel
theorem dL_thrown_414 : decode cL_thrown 414 = .ok (.iload 6, 2) := by decide +kernel
theorem dL_thrown_416 : decode cL_thrown 416 = .ok (.invokestatic 256, 3) := by decide +kernel
theorem dL_thrown_419 : decode cL_thrown 419 = .ok (.sipush (-1002), 3) := by decide +kernel
theorem dL_thrown_422 : decode cL_thrown 422 = .ok (.if_icmp .ne 7, 3) := by decide +kernel
theorem dL_thrown_425 : decode cL_thrown 425 = .ok (.iconst 1, 1) := by decide +kernel
theorem dL_thrown_426 : decode cL_thrown 426 = .ok (.goto 4, 3) := by decide +kernel
theorem dL_thrown_429 : decode cL_thrown 429 = .ok (.iconst 0, 1) := by decide +kernel
theorem dL_thrown_430 : decode cL_thrown 430 = .ok (.istore 5, 2) := by decide +kernel
theorem dL_thrown_432 : decode cL_thrown 432 = .ok (.goto 40, 3) := by decide +kernel
theorem dL_thrown_435 : decode cL_thrown 435 = .ok (.aload_n 0, 1) := by decide +kernel
theorem dL_thrown_436 : decode cL_thrown 436 = .ok (.iload 6, 2) := by decide +kernel
theorem dL_thrown_438 : decode cL_thrown 438 = .ok (.invokestatic 295, 3) := by decide +kernel
theorem dL_thrown_441 : decode cL_thrown 441 = .ok (.aload_n 0, 1) := by decide +kernel
theorem dL_thrown_442 : decode cL_thrown 442 = .ok (.invokevirtual 214, 3) := by decide +kernel
theorem dL_thrown_445 : decode cL_thrown 445 = .ok (.if_icmp .le 27, 3) := by decide +kernel
theorem dL_thrown_448 : decode cL_thrown 448 = .ok (.iload 5, 2) := by decide +kernel
theorem dL_thrown_450 : decode cL_thrown 450 = .ok (.ifCond .eq 19, 3) := by decide +kernel
theorem dL_thrown_453 : decode cL_thrown 453 = .ok (.aload_n 0, 1) := by decide +kernel
theorem dL_thrown_454 : decode cL_thrown 454 = .ok (.iload 6, 2) := by decide +kernel
theorem dL_thrown_456 : decode cL_thrown 456 = .ok (.invokestatic 256, 3) := by decide +kernel
theorem dL_thrown_459 : decode cL_thrown 459 = .ok (.sipush (-1003), 3) := by decide +kernel
theorem dL_thrown_462 : decode cL_thrown 462 = .ok (.if_icmp .ne 7, 3) := by decide +kernel
theorem dL_thrown_465 : decode cL_thrown 465 = .ok (.iconst 1, 1) := by decide +kernel
theorem dL_thrown_466 : decode cL_thrown 466 = .ok (.goto 4, 3) := by decide +kernel
theorem dL_thrown_469 : decode cL_thrown 469 = .ok (.iconst 0, 1) := by decide +kernel
theorem dL_thrown_470 : decode cL_thrown 470 = .ok (.istore 5, 2) := by decide +kernel
theorem dL_thrown_472 : decode cL_thrown 472 = .ok (.aload_n 0, 1) := by decide +kernel
theorem dL_thrown_473 : decode cL_thrown 473 = .ok (.iload 6, 2) := by decide +kernel
theorem dL_thrown_475 : decode cL_thrown 475 = .ok (.invokestatic 242, 3) := by decide +kernel
theorem dL_thrown_478 : decode cL_thrown 478 = .ok (.bipush 6, 2) := by decide +kernel
theorem dL_thrown_480 : decode cL_thrown 480 = .ok (.if_icmp .eq 13, 3) := by decide +kernel
theorem dL_thrown_483 : decode cL_thrown 483 = .ok (.aload_n 0, 1) := by decide +kernel
theorem dL_thrown_484 : decode cL_thrown 484 = .ok (.iload 6, 2) := by decide +kernel
theorem dL_thrown_486 : decode cL_thrown 486 = .ok (.invokestatic 291, 3) := by decide +kernel
theorem dL_thrown_489 : decode cL_thrown 489 = .ok (.iconst 1, 1) := by decide +kernel
theorem dL_thrown_490 : decode cL_thrown 490 = .ok (.if_icmp .ne 29, 3) := by decide +kernel
theorem dL_thrown_493 : decode cL_thrown 493 = .ok (.iload 5, 2) := by decide +kernel
theorem dL_thrown_495 : decode cL_thrown 495 = .ok (.ifCond .eq 21, 3) := by decide +kernel
theorem dL_thrown_498 : decode cL_thrown 498 = .ok (.aload_n 0, 1) := by decide +kernel
theorem dL_thrown_499 : decode cL_thrown 499 = .ok (.iload 6, 2) := by decide +kernel
theorem dL_thrown_501 : decode cL_thrown 501 = .ok (.bipush 118, 2) := by decide +kernel
theorem dL_thrown_503 : decode cL_thrown 503 = .ok (.invokestatic 182, 3) := by decide +kernel
theorem dL_thrown_506 : decode cL_thrown 506 = .ok (.sipush (-1003), 3) := by decide +kernel
theorem dL_thrown_509 : decode cL_thrown 509 = .ok (.if_icmp .ne 7, 3) := by decide +kernel
theorem dL_thrown_512 : decode cL_thrown 512 = .ok (.iconst 1, 1) := by decide +kernel
theorem dL_thrown_513 : decode cL_thrown 513 = .ok (.goto 4, 3) := by decide +kernel
theorem dL_thrown_516 : decode cL_thrown 516 = .ok (.iconst 0, 1) := by decide +kernel
theorem dL_thrown_517 : decode cL_thrown 517 = .ok (.istore 5, 2) := by decide +kernel
theorem dL_thrown_519 : decode cL_thrown 519 = .ok (.aload_n 0, 1) := by decide +kernel
theorem dL_thrown_520 : decode cL_thrown 520 = .ok (.iload 6, 2) := by decide +kernel
theorem dL_thrown_522 : decode cL_thrown 522 = .ok (.invokestatic 293, 3) := by decide +kernel
theorem dL_thrown_525 : decode cL_thrown 525 = .ok (.ifCond .lt 48, 3) := by decide +kernel
theorem dL_thrown_528 : decode cL_thrown 528 = .ok (.iload 5, 2) := by decide +kernel
theorem dL_thrown_530 : decode cL_thrown 530 = .ok (.ifCond .eq 40, 3) := by decide +kernel
theorem dL_thrown_533 : decode cL_thrown 533 = .ok (.aload_n 0, 1) := by decide +kernel
theorem dL_thrown_534 : decode cL_thrown 534 = .ok (.iload 6, 2) := by decide +kernel
theorem dL_thrown_536 : decode cL_thrown 536 = .ok (.aload_n 0, 1) := by decide +kernel
theorem dL_thrown_537 : decode cL_thrown 537 = .ok (.iload 6, 2) := by decide +kernel
theorem dL_thrown_539 : decode cL_thrown 539 = .ok (.invokestatic 293, 3) := by decide +kernel
theorem dL_thrown_542 : decode cL_thrown 542 = .ok (.iconst 0, 1) := by decide +kernel
theorem dL_thrown_543 : decode cL_thrown 543 = .ok (.invokestatic 185, 3) := by decide +kernel
theorem dL_thrown_546 : decode cL_thrown 546 = .ok (.sipush (-1003), 3) := by decide +kernel
theorem dL_thrown_549 : decode cL_thrown 549 = .ok (.if_icmp .ne 21, 3) := by decide +kernel
theorem dL_thrown_552 : decode cL_thrown 552 = .ok (.aload_n 0, 1) := by decide +kernel
theorem dL_thrown_553 : decode cL_thrown 553 = .ok (.iload 6, 2) := by decide +kernel
theorem dL_thrown_555 : decode cL_thrown 555 = .ok (.iconst 0, 1) := by decide +kernel
theorem dL_thrown_556 : decode cL_thrown 556 = .ok (.iconst 0, 1) := by decide +kernel
theorem dL_thrown_557 : decode cL_thrown 557 = .ok (.invokestatic 297, 3) := by decide +kernel
theorem dL_thrown_560 : decode cL_thrown 560 = .ok (.sipush (-1003), 3) := by decide +kernel
theorem dL_thrown_563 : decode cL_thrown 563 = .ok (.if_icmp .ne 7, 3) := by decide +kernel
theorem dL_thrown_566 : decode cL_thrown 566 = .ok (.iconst 1, 1) := by decide +kernel
theorem dL_thrown_567 : decode cL_thrown 567 = .ok (.goto 4, 3) := by decide +kernel
theorem dL_thrown_570 : decode cL_thrown 570 = .ok (.iconst 0, 1) := by decide +kernel
theorem dL_thrown_571 : decode cL_thrown 571 = .ok (.istore 5, 2) := by decide +kernel
theorem dL_thrown_573 : decode cL_thrown 573 = .ok (.iload 5, 2) := by decide +kernel
theorem dL_thrown_575 : decode cL_thrown 575 = .ok (.ifCond .eq 126, 3) := by decide +kernel
theorem dL_thrown_578 : decode cL_thrown 578 = .ok (.aload_n 0, 1) := by decide +kernel
theorem dL_thrown_579 : decode cL_thrown 579 = .ok (.iload 6, 2) := by decide +kernel
theorem dL_thrown_581 : decode cL_thrown 581 = .ok (.iconst (-1), 1) := by decide +kernel
theorem dL_thrown_582 : decode cL_thrown 582 = .ok (.invokestatic 299, 3) := by decide +kernel
theorem dL_thrown_585 : decode cL_thrown 585 = .ok (.sipush (-1001), 3) := by decide +kernel
theorem dL_thrown_588 : decode cL_thrown 588 = .ok (.if_icmp .ne 113, 3) := by decide +kernel
theorem dL_thrown_591 : decode cL_thrown 591 = .ok (.aload_n 0, 1) := by decide +kernel
theorem dL_thrown_592 : decode cL_thrown 592 = .ok (.iload 6, 2) := by decide +kernel
theorem dL_thrown_594 : decode cL_thrown 594 = .ok (.aload_n 0, 1) := by decide +kernel
theorem dL_thrown_595 : decode cL_thrown 595 = .ok (.iload 6, 2) := by decide +kernel
theorem dL_thrown_597 : decode cL_thrown 597 = .ok (.invokestatic 242, 3) := by decide +kernel
theorem dL_thrown_600 : decode cL_thrown 600 = .ok (.invokestatic 299, 3) := by decide +kernel
theorem dL_thrown_603 : decode cL_thrown 603 = .ok (.sipush (-1001), 3) := by decide +kernel
theorem dL_thrown_606 : decode cL_thrown 606 = .ok (.if_icmp .ne 95, 3) := by decide +kernel
theorem dL_thrown_609 : decode cL_thrown 609 = .ok (.aload_n 0, 1) := by decide +kernel
theorem dL_thrown_610 : decode cL_thrown 610 = .ok (.iload 6, 2) := by decide +kernel
theorem dL_thrown_612 : decode cL_thrown 612 = .ok (.iconst (-1), 1) := by decide +kernel
theorem dL_thrown_613 : decode cL_thrown 613 = .ok (.invokestatic 302, 3) := by decide +kernel
theorem dL_thrown_616 : decode cL_thrown 616 = .ok (.sipush (-1001), 3) := by decide +kernel
theorem dL_thrown_619 : decode cL_thrown 619 = .ok (.if_icmp .ne 82, 3) := by decide +kernel
theorem dL_thrown_622 : decode cL_thrown 622 = .ok (.aload_n 0, 1) := by decide +kernel
theorem dL_thrown_623 : decode cL_thrown 623 = .ok (.iload 6, 2) := by decide +kernel
theorem dL_thrown_625 : decode cL_thrown 625 = .ok (.aload_n 0, 1) := by decide +kernel
theorem dL_thrown_626 : decode cL_thrown 626 = .ok (.iload 6, 2) := by decide +kernel
theorem dL_thrown_628 : decode cL_thrown 628 = .ok (.invokestatic 242, 3) := by decide +kernel
theorem dL_thrown_631 : decode cL_thrown 631 = .ok (.iconst 1, 1) := by decide +kernel
theorem dL_thrown_632 : decode cL_thrown 632 = .ok (.iadd, 1) := by decide +kernel
theorem dL_thrown_633 : decode cL_thrown 633 = .ok (.invokestatic 302, 3) := by decide +kernel
theorem dL_thrown_636 : decode cL_thrown 636 = .ok (.sipush (-1001), 3) := by decide +kernel
theorem dL_thrown_639 : decode cL_thrown 639 = .ok (.if_icmp .ne 62, 3) := by decide +kernel
theorem dL_thrown_642 : decode cL_thrown 642 = .ok (.aload_n 0, 1) := by decide +kernel
theorem dL_thrown_643 : decode cL_thrown 643 = .ok (.iload 6, 2) := by decide +kernel
theorem dL_thrown_645 : decode cL_thrown 645 = .ok (.iconst 4, 1) := by decide +kernel
theorem dL_thrown_646 : decode cL_thrown 646 = .ok (.invokestatic 305, 3) := by decide +kernel
theorem dL_thrown_649 : decode cL_thrown 649 = .ok (.sipush (-1002), 3) := by decide +kernel
theorem dL_thrown_652 : decode cL_thrown 652 = .ok (.if_icmp .ne 49, 3) := by decide +kernel
theorem dL_thrown_655 : decode cL_thrown 655 = .ok (.aload_n 0, 1) := by decide +kernel
theorem dL_thrown_656 : decode cL_thrown 656 = .ok (.iload 6, 2) := by decide +kernel
theorem dL_thrown_658 : decode cL_thrown 658 = .ok (.iconst (-1), 1) := by decide +kernel
theorem dL_thrown_659 : decode cL_thrown 659 = .ok (.invokestatic 305, 3) := by decide +kernel
theorem dL_thrown_662 : decode cL_thrown 662 = .ok (.sipush (-1002), 3) := by decide +kernel
theorem dL_thrown_665 : decode cL_thrown 665 = .ok (.if_icmp .ne 36, 3) := by decide +kernel
theorem dL_thrown_668 : decode cL_thrown 668 = .ok (.aload_n 0, 1) := by decide +kernel
theorem dL_thrown_669 : decode cL_thrown 669 = .ok (.iload 6, 2) := by decide +kernel
theorem dL_thrown_671 : decode cL_thrown 671 = .ok (.bipush 9, 2) := by decide +kernel
theorem dL_thrown_673 : decode cL_thrown 673 = .ok (.iconst 0, 1) := by decide +kernel
theorem dL_thrown_674 : decode cL_thrown 674 = .ok (.invokestatic 297, 3) := by decide +kernel
theorem dL_thrown_677 : decode cL_thrown 677 = .ok (.sipush (-1001), 3) := by decide +kernel
theorem dL_thrown_680 : decode cL_thrown 680 = .ok (.if_icmp .ne 21, 3) := by decide +kernel
theorem dL_thrown_683 : decode cL_thrown 683 = .ok (.aload_n 0, 1) := by decide +kernel
theorem dL_thrown_684 : decode cL_thrown 684 = .ok (.iload 6, 2) := by decide +kernel
theorem dL_thrown_686 : decode cL_thrown 686 = .ok (.iconst 0, 1) := by decide +kernel
theorem dL_thrown_687 : decode cL_thrown 687 = .ok (.iconst 4, 1) := by decide +kernel
theorem dL_thrown_688 : decode cL_thrown 688 = .ok (.invokestatic 297, 3) := by decide +kernel
theorem dL_thrown_691 : decode cL_thrown 691 = .ok (.sipush (-1002), 3) := by decide +kernel
theorem dL_thrown_694 : decode cL_thrown 694 = .ok (.if_icmp .ne 7, 3) := by decide +kernel
theorem dL_thrown_697 : decode cL_thrown 697 = .ok (.iconst 1, 1) := by decide +kernel
theorem dL_thrown_698 : decode cL_thrown 698 = .ok (.goto 4, 3) := by decide +kernel
theorem dL_thrown_701 : decode cL_thrown 701 = .ok (.iconst 0, 1) := by decide +kernel
theorem dL_thrown_702 : decode cL_thrown 702 = .ok (.istore 5, 2) := by decide +kernel
theorem dL_thrown_704 : decode cL_thrown 704 = .ok (.iinc 6 1, 3) := by decide +kernel
theorem dL_thrown_707 : decode cL_thrown 707 = .ok (.goto (-410), 3) := by decide +kernel
theorem dL_thrown_710 : decode cL_thrown 710 = .ok (.iconst 0, 1) := by decide +kernel
theorem dL_thrown_711 : decode cL_thrown 711 = .ok (.istore 6, 2) := by decide +kernel
theorem dL_thrown_713 : decode cL_thrown 713 = .ok (.iload 6, 2) := by decide +kernel
theorem dL_thrown_715 : decode cL_thrown 715 = .ok (.bipush 9, 2) := by decide +kernel
theorem dL_thrown_717 : decode cL_thrown 717 = .ok (.if_icmp .ge 94, 3) := by decide +kernel
theorem dL_thrown_720 : decode cL_thrown 720 = .ok (.aload_n 0, 1) := by decide +kernel
theorem dL_thrown_721 : decode cL_thrown 721 = .ok (.iload 6, 2) := by decide +kernel
theorem dL_thrown_723 : decode cL_thrown 723 = .ok (.invokestatic 307, 3) := by decide +kernel
theorem dL_thrown_726 : decode cL_thrown 726 = .ok (.sipush (-1002), 3) := by decide +kernel
theorem dL_thrown_729 : decode cL_thrown 729 = .ok (.if_icmp .ne 76, 3) := by decide +kernel
theorem dL_thrown_732 : decode cL_thrown 732 = .ok (.iload 5, 2) := by decide +kernel
theorem dL_thrown_734 : decode cL_thrown 734 = .ok (.ifCond .eq 68, 3) := by decide +kernel
theorem dL_thrown_737 : decode cL_thrown 737 = .ok (.aload_n 0, 1) := by decide +kernel
theorem dL_thrown_738 : decode cL_thrown 738 = .ok (.iload 6, 2) := by decide +kernel
theorem dL_thrown_740 : decode cL_thrown 740 = .ok (.invokestatic 258, 3) := by decide +kernel
theorem dL_thrown_743 : decode cL_thrown 743 = .ok (.sipush (-1002), 3) := by decide +kernel
theorem dL_thrown_746 : decode cL_thrown 746 = .ok (.if_icmp .ne 56, 3) := by decide +kernel
theorem dL_thrown_749 : decode cL_thrown 749 = .ok (.aload_n 0, 1) := by decide +kernel
theorem dL_thrown_750 : decode cL_thrown 750 = .ok (.iload 6, 2) := by decide +kernel
theorem dL_thrown_752 : decode cL_thrown 752 = .ok (.invokestatic 309, 3) := by decide +kernel
theorem dL_thrown_755 : decode cL_thrown 755 = .ok (.sipush (-1002), 3) := by decide +kernel
theorem dL_thrown_758 : decode cL_thrown 758 = .ok (.if_icmp .ne 44, 3) := by decide +kernel
theorem dL_thrown_761 : decode cL_thrown 761 = .ok (.aload_n 0, 1) := by decide +kernel
theorem dL_thrown_762 : decode cL_thrown 762 = .ok (.iload 6, 2) := by decide +kernel
theorem dL_thrown_764 : decode cL_thrown 764 = .ok (.iconst 0, 1) := by decide +kernel
theorem dL_thrown_765 : decode cL_thrown 765 = .ok (.invokestatic 311, 3) := by decide +kernel
theorem dL_thrown_768 : decode cL_thrown 768 = .ok (.sipush (-1003), 3) := by decide +kernel
theorem dL_thrown_771 : decode cL_thrown 771 = .ok (.if_icmp .ne 31, 3) := by decide +kernel
theorem dL_thrown_774 : decode cL_thrown 774 = .ok (.aload_n 0, 1) := by decide +kernel
theorem dL_thrown_775 : decode cL_thrown 775 = .ok (.iload 6, 2) := by decide +kernel
theorem dL_thrown_777 : decode cL_thrown 777 = .ok (.invokestatic 313, 3) := by decide +kernel
theorem dL_thrown_780 : decode cL_thrown 780 = .ok (.sipush (-1002), 3) := by decide +kernel
theorem dL_thrown_783 : decode cL_thrown 783 = .ok (.if_icmp .ne 19, 3) := by decide +kernel
theorem dL_thrown_786 : decode cL_thrown 786 = .ok (.aload_n 0, 1) := by decide +kernel
theorem dL_thrown_787 : decode cL_thrown 787 = .ok (.iload 6, 2) := by decide +kernel
theorem dL_thrown_789 : decode cL_thrown 789 = .ok (.invokestatic 315, 3) := by decide +kernel
theorem dL_thrown_792 : decode cL_thrown 792 = .ok (.sipush (-1002), 3) := by decide +kernel
theorem dL_thrown_795 : decode cL_thrown 795 = .ok (.if_icmp .ne 7, 3) := by decide +kernel
theorem dL_thrown_798 : decode cL_thrown 798 = .ok (.iconst 1, 1) := by decide +kernel
theorem dL_thrown_799 : decode cL_thrown 799 = .ok (.goto 4, 3) := by decide +kernel
theorem dL_thrown_802 : decode cL_thrown 802 = .ok (.iconst 0, 1) := by decide +kernel
theorem dL_thrown_803 : decode cL_thrown 803 = .ok (.istore 5, 2) := by decide +kernel
theorem dL_thrown_805 : decode cL_thrown 805 = .ok (.iinc 6 1, 3) := by decide +kernel
theorem dL_thrown_808 : decode cL_thrown 808 = .ok (.goto (-95), 3) := by decide +kernel
theorem dL_thrown_811 : decode cL_thrown 811 = .ok (.iload 5, 2) := by decide +kernel
theorem dL_thrown_813 : decode cL_thrown 813 = .ok (.ifCond .eq 315, 3) := by decide +kernel
theorem dL_thrown_816 : decode cL_thrown 816 = .ok (.aload_n 0, 1) := by decide +kernel
theorem dL_thrown_817 : decode cL_thrown 817 = .ok (.iload_n 3, 1) := by decide +kernel
theorem dL_thrown_818 : decode cL_thrown 818 = .ok (.invokestatic 317, 3) := by decide +kernel
theorem dL_thrown_821 : decode cL_thrown 821 = .ok (.sipush (-1001), 3) := by decide +kernel
theorem dL_thrown_824 : decode cL_thrown 824 = .ok (.if_icmp .ne 304, 3) := by decide +kernel
theorem dL_thrown_827 : decode cL_thrown 827 = .ok (.aload_n 0, 1) := by decide +kernel
theorem dL_thrown_828 : decode cL_thrown 828 = .ok (.iload_n 3, 1) := by decide +kernel
theorem dL_thrown_829 : decode cL_thrown 829 = .ok (.bipush 9, 2) := by decide +kernel
theorem dL_thrown_831 : decode cL_thrown 831 = .ok (.invokestatic 305, 3) := by decide +kernel
theorem dL_thrown_834 : decode cL_thrown 834 = .ok (.sipush (-1001), 3) := by decide +kernel
theorem dL_thrown_837 : decode cL_thrown 837 = .ok (.if_icmp .ne 291, 3) := by decide +kernel
theorem dL_thrown_840 : decode cL_thrown 840 = .ok (.aload_n 0, 1) := by decide +kernel
theorem dL_thrown_841 : decode cL_thrown 841 = .ok (.iload_n 3, 1) := by decide +kernel
theorem dL_thrown_842 : decode cL_thrown 842 = .ok (.invokestatic 295, 3) := by decide +kernel
theorem dL_thrown_845 : decode cL_thrown 845 = .ok (.sipush (-1001), 3) := by decide +kernel
theorem dL_thrown_848 : decode cL_thrown 848 = .ok (.if_icmp .ne 280, 3) := by decide +kernel
theorem dL_thrown_851 : decode cL_thrown 851 = .ok (.aload_n 0, 1) := by decide +kernel
theorem dL_thrown_852 : decode cL_thrown 852 = .ok (.iconst (-1), 1) := by decide +kernel
theorem dL_thrown_853 : decode cL_thrown 853 = .ok (.invokestatic 319, 3) := by decide +kernel
theorem dL_thrown_856 : decode cL_thrown 856 = .ok (.sipush (-1001), 3) := by decide +kernel
theorem dL_thrown_859 : decode cL_thrown 859 = .ok (.if_icmp .ne 269, 3) := by decide +kernel
theorem dL_thrown_862 : decode cL_thrown 862 = .ok (.aload_n 0, 1) := by decide +kernel
theorem dL_thrown_863 : decode cL_thrown 863 = .ok (.iload_n 3, 1) := by decide +kernel
theorem dL_thrown_864 : decode cL_thrown 864 = .ok (.invokestatic 291, 3) := by decide +kernel
theorem dL_thrown_867 : decode cL_thrown 867 = .ok (.sipush (-1001), 3) := by decide +kernel
theorem dL_thrown_870 : decode cL_thrown 870 = .ok (.if_icmp .ne 258, 3) := by decide +kernel
theorem dL_thrown_873 : decode cL_thrown 873 = .ok (.aload_n 0, 1) := by decide +kernel
theorem dL_thrown_874 : decode cL_thrown 874 = .ok (.iload_n 3, 1) := by decide +kernel
theorem dL_thrown_875 : decode cL_thrown 875 = .ok (.invokestatic 242, 3) := by decide +kernel
theorem dL_thrown_878 : decode cL_thrown 878 = .ok (.sipush (-1001), 3) := by decide +kernel
theorem dL_thrown_881 : decode cL_thrown 881 = .ok (.if_icmp .ne 247, 3) := by decide +kernel
theorem dL_thrown_884 : decode cL_thrown 884 = .ok (.aload_n 0, 1) := by decide +kernel
theorem dL_thrown_885 : decode cL_thrown 885 = .ok (.iload_n 3, 1) := by decide +kernel
theorem dL_thrown_886 : decode cL_thrown 886 = .ok (.iconst 0, 1) := by decide +kernel
theorem dL_thrown_887 : decode cL_thrown 887 = .ok (.invokestatic 299, 3) := by decide +kernel
theorem dL_thrown_890 : decode cL_thrown 890 = .ok (.sipush (-1001), 3) := by decide +kernel
theorem dL_thrown_893 : decode cL_thrown 893 = .ok (.if_icmp .ne 235, 3) := by decide +kernel
theorem dL_thrown_896 : decode cL_thrown 896 = .ok (.aload_n 0, 1) := by decide +kernel
theorem dL_thrown_897 : decode cL_thrown 897 = .ok (.iload_n 3, 1) := by decide +kernel
theorem dL_thrown_898 : decode cL_thrown 898 = .ok (.invokestatic 293, 3) := by decide +kernel
theorem dL_thrown_901 : decode cL_thrown 901 = .ok (.sipush (-1001), 3) := by decide +kernel
theorem dL_thrown_904 : decode cL_thrown 904 = .ok (.if_icmp .ne 224, 3) := by decide +kernel
theorem dL_thrown_907 : decode cL_thrown 907 = .ok (.aload_n 0, 1) := by decide +kernel
theorem dL_thrown_908 : decode cL_thrown 908 = .ok (.iconst (-1), 1) := by decide +kernel
theorem dL_thrown_909 : decode cL_thrown 909 = .ok (.invokestatic 307, 3) := by decide +kernel
theorem dL_thrown_912 : decode cL_thrown 912 = .ok (.sipush (-1001), 3) := by decide +kernel
theorem dL_thrown_915 : decode cL_thrown 915 = .ok (.if_icmp .ne 213, 3) := by decide +kernel
theorem dL_thrown_918 : decode cL_thrown 918 = .ok (.aload_n 0, 1) := by decide +kernel
theorem dL_thrown_919 : decode cL_thrown 919 = .ok (.bipush 9, 2) := by decide +kernel
theorem dL_thrown_921 : decode cL_thrown 921 = .ok (.invokestatic 309, 3) := by decide +kernel
theorem dL_thrown_924 : decode cL_thrown 924 = .ok (.sipush (-1001), 3) := by decide +kernel
theorem dL_thrown_927 : decode cL_thrown 927 = .ok (.if_icmp .ne 201, 3) := by decide +kernel
theorem dL_thrown_930 : decode cL_thrown 930 = .ok (.aload_n 0, 1) := by decide +kernel
theorem dL_thrown_931 : decode cL_thrown 931 = .ok (.bipush 9, 2) := by decide +kernel
theorem dL_thrown_933 : decode cL_thrown 933 = .ok (.bipush 9, 2) := by decide +kernel
theorem dL_thrown_935 : decode cL_thrown 935 = .ok (.invokestatic 311, 3) := by decide +kernel
theorem dL_thrown_938 : decode cL_thrown 938 = .ok (.sipush (-1001), 3) := by decide +kernel
theorem dL_thrown_941 : decode cL_thrown 941 = .ok (.if_icmp .ne 187, 3) := by decide +kernel
theorem dL_thrown_944 : decode cL_thrown 944 = .ok (.aload_n 0, 1) := by decide +kernel
theorem dL_thrown_945 : decode cL_thrown 945 = .ok (.iconst 0, 1) := by decide +kernel
theorem dL_thrown_946 : decode cL_thrown 946 = .ok (.bipush 9, 2) := by decide +kernel
theorem dL_thrown_948 : decode cL_thrown 948 = .ok (.invokestatic 311, 3) := by decide +kernel
theorem dL_thrown_951 : decode cL_thrown 951 = .ok (.sipush (-1002), 3) := by decide +kernel
theorem dL_thrown_954 : decode cL_thrown 954 = .ok (.if_icmp .ne 174, 3) := by decide +kernel
theorem dL_thrown_957 : decode cL_thrown 957 = .ok (.aload_n 0, 1) := by decide +kernel
theorem dL_thrown_958 : decode cL_thrown 958 = .ok (.iload_n 3, 1) := by decide +kernel
theorem dL_thrown_959 : decode cL_thrown 959 = .ok (.iconst 0, 1) := by decide +kernel
theorem dL_thrown_960 : decode cL_thrown 960 = .ok (.bipush 9, 2) := by decide +kernel
theorem dL_thrown_962 : decode cL_thrown 962 = .ok (.invokestatic 297, 3) := by decide +kernel
theorem dL_thrown_965 : decode cL_thrown 965 = .ok (.sipush (-1001), 3) := by decide +kernel
theorem dL_thrown_968 : decode cL_thrown 968 = .ok (.if_icmp .ne 160, 3) := by decide +kernel
theorem dL_thrown_971 : decode cL_thrown 971 = .ok (.aload_n 0, 1) := by decide +kernel
theorem dL_thrown_972 : decode cL_thrown 972 = .ok (.iload_n 3, 1) := by decide +kernel
theorem dL_thrown_973 : decode cL_thrown 973 = .ok (.invokestatic 237, 3) := by decide +kernel
theorem dL_thrown_976 : decode cL_thrown 976 = .ok (.sipush (-1001), 3) := by decide +kernel
theorem dL_thrown_979 : decode cL_thrown 979 = .ok (.if_icmp .ne 149, 3) := by decide +kernel
theorem dL_thrown_982 : decode cL_thrown 982 = .ok (.aload_n 0, 1) := by decide +kernel
theorem dL_thrown_983 : decode cL_thrown 983 = .ok (.iload_n 3, 1) := by decide +kernel
theorem dL_thrown_984 : decode cL_thrown 984 = .ok (.invokestatic 244, 3) := by decide +kernel
theorem dL_thrown_987 : decode cL_thrown 987 = .ok (.sipush (-1001), 3) := by decide +kernel
theorem dL_thrown_990 : decode cL_thrown 990 = .ok (.if_icmp .ne 138, 3) := by decide +kernel
theorem dL_thrown_993 : decode cL_thrown 993 = .ok (.aload_n 0, 1) := by decide +kernel
theorem dL_thrown_994 : decode cL_thrown 994 = .ok (.iconst (-1), 1) := by decide +kernel
theorem dL_thrown_995 : decode cL_thrown 995 = .ok (.invokestatic 321, 3) := by decide +kernel
theorem dL_thrown_998 : decode cL_thrown 998 = .ok (.sipush (-1001), 3) := by decide +kernel
theorem dL_thrown_1001 : decode cL_thrown 1001 = .ok (.if_icmp .ne 127, 3) := by decide +kernel
theorem dL_thrown_1004 : decode cL_thrown 1004 = .ok (.aload_n 0, 1) := by decide +kernel
theorem dL_thrown_1005 : decode cL_thrown 1005 = .ok (.iload_n 3, 1) := by decide +kernel
theorem dL_thrown_1006 : decode cL_thrown 1006 = .ok (.iconst 0, 1) := by decide +kernel
theorem dL_thrown_1007 : decode cL_thrown 1007 = .ok (.invokestatic 302, 3) := by decide +kernel
theorem dL_thrown_1010 : decode cL_thrown 1010 = .ok (.sipush (-1001), 3) := by decide +kernel
theorem dL_thrown_1013 : decode cL_thrown 1013 = .ok (.if_icmp .ne 115, 3) := by decide +kernel
theorem dL_thrown_1016 : decode cL_thrown 1016 = .ok (.aload_n 0, 1) := by decide +kernel
theorem dL_thrown_1017 : decode cL_thrown 1017 = .ok (.bipush 9, 2) := by decide +kernel
theorem dL_thrown_1019 : decode cL_thrown 1019 = .ok (.invokestatic 313, 3) := by decide +kernel
theorem dL_thrown_1022 : decode cL_thrown 1022 = .ok (.sipush (-1001), 3) := by decide +kernel
theorem dL_thrown_1025 : decode cL_thrown 1025 = .ok (.if_icmp .ne 103, 3) := by decide +kernel
theorem dL_thrown_1028 : decode cL_thrown 1028 = .ok (.aload_n 0, 1) := by decide +kernel
theorem dL_thrown_1029 : decode cL_thrown 1029 = .ok (.bipush 9, 2) := by decide +kernel
theorem dL_thrown_1031 : decode cL_thrown 1031 = .ok (.invokestatic 315, 3) := by decide +kernel
theorem dL_thrown_1034 : decode cL_thrown 1034 = .ok (.sipush (-1001), 3) := by decide +kernel
theorem dL_thrown_1037 : decode cL_thrown 1037 = .ok (.if_icmp .ne 91, 3) := by decide +kernel
theorem dL_thrown_1040 : decode cL_thrown 1040 = .ok (.aload_n 0, 1) := by decide +kernel
theorem dL_thrown_1041 : decode cL_thrown 1041 = .ok (.iload_n 3, 1) := by decide +kernel
theorem dL_thrown_1042 : decode cL_thrown 1042 = .ok (.invokestatic 239, 3) := by decide +kernel
theorem dL_thrown_1045 : decode cL_thrown 1045 = .ok (.sipush (-1001), 3) := by decide +kernel
theorem dL_thrown_1048 : decode cL_thrown 1048 = .ok (.if_icmp .ne 80, 3) := by decide +kernel
theorem dL_thrown_1051 : decode cL_thrown 1051 = .ok (.aload_n 0, 1) := by decide +kernel
theorem dL_thrown_1052 : decode cL_thrown 1052 = .ok (.iconst (-1), 1) := by decide +kernel
theorem dL_thrown_1053 : decode cL_thrown 1053 = .ok (.invokestatic 239, 3) := by decide +kernel
theorem dL_thrown_1056 : decode cL_thrown 1056 = .ok (.sipush (-1001), 3) := by decide +kernel
theorem dL_thrown_1059 : decode cL_thrown 1059 = .ok (.if_icmp .ne 69, 3) := by decide +kernel
theorem dL_thrown_1062 : decode cL_thrown 1062 = .ok (.aload_n 0, 1) := by decide +kernel
theorem dL_thrown_1063 : decode cL_thrown 1063 = .ok (.iload_n 3, 1) := by decide +kernel
theorem dL_thrown_1064 : decode cL_thrown 1064 = .ok (.invokestatic 246, 3) := by decide +kernel
theorem dL_thrown_1067 : decode cL_thrown 1067 = .ok (.sipush (-1001), 3) := by decide +kernel
theorem dL_thrown_1070 : decode cL_thrown 1070 = .ok (.if_icmp .ne 58, 3) := by decide +kernel
theorem dL_thrown_1073 : decode cL_thrown 1073 = .ok (.aload_n 0, 1) := by decide +kernel
theorem dL_thrown_1074 : decode cL_thrown 1074 = .ok (.invokevirtual 324, 3) := by decide +kernel
theorem dL_thrown_1077 : decode cL_thrown 1077 = .ok (.iconst 4, 1) := by decide +kernel
theorem dL_thrown_1078 : decode cL_thrown 1078 = .ok (.if_icmp .lt 23, 3) := by decide +kernel
theorem dL_thrown_1081 : decode cL_thrown 1081 = .ok (.aload_n 0, 1) := by decide +kernel
theorem dL_thrown_1082 : decode cL_thrown 1082 = .ok (.invokestatic 232, 3) := by decide +kernel
theorem dL_thrown_1085 : decode cL_thrown 1085 = .ok (.sipush (-1001), 3) := by decide +kernel
theorem dL_thrown_1088 : decode cL_thrown 1088 = .ok (.if_icmp .ne 40, 3) := by decide +kernel
theorem dL_thrown_1091 : decode cL_thrown 1091 = .ok (.aload_n 0, 1) := by decide +kernel
theorem dL_thrown_1092 : decode cL_thrown 1092 = .ok (.invokestatic 327, 3) := by decide +kernel
theorem dL_thrown_1095 : decode cL_thrown 1095 = .ok (.sipush (-1001), 3) := by decide +kernel
theorem dL_thrown_1098 : decode cL_thrown 1098 = .ok (.if_icmp .ne 30, 3) := by decide +kernel
theorem dL_thrown_1101 : decode cL_thrown 1101 = .ok (.aload_n 0, 1) := by decide +kernel
theorem dL_thrown_1102 : decode cL_thrown 1102 = .ok (.iconst (-1), 1) := by decide +kernel
theorem dL_thrown_1103 : decode cL_thrown 1103 = .ok (.invokestatic 167, 3) := by decide +kernel
theorem dL_thrown_1106 : decode cL_thrown 1106 = .ok (.sipush (-1001), 3) := by decide +kernel
theorem dL_thrown_1109 : decode cL_thrown 1109 = .ok (.if_icmp .ne 19, 3) := by decide +kernel
theorem dL_thrown_1112 : decode cL_thrown 1112 = .ok (.aload_n 0, 1) := by decide +kernel
theorem dL_thrown_1113 : decode cL_thrown 1113 = .ok (.bipush 40, 2) := by decide +kernel
theorem dL_thrown_1115 : decode cL_thrown 1115 = .ok (.invokestatic 167, 3) := by decide +kernel
theorem dL_thrown_1118 : decode cL_thrown 1118 = .ok (.sipush (-1001), 3) := by decide +kernel
theorem dL_thrown_1121 : decode cL_thrown 1121 = .ok (.if_icmp .ne 7, 3) := by decide +kernel
theorem dL_thrown_1124 : decode cL_thrown 1124 = .ok (.iconst 1, 1) := by decide +kernel
theorem dL_thrown_1125 : decode cL_thrown 1125 = .ok (.goto 4, 3) := by decide +kernel
theorem dL_thrown_1128 : decode cL_thrown 1128 = .ok (.iconst 0, 1) := by decide +kernel
theorem dL_thrown_1129 : decode cL_thrown 1129 = .ok (.istore 5, 2) := by decide +kernel
theorem dL_thrown_1131 : decode cL_thrown 1131 = .ok (.iload 5, 2) := by decide +kernel
theorem dL_thrown_1133 : decode cL_thrown 1133 = .ok (.ifCond .eq 85, 3) := by decide +kernel
theorem dL_thrown_1136 : decode cL_thrown 1136 = .ok (.aload_n 0, 1) := by decide +kernel
theorem dL_thrown_1137 : decode cL_thrown 1137 = .ok (.ldc_w 330, 3) := by decide +kernel
theorem dL_thrown_1140 : decode cL_thrown 1140 = .ok (.invokestatic 280, 3) := by decide +kernel
theorem dL_thrown_1143 : decode cL_thrown 1143 = .ok (.sipush (-1001), 3) := by decide +kernel
theorem dL_thrown_1146 : decode cL_thrown 1146 = .ok (.if_icmp .ne 72, 3) := by decide +kernel
theorem dL_thrown_1149 : decode cL_thrown 1149 = .ok (.aload_n 0, 1) := by decide +kernel
theorem dL_thrown_1150 : decode cL_thrown 1150 = .ok (.invokestatic 332, 3) := by decide +kernel
theorem dL_thrown_1153 : decode cL_thrown 1153 = .ok (.ifCond .ne 65, 3) := by decide +kernel
theorem dL_thrown_1156 : decode cL_thrown 1156 = .ok (.aload_n 0, 1) := by decide +kernel
theorem dL_thrown_1157 : decode cL_thrown 1157 = .ok (.ldc_w 334, 3) := by decide +kernel
theorem dL_thrown_1160 : decode cL_thrown 1160 = .ok (.invokestatic 280, 3) := by decide +kernel
theorem dL_thrown_1163 : decode cL_thrown 1163 = .ok (.sipush (-1002), 3) := by decide +kernel
theorem dL_thrown_1166 : decode cL_thrown 1166 = .ok (.if_icmp .ne 52, 3) := by decide +kernel
theorem dL_thrown_1169 : decode cL_thrown 1169 = .ok (.aload_n 0, 1) := by decide +kernel
theorem dL_thrown_1170 : decode cL_thrown 1170 = .ok (.invokestatic 336, 3) := by decide +kernel
theorem dL_thrown_1173 : decode cL_thrown 1173 = .ok (.ifCond .ne 45, 3) := by decide +kernel
theorem dL_thrown_1176 : decode cL_thrown 1176 = .ok (.aload_n 0, 1) := by decide +kernel
theorem dL_thrown_1177 : decode cL_thrown 1177 = .ok (.ldc_w 338, 3) := by decide +kernel
theorem dL_thrown_1180 : decode cL_thrown 1180 = .ok (.invokestatic 280, 3) := by decide +kernel
theorem dL_thrown_1183 : decode cL_thrown 1183 = .ok (.sipush (-1002), 3) := by decide +kernel
theorem dL_thrown_1186 : decode cL_thrown 1186 = .ok (.if_icmp .ne 32, 3) := by decide +kernel
theorem dL_thrown_1189 : decode cL_thrown 1189 = .ok (.aload_n 0, 1) := by decide +kernel
theorem dL_thrown_1190 : decode cL_thrown 1190 = .ok (.invokestatic 332, 3) := by decide +kernel
theorem dL_thrown_1193 : decode cL_thrown 1193 = .ok (.ifCond .ne 25, 3) := by decide +kernel
theorem dL_thrown_1196 : decode cL_thrown 1196 = .ok (.aload_n 0, 1) := by decide +kernel
theorem dL_thrown_1197 : decode cL_thrown 1197 = .ok (.invokevirtual 288, 3) := by decide +kernel
theorem dL_thrown_1200 : decode cL_thrown 1200 = .ok (.iload 4, 2) := by decide +kernel
theorem dL_thrown_1202 : decode cL_thrown 1202 = .ok (.if_icmp .ne 16, 3) := by decide +kernel
theorem dL_thrown_1205 : decode cL_thrown 1205 = .ok (.aload_n 0, 1) := by decide +kernel
theorem dL_thrown_1206 : decode cL_thrown 1206 = .ok (.invokestatic 284, 3) := by decide +kernel
theorem dL_thrown_1209 : decode cL_thrown 1209 = .ok (.lload_n 1, 1) := by decide +kernel
theorem dL_thrown_1210 : decode cL_thrown 1210 = .ok (.lcmp, 1) := by decide +kernel
theorem dL_thrown_1211 : decode cL_thrown 1211 = .ok (.ifCond .ne 7, 3) := by decide +kernel
theorem dL_thrown_1214 : decode cL_thrown 1214 = .ok (.iconst 1, 1) := by decide +kernel
theorem dL_thrown_1215 : decode cL_thrown 1215 = .ok (.goto 4, 3) := by decide +kernel
theorem dL_thrown_1218 : decode cL_thrown 1218 = .ok (.iconst 0, 1) := by decide +kernel
theorem dL_thrown_1219 : decode cL_thrown 1219 = .ok (.ireturn, 1) := by decide +kernel
theorem dL_law_0 : decode cL_law 0 = .ok (.new 8, 3) := by decide +kernel
theorem dL_law_3 : decode cL_law 3 = .ok (.dup, 1) := by decide +kernel
theorem dL_law_4 : decode cL_law 4 = .ok (.invokespecial 340, 3) := by decide +kernel
theorem dL_law_7 : decode cL_law 7 = .ok (.astore_n 1, 1) := by decide +kernel
theorem dL_law_8 : decode cL_law 8 = .ok (.aload_n 1, 1) := by decide +kernel
theorem dL_law_9 : decode cL_law 9 = .ok (.invokestatic 341, 3) := by decide +kernel
theorem dL_law_12 : decode cL_law 12 = .ok (.sipush (-1001), 3) := by decide +kernel
theorem dL_law_15 : decode cL_law 15 = .ok (.if_icmp .ne 31, 3) := by decide +kernel
theorem dL_law_18 : decode cL_law 18 = .ok (.aload_n 1, 1) := by decide +kernel
theorem dL_law_19 : decode cL_law 19 = .ok (.invokestatic 343, 3) := by decide +kernel
theorem dL_law_22 : decode cL_law 22 = .ok (.sipush (-1001), 3) := by decide +kernel
theorem dL_law_25 : decode cL_law 25 = .ok (.if_icmp .ne 21, 3) := by decide +kernel
theorem dL_law_28 : decode cL_law 28 = .ok (.aload_n 1, 1) := by decide +kernel
theorem dL_law_29 : decode cL_law 29 = .ok (.invokevirtual 345, 3) := by decide +kernel
theorem dL_law_32 : decode cL_law 32 = .ok (.ifCond .ne 14, 3) := by decide +kernel
theorem dL_law_35 : decode cL_law 35 = .ok (.aload_n 1, 1) := by decide +kernel
theorem dL_law_36 : decode cL_law 36 = .ok (.bipush 20, 2) := by decide +kernel
theorem dL_law_38 : decode cL_law 38 = .ok (.invokestatic 188, 3) := by decide +kernel
theorem dL_law_41 : decode cL_law 41 = .ok (.bipush 20, 2) := by decide +kernel
theorem dL_law_43 : decode cL_law 43 = .ok (.if_icmp .eq 5, 3) := by decide +kernel
theorem dL_law_46 : decode cL_law 46 = .ok (.iconst 0, 1) := by decide +kernel
theorem dL_law_47 : decode cL_law 47 = .ok (.ireturn, 1) := by decide +kernel
theorem dL_law_48 : decode cL_law 48 = .ok (.iconst 0, 1) := by decide +kernel
theorem dL_law_49 : decode cL_law 49 = .ok (.istore_n 2, 1) := by decide +kernel
theorem dL_law_50 : decode cL_law 50 = .ok (.iload_n 2, 1) := by decide +kernel
theorem dL_law_51 : decode cL_law 51 = .ok (.bipush 60, 2) := by decide +kernel
theorem dL_law_53 : decode cL_law 53 = .ok (.if_icmp .ge 26, 3) := by decide +kernel
theorem dL_law_56 : decode cL_law 56 = .ok (.aload_n 1, 1) := by decide +kernel
theorem dL_law_57 : decode cL_law 57 = .ok (.bipush 65, 2) := by decide +kernel
theorem dL_law_59 : decode cL_law 59 = .ok (.iload_n 2, 1) := by decide +kernel
theorem dL_law_60 : decode cL_law 60 = .ok (.iadd, 1) := by decide +kernel
theorem dL_law_61 : decode cL_law 61 = .ok (.i2c, 1) := by decide +kernel
theorem dL_law_62 : decode cL_law 62 = .ok (.invokestatic 158, 3) := by decide +kernel
theorem dL_law_65 : decode cL_law 65 = .ok (.iload_n 2, 1) := by decide +kernel
theorem dL_law_66 : decode cL_law 66 = .ok (.iconst 1, 1) := by decide +kernel
theorem dL_law_67 : decode cL_law 67 = .ok (.iadd, 1) := by decide +kernel
theorem dL_law_68 : decode cL_law 68 = .ok (.if_icmp .eq 5, 3) := by decide +kernel
theorem dL_law_71 : decode cL_law 71 = .ok (.iconst 0, 1) := by decide +kernel
theorem dL_law_72 : decode cL_law 72 = .ok (.ireturn, 1) := by decide +kernel
theorem dL_law_73 : decode cL_law 73 = .ok (.iinc 2 1, 3) := by decide +kernel
theorem dL_law_76 : decode cL_law 76 = .ok (.goto (-26), 3) := by decide +kernel
theorem dL_law_79 : decode cL_law 79 = .ok (.aload_n 1, 1) := by decide +kernel
theorem dL_law_80 : decode cL_law 80 = .ok (.bipush 109, 2) := by decide +kernel
theorem dL_law_82 : decode cL_law 82 = .ok (.invokestatic 158, 3) := by decide +kernel
theorem dL_law_85 : decode cL_law 85 = .ok (.sipush (-1001), 3) := by decide +kernel
theorem dL_law_88 : decode cL_law 88 = .ok (.if_icmp .ne 48, 3) := by decide +kernel
theorem dL_law_91 : decode cL_law 91 = .ok (.aload_n 1, 1) := by decide +kernel
theorem dL_law_92 : decode cL_law 92 = .ok (.invokestatic 163, 3) := by decide +kernel
theorem dL_law_95 : decode cL_law 95 = .ok (.sipush (-1001), 3) := by decide +kernel
theorem dL_law_98 : decode cL_law 98 = .ok (.if_icmp .ne 38, 3) := by decide +kernel
theorem dL_law_101 : decode cL_law 101 = .ok (.aload_n 1, 1) := by decide +kernel
theorem dL_law_102 : decode cL_law 102 = .ok (.invokestatic 332, 3) := by decide +kernel
theorem dL_law_105 : decode cL_law 105 = .ok (.ifCond .ne 31, 3) := by decide +kernel
theorem dL_law_108 : decode cL_law 108 = .ok (.aload_n 1, 1) := by decide +kernel
theorem dL_law_109 : decode cL_law 109 = .ok (.bipush 109, 2) := by decide +kernel
theorem dL_law_111 : decode cL_law 111 = .ok (.invokestatic 158, 3) := by decide +kernel
theorem dL_law_114 : decode cL_law 114 = .ok (.iconst 1, 1) := by decide +kernel
theorem dL_law_115 : decode cL_law 115 = .ok (.if_icmp .ne 21, 3) := by decide +kernel
theorem dL_law_118 : decode cL_law 118 = .ok (.aload_n 1, 1) := by decide +kernel
theorem dL_law_119 : decode cL_law 119 = .ok (.invokestatic 163, 3) := by decide +kernel
theorem dL_law_122 : decode cL_law 122 = .ok (.sipush (-1001), 3) := by decide +kernel
theorem dL_law_125 : decode cL_law 125 = .ok (.if_icmp .ne 11, 3) := by decide +kernel
theorem dL_law_128 : decode cL_law 128 = .ok (.aload_n 1, 1) := by decide +kernel
theorem dL_law_129 : decode cL_law 129 = .ok (.invokestatic 332, 3) := by decide +kernel
theorem dL_law_132 : decode cL_law 132 = .ok (.iconst 1, 1) := by decide +kernel
theorem dL_law_133 : decode cL_law 133 = .ok (.if_icmp .eq 5, 3) := by decide +kernel
theorem dL_law_136 : decode cL_law 136 = .ok (.iconst 0, 1) := by decide +kernel
theorem dL_law_137 : decode cL_law 137 = .ok (.ireturn, 1) := by decide +kernel
theorem dL_law_138 : decode cL_law 138 = .ok (.iconst 0, 1) := by decide +kernel
theorem dL_law_139 : decode cL_law 139 = .ok (.istore_n 2, 1) := by decide +kernel
theorem dL_law_140 : decode cL_law 140 = .ok (.iload_n 2, 1) := by decide +kernel
theorem dL_law_141 : decode cL_law 141 = .ok (.bipush 9, 2) := by decide +kernel
theorem dL_law_143 : decode cL_law 143 = .ok (.if_icmp .ge 25, 3) := by decide +kernel
theorem dL_law_146 : decode cL_law 146 = .ok (.aload_n 1, 1) := by decide +kernel
theorem dL_law_147 : decode cL_law 147 = .ok (.iload_n 2, 1) := by decide +kernel
theorem dL_law_148 : decode cL_law 148 = .ok (.iload_n 2, 1) := by decide +kernel
theorem dL_law_149 : decode cL_law 149 = .ok (.iload_n 2, 1) := by decide +kernel
theorem dL_law_150 : decode cL_law 150 = .ok (.iload_n 2, 1) := by decide +kernel
theorem dL_law_151 : decode cL_law 151 = .ok (.bipush 99, 2) := by decide +kernel
theorem dL_law_153 : decode cL_law 153 = .ok (.invokestatic 179, 3) := by decide +kernel
theorem dL_law_156 : decode cL_law 156 = .ok (.iload_n 2, 1) := by decide +kernel
theorem dL_law_157 : decode cL_law 157 = .ok (.if_icmp .eq 5, 3) := by decide +kernel
theorem dL_law_160 : decode cL_law 160 = .ok (.iconst 0, 1) := by decide +kernel
theorem dL_law_161 : decode cL_law 161 = .ok (.ireturn, 1) := by decide +kernel
theorem dL_law_162 : decode cL_law 162 = .ok (.iinc 2 1, 3) := by decide +kernel
theorem dL_law_165 : decode cL_law 165 = .ok (.goto (-25), 3) := by decide +kernel
theorem dL_law_168 : decode cL_law 168 = .ok (.aload_n 1, 1) := by decide +kernel
theorem dL_law_169 : decode cL_law 169 = .ok (.iconst 0, 1) := by decide +kernel
theorem dL_law_170 : decode cL_law 170 = .ok (.iconst 0, 1) := by decide +kernel
theorem dL_law_171 : decode cL_law 171 = .ok (.iconst 0, 1) := by decide +kernel
theorem dL_law_172 : decode cL_law 172 = .ok (.iconst 0, 1) := by decide +kernel
theorem dL_law_173 : decode cL_law 173 = .ok (.bipush 99, 2) := by decide +kernel
theorem dL_law_175 : decode cL_law 175 = .ok (.invokestatic 179, 3) := by decide +kernel
theorem dL_law_178 : decode cL_law 178 = .ok (.sipush (-1002), 3) := by decide +kernel
theorem dL_law_181 : decode cL_law 181 = .ok (.if_icmp .eq 5, 3) := by decide +kernel
theorem dL_law_184 : decode cL_law 184 = .ok (.iconst 0, 1) := by decide +kernel
theorem dL_law_185 : decode cL_law 185 = .ok (.ireturn, 1) := by decide +kernel
theorem dL_law_186 : decode cL_law 186 = .ok (.iconst 0, 1) := by decide +kernel
theorem dL_law_187 : decode cL_law 187 = .ok (.istore_n 2, 1) := by decide +kernel
theorem dL_law_188 : decode cL_law 188 = .ok (.iload_n 2, 1) := by decide +kernel
theorem dL_law_189 : decode cL_law 189 = .ok (.bipush 6, 2) := by decide +kernel
theorem dL_law_191 : decode cL_law 191 = .ok (.if_icmp .ge 25, 3) := by decide +kernel
theorem dL_law_194 : decode cL_law 194 = .ok (.aload_n 1, 1) := by decide +kernel
theorem dL_law_195 : decode cL_law 195 = .ok (.bipush 8, 2) := by decide +kernel
theorem dL_law_197 : decode cL_law 197 = .ok (.bipush 118, 2) := by decide +kernel
theorem dL_law_199 : decode cL_law 199 = .ok (.invokestatic 182, 3) := by decide +kernel
theorem dL_law_202 : decode cL_law 202 = .ok (.iload_n 2, 1) := by decide +kernel
theorem dL_law_203 : decode cL_law 203 = .ok (.iconst 1, 1) := by decide +kernel
theorem dL_law_204 : decode cL_law 204 = .ok (.iadd, 1) := by decide +kernel
theorem dL_law_205 : decode cL_law 205 = .ok (.if_icmp .eq 5, 3) := by decide +kernel
theorem dL_law_208 : decode cL_law 208 = .ok (.iconst 0, 1) := by decide +kernel
theorem dL_law_209 : decode cL_law 209 = .ok (.ireturn, 1) := by decide +kernel
theorem dL_law_210 : decode cL_law 210 = .ok (.iinc 2 1, 3) := by decide +kernel
theorem dL_law_213 : decode cL_law 213 = .ok (.goto (-25), 3) := by decide +kernel
theorem dL_law_216 : decode cL_law 216 = .ok (.aload_n 1, 1) := by decide +kernel
theorem dL_law_217 : decode cL_law 217 = .ok (.bipush 8, 2) := by decide +kernel
theorem dL_law_219 : decode cL_law 219 = .ok (.bipush 109, 2) := by decide +kernel
theorem dL_law_221 : decode cL_law 221 = .ok (.invokestatic 182, 3) := by decide +kernel
theorem dL_law_224 : decode cL_law 224 = .ok (.sipush (-1003), 3) := by decide +kernel
theorem dL_law_227 : decode cL_law 227 = .ok (.if_icmp .ne 106, 3) := by decide +kernel
theorem dL_law_230 : decode cL_law 230 = .ok (.aload_n 1, 1) := by decide +kernel
theorem dL_law_231 : decode cL_law 231 = .ok (.bipush 8, 2) := by decide +kernel
theorem dL_law_233 : decode cL_law 233 = .ok (.invokestatic 252, 3) := by decide +kernel
theorem dL_law_236 : decode cL_law 236 = .ok (.bipush 6, 2) := by decide +kernel
theorem dL_law_238 : decode cL_law 238 = .ok (.if_icmp .ne 95, 3) := by decide +kernel
theorem dL_law_241 : decode cL_law 241 = .ok (.aload_n 1, 1) := by decide +kernel
theorem dL_law_242 : decode cL_law 242 = .ok (.bipush 8, 2) := by decide +kernel
theorem dL_law_244 : decode cL_law 244 = .ok (.invokestatic 254, 3) := by decide +kernel
theorem dL_law_247 : decode cL_law 247 = .ok (.bipush 9, 2) := by decide +kernel
theorem dL_law_249 : decode cL_law 249 = .ok (.if_icmp .ne 84, 3) := by decide +kernel
theorem dL_law_252 : decode cL_law 252 = .ok (.aload_n 1, 1) := by decide +kernel
theorem dL_law_253 : decode cL_law 253 = .ok (.bipush 8, 2) := by decide +kernel
theorem dL_law_255 : decode cL_law 255 = .ok (.invokestatic 256, 3) := by decide +kernel
theorem dL_law_258 : decode cL_law 258 = .ok (.bipush 14, 2) := by decide +kernel
theorem dL_law_260 : decode cL_law 260 = .ok (.if_icmp .ne 73, 3) := by decide +kernel
theorem dL_law_263 : decode cL_law 263 = .ok (.aload_n 1, 1) := by decide +kernel
theorem dL_law_264 : decode cL_law 264 = .ok (.bipush 8, 2) := by decide +kernel
theorem dL_law_266 : decode cL_law 266 = .ok (.iconst 4, 1) := by decide +kernel
theorem dL_law_267 : decode cL_law 267 = .ok (.iconst 3, 1) := by decide +kernel
theorem dL_law_268 : decode cL_law 268 = .ok (.invokestatic 185, 3) := by decide +kernel
theorem dL_law_271 : decode cL_law 271 = .ok (.ifCond .ne 62, 3) := by decide +kernel
theorem dL_law_274 : decode cL_law 274 = .ok (.aload_n 1, 1) := by decide +kernel
theorem dL_law_275 : decode cL_law 275 = .ok (.bipush 7, 2) := by decide +kernel
theorem dL_law_277 : decode cL_law 277 = .ok (.iconst 4, 1) := by decide +kernel
theorem dL_law_278 : decode cL_law 278 = .ok (.iconst 0, 1) := by decide +kernel
theorem dL_law_279 : decode cL_law 279 = .ok (.invokestatic 185, 3) := by decide +kernel
theorem dL_law_282 : decode cL_law 282 = .ok (.sipush (-1003), 3) := by decide +kernel
theorem dL_law_285 : decode cL_law 285 = .ok (.if_icmp .ne 48, 3) := by decide +kernel
theorem dL_law_288 : decode cL_law 288 = .ok (.aload_n 1, 1) := by decide +kernel
theorem dL_law_289 : decode cL_law 289 = .ok (.bipush 7, 2) := by decide +kernel
theorem dL_law_291 : decode cL_law 291 = .ok (.iconst 5, 1) := by decide +kernel
theorem dL_law_292 : decode cL_law 292 = .ok (.iconst 0, 1) := by decide +kernel
theorem dL_law_293 : decode cL_law 293 = .ok (.invokestatic 185, 3) := by decide +kernel
theorem dL_law_296 : decode cL_law 296 = .ok (.sipush (-1004), 3) := by decide +kernel
theorem dL_law_299 : decode cL_law 299 = .ok (.if_icmp .ne 34, 3) := by decide +kernel
theorem dL_law_302 : decode cL_law 302 = .ok (.aload_n 1, 1) := by decide +kernel
theorem dL_law_303 : decode cL_law 303 = .ok (.bipush 7, 2) := by decide +kernel
theorem dL_law_305 : decode cL_law 305 = .ok (.bipush 8, 2) := by decide +kernel
theorem dL_law_307 : decode cL_law 307 = .ok (.iconst 2, 1) := by decide +kernel
theorem dL_law_308 : decode cL_law 308 = .ok (.invokestatic 185, 3) := by decide +kernel
theorem dL_law_311 : decode cL_law 311 = .ok (.ifCond .ne 22, 3) := by decide +kernel
theorem dL_law_314 : decode cL_law 314 = .ok (.aload_n 1, 1) := by decide +kernel
theorem dL_law_315 : decode cL_law 315 = .ok (.iconst 4, 1) := by decide +kernel
theorem dL_law_316 : decode cL_law 316 = .ok (.invokestatic 258, 3) := by decide +kernel
theorem dL_law_319 : decode cL_law 319 = .ok (.bipush 8, 2) := by decide +kernel
theorem dL_law_321 : decode cL_law 321 = .ok (.if_icmp .ne 12, 3) := by decide +kernel
theorem dL_law_324 : decode cL_law 324 = .ok (.aload_n 1, 1) := by decide +kernel
theorem dL_law_325 : decode cL_law 325 = .ok (.invokevirtual 288, 3) := by decide +kernel
theorem dL_law_328 : decode cL_law 328 = .ok (.bipush 8, 2) := by decide +kernel
theorem dL_law_330 : decode cL_law 330 = .ok (.if_icmp .eq 5, 3) := by decide +kernel
theorem dL_law_333 : decode cL_law 333 = .ok (.iconst 0, 1) := by decide +kernel
theorem dL_law_334 : decode cL_law 334 = .ok (.ireturn, 1) := by decide +kernel
theorem dL_law_335 : decode cL_law 335 = .ok (.aload_n 1, 1) := by decide +kernel
theorem dL_law_336 : decode cL_law 336 = .ok (.invokestatic 341, 3) := by decide +kernel
theorem dL_law_339 : decode cL_law 339 = .ok (.bipush 7, 2) := by decide +kernel
theorem dL_law_341 : decode cL_law 341 = .ok (.if_icmp .ne 168, 3) := by decide +kernel
theorem dL_law_344 : decode cL_law 344 = .ok (.aload_n 1, 1) := by decide +kernel
theorem dL_law_345 : decode cL_law 345 = .ok (.iconst 4, 1) := by decide +kernel
theorem dL_law_346 : decode cL_law 346 = .ok (.invokestatic 307, 3) := by decide +kernel
theorem dL_law_349 : decode cL_law 349 = .ok (.bipush 8, 2) := by decide +kernel
theorem dL_law_351 : decode cL_law 351 = .ok (.if_icmp .ne 158, 3) := by decide +kernel
theorem dL_law_354 : decode cL_law 354 = .ok (.aload_n 1, 1) := by decide +kernel
theorem dL_law_355 : decode cL_law 355 = .ok (.iconst 4, 1) := by decide +kernel
theorem dL_law_356 : decode cL_law 356 = .ok (.invokestatic 309, 3) := by decide +kernel
theorem dL_law_359 : decode cL_law 359 = .ok (.iconst 3, 1) := by decide +kernel
theorem dL_law_360 : decode cL_law 360 = .ok (.if_icmp .ne 149, 3) := by decide +kernel
theorem dL_law_363 : decode cL_law 363 = .ok (.aload_n 1, 1) := by decide +kernel
theorem dL_law_364 : decode cL_law 364 = .ok (.invokestatic 341, 3) := by decide +kernel
theorem dL_law_367 : decode cL_law 367 = .ok (.bipush 6, 2) := by decide +kernel
theorem dL_law_369 : decode cL_law 369 = .ok (.if_icmp .ne 140, 3) := by decide +kernel
theorem dL_law_372 : decode cL_law 372 = .ok (.aload_n 1, 1) := by decide +kernel
theorem dL_law_373 : decode cL_law 373 = .ok (.bipush 8, 2) := by decide +kernel
theorem dL_law_375 : decode cL_law 375 = .ok (.invokestatic 307, 3) := by decide +kernel
theorem dL_law_378 : decode cL_law 378 = .ok (.sipush (-1002), 3) := by decide +kernel
theorem dL_law_381 : decode cL_law 381 = .ok (.if_icmp .ne 128, 3) := by decide +kernel
theorem dL_law_384 : decode cL_law 384 = .ok (.aload_n 1, 1) := by decide +kernel
theorem dL_law_385 : decode cL_law 385 = .ok (.invokestatic 341, 3) := by decide +kernel
theorem dL_law_388 : decode cL_law 388 = .ok (.iconst 5, 1) := by decide +kernel
theorem dL_law_389 : decode cL_law 389 = .ok (.if_icmp .ne 120, 3) := by decide +kernel
theorem dL_law_392 : decode cL_law 392 = .ok (.aload_n 1, 1) := by decide +kernel
theorem dL_law_393 : decode cL_law 393 = .ok (.iconst 4, 1) := by decide +kernel
theorem dL_law_394 : decode cL_law 394 = .ok (.invokestatic 307, 3) := by decide +kernel
theorem dL_law_397 : decode cL_law 397 = .ok (.sipush (-1002), 3) := by decide +kernel
theorem dL_law_400 : decode cL_law 400 = .ok (.if_icmp .ne 109, 3) := by decide +kernel
theorem dL_law_403 : decode cL_law 403 = .ok (.aload_n 1, 1) := by decide +kernel
theorem dL_law_404 : decode cL_law 404 = .ok (.invokestatic 341, 3) := by decide +kernel
theorem dL_law_407 : decode cL_law 407 = .ok (.iconst 4, 1) := by decide +kernel
theorem dL_law_408 : decode cL_law 408 = .ok (.if_icmp .ne 101, 3) := by decide +kernel
theorem dL_law_411 : decode cL_law 411 = .ok (.aload_n 1, 1) := by decide +kernel
theorem dL_law_412 : decode cL_law 412 = .ok (.bipush 8, 2) := by decide +kernel
theorem dL_law_414 : decode cL_law 414 = .ok (.invokestatic 295, 3) := by decide +kernel
theorem dL_law_417 : decode cL_law 417 = .ok (.bipush 6, 2) := by decide +kernel
theorem dL_law_419 : decode cL_law 419 = .ok (.if_icmp .ne 90, 3) := by decide +kernel
theorem dL_law_422 : decode cL_law 422 = .ok (.aload_n 1, 1) := by decide +kernel
theorem dL_law_423 : decode cL_law 423 = .ok (.invokevirtual 214, 3) := by decide +kernel
theorem dL_law_426 : decode cL_law 426 = .ok (.bipush 20, 2) := by decide +kernel
theorem dL_law_428 : decode cL_law 428 = .ok (.if_icmp .ne 81, 3) := by decide +kernel
theorem dL_law_431 : decode cL_law 431 = .ok (.aload_n 1, 1) := by decide +kernel
theorem dL_law_432 : decode cL_law 432 = .ok (.invokestatic 341, 3) := by decide +kernel
theorem dL_law_435 : decode cL_law 435 = .ok (.iconst 3, 1) := by decide +kernel
theorem dL_law_436 : decode cL_law 436 = .ok (.if_icmp .ne 73, 3) := by decide +kernel
theorem dL_law_439 : decode cL_law 439 = .ok (.aload_n 1, 1) := by decide +kernel
theorem dL_law_440 : decode cL_law 440 = .ok (.bipush 8, 2) := by decide +kernel
theorem dL_law_442 : decode cL_law 442 = .ok (.invokestatic 291, 3) := by decide +kernel
theorem dL_law_445 : decode cL_law 445 = .ok (.iconst 1, 1) := by decide +kernel
theorem dL_law_446 : decode cL_law 446 = .ok (.if_icmp .ne 63, 3) := by decide +kernel
theorem dL_law_449 : decode cL_law 449 = .ok (.aload_n 1, 1) := by decide +kernel
theorem dL_law_450 : decode cL_law 450 = .ok (.invokestatic 341, 3) := by decide +kernel
theorem dL_law_453 : decode cL_law 453 = .ok (.iconst 2, 1) := by decide +kernel
theorem dL_law_454 : decode cL_law 454 = .ok (.if_icmp .ne 55, 3) := by decide +kernel
theorem dL_law_457 : decode cL_law 457 = .ok (.aload_n 1, 1) := by decide +kernel
theorem dL_law_458 : decode cL_law 458 = .ok (.invokevirtual 217, 3) := by decide +kernel
theorem dL_law_461 : decode cL_law 461 = .ok (.ifCond .ne 48, 3) := by decide +kernel
theorem dL_law_464 : decode cL_law 464 = .ok (.aload_n 1, 1) := by decide +kernel
theorem dL_law_465 : decode cL_law 465 = .ok (.invokestatic 341, 3) := by decide +kernel
theorem dL_law_468 : decode cL_law 468 = .ok (.iconst 1, 1) := by decide +kernel
theorem dL_law_469 : decode cL_law 469 = .ok (.if_icmp .ne 40, 3) := by decide +kernel
theorem dL_law_472 : decode cL_law 472 = .ok (.aload_n 1, 1) := by decide +kernel
theorem dL_law_473 : decode cL_law 473 = .ok (.bipush 8, 2) := by decide +kernel
theorem dL_law_475 : decode cL_law 475 = .ok (.invokestatic 242, 3) := by decide +kernel
theorem dL_law_478 : decode cL_law 478 = .ok (.iconst 5, 1) := by decide +kernel
theorem dL_law_479 : decode cL_law 479 = .ok (.if_icmp .ne 30, 3) := by decide +kernel
theorem dL_law_482 : decode cL_law 482 = .ok (.aload_n 1, 1) := by decide +kernel
theorem dL_law_483 : decode cL_law 483 = .ok (.invokestatic 341, 3) := by decide +kernel
theorem dL_law_486 : decode cL_law 486 = .ok (.ifCond .ne 23, 3) := by decide +kernel
theorem dL_law_489 : decode cL_law 489 = .ok (.aload_n 1, 1) := by decide +kernel
theorem dL_law_490 : decode cL_law 490 = .ok (.bipush 8, 2) := by decide +kernel
theorem dL_law_492 : decode cL_law 492 = .ok (.invokestatic 242, 3) := by decide +kernel
theorem dL_law_495 : decode cL_law 495 = .ok (.iconst 4, 1) := by decide +kernel
theorem dL_law_496 : decode cL_law 496 = .ok (.if_icmp .ne 13, 3) := by decide +kernel
theorem dL_law_499 : decode cL_law 499 = .ok (.aload_n 1, 1) := by decide +kernel
theorem dL_law_500 : decode cL_law 500 = .ok (.invokestatic 341, 3) := by decide +kernel
theorem dL_law_503 : decode cL_law 503 = .ok (.sipush (-1001), 3) := by decide +kernel
theorem dL_law_506 : decode cL_law 506 = .ok (.if_icmp .eq 5, 3) := by decide +kernel
theorem dL_law_509 : decode cL_law 509 = .ok (.iconst 0, 1) := by decide +kernel
theorem dL_law_510 : decode cL_law 510 = .ok (.ireturn, 1) := by decide +kernel
theorem dL_law_511 : decode cL_law 511 = .ok (.aload_n 1, 1) := by decide +kernel
theorem dL_law_512 : decode cL_law 512 = .ok (.invokestatic 343, 3) := by decide +kernel
theorem dL_law_515 : decode cL_law 515 = .ok (.ifCond .ne 27, 3) := by decide +kernel
theorem dL_law_518 : decode cL_law 518 = .ok (.aload_n 1, 1) := by decide +kernel
theorem dL_law_519 : decode cL_law 519 = .ok (.invokevirtual 190, 3) := by decide +kernel
theorem dL_law_522 : decode cL_law 522 = .ok (.ifCond .ne 20, 3) := by decide +kernel
theorem dL_law_525 : decode cL_law 525 = .ok (.aload_n 1, 1) := by decide +kernel
theorem dL_law_526 : decode cL_law 526 = .ok (.invokevirtual 214, 3) := by decide +kernel
theorem dL_law_529 : decode cL_law 529 = .ok (.ifCond .ne 13, 3) := by decide +kernel
theorem dL_law_532 : decode cL_law 532 = .ok (.aload_n 1, 1) := by decide +kernel
theorem dL_law_533 : decode cL_law 533 = .ok (.invokestatic 341, 3) := by decide +kernel
theorem dL_law_536 : decode cL_law 536 = .ok (.sipush (-1001), 3) := by decide +kernel
theorem dL_law_539 : decode cL_law 539 = .ok (.if_icmp .eq 5, 3) := by decide +kernel
theorem dL_law_542 : decode cL_law 542 = .ok (.iconst 0, 1) := by decide +kernel
theorem dL_law_543 : decode cL_law 543 = .ok (.ireturn, 1) := by decide +kernel
theorem dL_law_544 : decode cL_law 544 = .ok (.new 8, 3) := by decide +kernel
theorem dL_law_547 : decode cL_law 547 = .ok (.dup, 1) := by decide +kernel
theorem dL_law_548 : decode cL_law 548 = .ok (.invokespecial 340, 3) := by decide +kernel
theorem dL_law_551 : decode cL_law 551 = .ok (.astore_n 2, 1) := by decide +kernel
theorem dL_law_552 : decode cL_law 552 = .ok (.aload_n 2, 1) := by decide +kernel
theorem dL_law_553 : decode cL_law 553 = .ok (.aload_n 0, 1) := by decide +kernel
theorem dL_law_554 : decode cL_law 554 = .ok (.invokestatic 348, 3) := by decide +kernel
theorem dL_law_557 : decode cL_law 557 = .ok (.ifCond .ne 5, 3) := by decide +kernel
theorem dL_law_560 : decode cL_law 560 = .ok (.iconst 0, 1) := by decide +kernel
theorem dL_law_561 : decode cL_law 561 = .ok (.ireturn, 1) := by decide +kernel
theorem dL_law_562 : decode cL_law 562 = .ok (.aload_n 2, 1) := by decide +kernel
theorem dL_law_563 : decode cL_law 563 = .ok (.invokestatic 284, 3) := by decide +kernel
theorem dL_law_566 : decode cL_law 566 = .ok (.lstore_n 3, 1) := by decide +kernel
theorem dL_law_567 : decode cL_law 567 = .ok (.aload_n 2, 1) := by decide +kernel
theorem dL_law_568 : decode cL_law 568 = .ok (.invokestatic 284, 3) := by decide +kernel
theorem dL_law_571 : decode cL_law 571 = .ok (.lload_n 3, 1) := by decide +kernel
theorem dL_law_572 : decode cL_law 572 = .ok (.lcmp, 1) := by decide +kernel
theorem dL_law_573 : decode cL_law 573 = .ok (.ifCond .ne 10, 3) := by decide +kernel
theorem dL_law_576 : decode cL_law 576 = .ok (.aload_n 2, 1) := by decide +kernel
theorem dL_law_577 : decode cL_law 577 = .ok (.invokestatic 352, 3) := by decide +kernel
theorem dL_law_580 : decode cL_law 580 = .ok (.ifCond .ne 5, 3) := by decide +kernel
theorem dL_law_583 : decode cL_law 583 = .ok (.iconst 0, 1) := by decide +kernel
theorem dL_law_584 : decode cL_law 584 = .ok (.ireturn, 1) := by decide +kernel
theorem dL_law_585 : decode cL_law 585 = .ok (.aload_n 2, 1) := by decide +kernel
theorem dL_law_586 : decode cL_law 586 = .ok (.invokevirtual 345, 3) := by decide +kernel
theorem dL_law_589 : decode cL_law 589 = .ok (.istore 5, 2) := by decide +kernel
theorem dL_law_591 : decode cL_law 591 = .ok (.iload 5, 2) := by decide +kernel
theorem dL_law_593 : decode cL_law 593 = .ok (.aload_n 2, 1) := by decide +kernel
theorem dL_law_594 : decode cL_law 594 = .ok (.invokevirtual 190, 3) := by decide +kernel
theorem dL_law_597 : decode cL_law 597 = .ok (.if_icmp .ne 28, 3) := by decide +kernel
theorem dL_law_600 : decode cL_law 600 = .ok (.aload_n 2, 1) := by decide +kernel
theorem dL_law_601 : decode cL_law 601 = .ok (.invokestatic 284, 3) := by decide +kernel
theorem dL_law_604 : decode cL_law 604 = .ok (.lload_n 3, 1) := by decide +kernel
theorem dL_law_605 : decode cL_law 605 = .ok (.lcmp, 1) := by decide +kernel
theorem dL_law_606 : decode cL_law 606 = .ok (.ifCond .ne 19, 3) := by decide +kernel
theorem dL_law_609 : decode cL_law 609 = .ok (.aload_n 2, 1) := by decide +kernel
theorem dL_law_610 : decode cL_law 610 = .ok (.invokestatic 343, 3) := by decide +kernel
theorem dL_law_613 : decode cL_law 613 = .ok (.iload 5, 2) := by decide +kernel
theorem dL_law_615 : decode cL_law 615 = .ok (.if_icmp .ne 10, 3) := by decide +kernel
theorem dL_law_618 : decode cL_law 618 = .ok (.aload_n 2, 1) := by decide +kernel
theorem dL_law_619 : decode cL_law 619 = .ok (.invokevirtual 288, 3) := by decide +kernel
theorem dL_law_622 : decode cL_law 622 = .ok (.ifCond .eq 5, 3) := by decide +kernel
theorem dL_law_625 : decode cL_law 625 = .ok (.iconst 0, 1) := by decide +kernel
theorem dL_law_626 : decode cL_law 626 = .ok (.ireturn, 1) := by decide +kernel
theorem dL_law_627 : decode cL_law 627 = .ok (.bipush 9, 2) := by decide +kernel
theorem dL_law_629 : decode cL_law 629 = .ok (.newarray .long, 2) := by decide +kernel
theorem dL_law_631 : decode cL_law 631 = .ok (.astore 6, 2) := by decide +kernel
theorem dL_law_633 : decode cL_law 633 = .ok (.iconst 0, 1) := by decide +kernel
theorem dL_law_634 : decode cL_law 634 = .ok (.istore 7, 2) := by decide +kernel
theorem dL_law_636 : decode cL_law 636 = .ok (.iconst 0, 1) := by decide +kernel
theorem dL_law_637 : decode cL_law 637 = .ok (.istore 8, 2) := by decide +kernel
theorem dL_law_639 : decode cL_law 639 = .ok (.iload 8, 2) := by decide +kernel
theorem dL_law_641 : decode cL_law 641 = .ok (.bipush 8, 2) := by decide +kernel
theorem dL_law_643 : decode cL_law 643 = .ok (.if_icmp .ge 74, 3) := by decide +kernel
theorem dL_law_646 : decode cL_law 646 = .ok (.aload_n 2, 1) := by decide +kernel
theorem dL_law_647 : decode cL_law 647 = .ok (.invokestatic 284, 3) := by decide +kernel
theorem dL_law_650 : decode cL_law 650 = .ok (.lstore 9, 2) := by decide +kernel
theorem dL_law_652 : decode cL_law 652 = .ok (.aload_n 2, 1) := by decide +kernel
theorem dL_law_653 : decode cL_law 653 = .ok (.aload_n 0, 1) := by decide +kernel
theorem dL_law_654 : decode cL_law 654 = .ok (.bipush 20, 2) := by decide +kernel
theorem dL_law_656 : decode cL_law 656 = .ok (.iload 8, 2) := by decide +kernel
theorem dL_law_658 : decode cL_law 658 = .ok (.iadd, 1) := by decide +kernel
theorem dL_law_659 : decode cL_law 659 = .ok (.invokestatic 170, 3) := by decide +kernel
theorem dL_law_662 : decode cL_law 662 = .ok (.iload 8, 2) := by decide +kernel
theorem dL_law_664 : decode cL_law 664 = .ok (.sipush 977, 3) := by decide +kernel
theorem dL_law_667 : decode cL_law 667 = .ok (.imul, 1) := by decide +kernel
theorem dL_law_668 : decode cL_law 668 = .ok (.ixor, 1) := by decide +kernel
theorem dL_law_669 : decode cL_law 669 = .ok (.invokestatic 356, 3) := by decide +kernel
theorem dL_law_672 : decode cL_law 672 = .ok (.ifCond .eq 16, 3) := by decide +kernel
theorem dL_law_675 : decode cL_law 675 = .ok (.aload 6, 2) := by decide +kernel
theorem dL_law_677 : decode cL_law 677 = .ok (.iload 7, 2) := by decide +kernel
theorem dL_law_679 : decode cL_law 679 = .ok (.iinc 7 1, 3) := by decide +kernel
theorem dL_law_682 : decode cL_law 682 = .ok (.lload 9, 2) := by decide +kernel
theorem dL_law_684 : decode cL_law 684 = .ok (.lastore, 1) := by decide +kernel
theorem dL_law_685 : decode cL_law 685 = .ok (.goto 15, 3) := by decide +kernel
theorem dL_law_688 : decode cL_law 688 = .ok (.aload_n 2, 1) := by decide +kernel
theorem dL_law_689 : decode cL_law 689 = .ok (.invokestatic 284, 3) := by decide +kernel
theorem dL_law_692 : decode cL_law 692 = .ok (.lload 9, 2) := by decide +kernel
theorem dL_law_694 : decode cL_law 694 = .ok (.lcmp, 1) := by decide +kernel
theorem dL_law_695 : decode cL_law 695 = .ok (.ifCond .eq 5, 3) := by decide +kernel
theorem dL_law_698 : decode cL_law 698 = .ok (.iconst 0, 1) := by decide +kernel
theorem dL_law_699 : decode cL_law 699 = .ok (.ireturn, 1) := by decide +kernel
theorem dL_law_700 : decode cL_law 700 = .ok (.aload_n 2, 1) := by decide +kernel
theorem dL_law_701 : decode cL_law 701 = .ok (.invokevirtual 288, 3) := by decide +kernel
theorem dL_law_704 : decode cL_law 704 = .ok (.iload 7, 2) := by decide +kernel
theorem dL_law_706 : decode cL_law 706 = .ok (.if_icmp .eq 5, 3) := by decide +kernel
theorem dL_law_709 : decode cL_law 709 = .ok (.iconst 0, 1) := by decide +kernel
theorem dL_law_710 : decode cL_law 710 = .ok (.ireturn, 1) := by decide +kernel
theorem dL_law_711 : decode cL_law 711 = .ok (.iinc 8 1, 3) := by decide +kernel
theorem dL_law_714 : decode cL_law 714 = .ok (.goto (-75), 3) := by decide +kernel
theorem dL_law_717 : decode cL_law 717 = .ok (.iconst 1, 1) := by decide +kernel
theorem dL_law_718 : decode cL_law 718 = .ok (.istore 8, 2) := by decide +kernel
theorem dL_law_720 : decode cL_law 720 = .ok (.iload 8, 2) := by decide +kernel
theorem dL_law_722 : decode cL_law 722 = .ok (.iload 7, 2) := by decide +kernel
theorem dL_law_724 : decode cL_law 724 = .ok (.if_icmp .gt 39, 3) := by decide +kernel
theorem dL_law_727 : decode cL_law 727 = .ok (.aload_n 2, 1) := by decide +kernel
theorem dL_law_728 : decode cL_law 728 = .ok (.invokestatic 341, 3) := by decide +kernel
theorem dL_law_731 : decode cL_law 731 = .ok (.iload 7, 2) := by decide +kernel
theorem dL_law_733 : decode cL_law 733 = .ok (.iload 8, 2) := by decide +kernel
theorem dL_law_735 : decode cL_law 735 = .ok (.isub, 1) := by decide +kernel
theorem dL_law_736 : decode cL_law 736 = .ok (.if_icmp .ne 19, 3) := by decide +kernel
theorem dL_law_739 : decode cL_law 739 = .ok (.aload_n 2, 1) := by decide +kernel
theorem dL_law_740 : decode cL_law 740 = .ok (.invokestatic 284, 3) := by decide +kernel
theorem dL_law_743 : decode cL_law 743 = .ok (.aload 6, 2) := by decide +kernel
theorem dL_law_745 : decode cL_law 745 = .ok (.iload 7, 2) := by decide +kernel
theorem dL_law_747 : decode cL_law 747 = .ok (.iload 8, 2) := by decide +kernel
theorem dL_law_749 : decode cL_law 749 = .ok (.isub, 1) := by decide +kernel
theorem dL_law_750 : decode cL_law 750 = .ok (.laload, 1) := by decide +kernel
theorem dL_law_751 : decode cL_law 751 = .ok (.lcmp, 1) := by decide +kernel
theorem dL_law_752 : decode cL_law 752 = .ok (.ifCond .eq 5, 3) := by decide +kernel
theorem dL_law_755 : decode cL_law 755 = .ok (.iconst 0, 1) := by decide +kernel
theorem dL_law_756 : decode cL_law 756 = .ok (.ireturn, 1) := by decide +kernel
theorem dL_law_757 : decode cL_law 757 = .ok (.iinc 8 1, 3) := by decide +kernel
theorem dL_law_760 : decode cL_law 760 = .ok (.goto (-40), 3) := by decide +kernel
theorem dL_law_763 : decode cL_law 763 = .ok (.aload_n 2, 1) := by decide +kernel
theorem dL_law_764 : decode cL_law 764 = .ok (.invokestatic 341, 3) := by decide +kernel
theorem dL_law_767 : decode cL_law 767 = .ok (.sipush (-1001), 3) := by decide +kernel
theorem dL_law_770 : decode cL_law 770 = .ok (.if_icmp .ne 35, 3) := by decide +kernel
theorem dL_law_773 : decode cL_law 773 = .ok (.aload_n 2, 1) := by decide +kernel
theorem dL_law_774 : decode cL_law 774 = .ok (.invokestatic 343, 3) := by decide +kernel
theorem dL_law_777 : decode cL_law 777 = .ok (.iload 5, 2) := by decide +kernel
theorem dL_law_779 : decode cL_law 779 = .ok (.if_icmp .ne 26, 3) := by decide +kernel
theorem dL_law_782 : decode cL_law 782 = .ok (.aload_n 2, 1) := by decide +kernel
theorem dL_law_783 : decode cL_law 783 = .ok (.invokestatic 284, 3) := by decide +kernel
theorem dL_law_786 : decode cL_law 786 = .ok (.lload_n 3, 1) := by decide +kernel
theorem dL_law_787 : decode cL_law 787 = .ok (.lcmp, 1) := by decide +kernel
theorem dL_law_788 : decode cL_law 788 = .ok (.ifCond .ne 17, 3) := by decide +kernel
theorem dL_law_791 : decode cL_law 791 = .ok (.aload_n 2, 1) := by decide +kernel
theorem dL_law_792 : decode cL_law 792 = .ok (.invokestatic 341, 3) := by decide +kernel
theorem dL_law_795 : decode cL_law 795 = .ok (.sipush (-1001), 3) := by decide +kernel
theorem dL_law_798 : decode cL_law 798 = .ok (.if_icmp .ne 7, 3) := by decide +kernel
theorem dL_law_801 : decode cL_law 801 = .ok (.iconst 1, 1) := by decide +kernel
theorem dL_law_802 : decode cL_law 802 = .ok (.goto 4, 3) := by decide +kernel
theorem dL_law_805 : decode cL_law 805 = .ok (.iconst 0, 1) := by decide +kernel
theorem dL_law_806 : decode cL_law 806 = .ok (.ireturn, 1) := by decide +kernel
theorem dJ5_init_d00df_0 : decode cJ5_init_d00df 0 = .ok (.aload_n 0, 1) := by decide +kernel
theorem dJ5_init_d00df_1 : decode cJ5_init_d00df 1 = .ok (.invokespecial 3, 3) := by decide +kernel
theorem dJ5_init_d00df_4 : decode cJ5_init_d00df 4 = .ok (.getstatic 18, 3) := by decide +kernel
theorem dJ5_init_d00df_7 : decode cJ5_init_d00df 7 = .ok (.ifCond .eq 18, 3) := by decide +kernel
theorem dJ5_init_d00df_10 : decode cJ5_init_d00df 10 = .ok (.aload_n 0, 1) := by decide +kernel
theorem dJ5_init_d00df_11 : decode cJ5_init_d00df 11 = .ok (.iload_n 1, 1) := by decide +kernel
theorem dJ5_init_d00df_12 : decode cJ5_init_d00df 12 = .ok (.newarray .byte, 2) := by decide +kernel
theorem dJ5_init_d00df_14 : decode cJ5_init_d00df 14 = .ok (.putfield 15, 3) := by decide +kernel
theorem dJ5_init_d00df_17 : decode cJ5_init_d00df 17 = .ok (.aload_n 0, 1) := by decide +kernel
theorem dJ5_init_d00df_18 : decode cJ5_init_d00df 18 = .ok (.iconst 0, 1) := by decide +kernel
theorem dJ5_init_d00df_19 : decode cJ5_init_d00df 19 = .ok (.putfield 22, 3) := by decide +kernel
theorem dJ5_init_d00df_22 : decode cJ5_init_d00df 22 = .ok (.goto 16, 3) := by decide +kernel
theorem dJ5_init_d00df_25 : decode cJ5_init_d00df 25 = .ok (.aload_n 0, 1) := by decide +kernel
theorem dJ5_init_d00df_26 : decode cJ5_init_d00df 26 = .ok (.iload_n 1, 1) := by decide +kernel
theorem dJ5_init_d00df_27 : decode cJ5_init_d00df 27 = .ok (.invokestatic 26, 3) := by decide +kernel
theorem dJ5_init_d00df_30 : decode cJ5_init_d00df 30 = .ok (.putfield 15, 3) := by decide +kernel
theorem dJ5_init_d00df_33 : decode cJ5_init_d00df 33 = .ok (.aload_n 0, 1) := by decide +kernel
theorem dJ5_init_d00df_34 : decode cJ5_init_d00df 34 = .ok (.iconst 1, 1) := by decide +kernel
theorem dJ5_init_d00df_35 : decode cJ5_init_d00df 35 = .ok (.putfield 22, 3) := by decide +kernel
theorem dJ5_init_d00df_38 : decode cJ5_init_d00df 38 = .ok (.return_, 1) := by decide +kernel
theorem dJ5_length_8abf5_0 : decode cJ5_length_8abf5 0 = .ok (.aload_n 0, 1) := by decide +kernel
theorem dJ5_length_8abf5_1 : decode cJ5_length_8abf5 1 = .ok (.getfield 79, 3) := by decide +kernel
theorem dJ5_length_8abf5_4 : decode cJ5_length_8abf5 4 = .ok (.ireturn, 1) := by decide +kernel
theorem dJ5_ensureCapacityInternal_d00df_0 : decode cJ5_ensureCapacityInternal_d00df 0 = .ok (.aload_n 0, 1) := by decide +kernel
theorem dJ5_ensureCapacityInternal_d00df_1 : decode cJ5_ensureCapacityInternal_d00df 1 = .ok (.getfield 15, 3) := by decide +kernel
theorem dJ5_ensureCapacityInternal_d00df_4 : decode cJ5_ensureCapacityInternal_d00df 4 = .ok (.arraylength, 1) := by decide +kernel
theorem dJ5_ensureCapacityInternal_d00df_5 : decode cJ5_ensureCapacityInternal_d00df 5 = .ok (.aload_n 0, 1) := by decide +kernel
theorem dJ5_ensureCapacityInternal_d00df_6 : decode cJ5_ensureCapacityInternal_d00df 6 = .ok (.getfield 22, 3) := by decide +kernel
theorem dJ5_ensureCapacityInternal_d00df_9 : decode cJ5_ensureCapacityInternal_d00df 9 = .ok (.ishr, 1) := by decide +kernel
theorem dJ5_ensureCapacityInternal_d00df_10 : decode cJ5_ensureCapacityInternal_d00df 10 = .ok (.istore_n 2, 1) := by decide +kernel
theorem dJ5_ensureCapacityInternal_d00df_11 : decode cJ5_ensureCapacityInternal_d00df 11 = .ok (.iload_n 1, 1) := by decide +kernel
theorem dJ5_ensureCapacityInternal_d00df_12 : decode cJ5_ensureCapacityInternal_d00df 12 = .ok (.iload_n 2, 1) := by decide +kernel
theorem dJ5_ensureCapacityInternal_d00df_13 : decode cJ5_ensureCapacityInternal_d00df 13 = .ok (.isub, 1) := by decide +kernel
theorem dJ5_ensureCapacityInternal_d00df_14 : decode cJ5_ensureCapacityInternal_d00df 14 = .ok (.ifCond .le 24, 3) := by decide +kernel
theorem dJ5_ensureCapacityInternal_d00df_17 : decode cJ5_ensureCapacityInternal_d00df 17 = .ok (.aload_n 0, 1) := by decide +kernel
theorem dJ5_ensureCapacityInternal_d00df_18 : decode cJ5_ensureCapacityInternal_d00df 18 = .ok (.aload_n 0, 1) := by decide +kernel
theorem dJ5_ensureCapacityInternal_d00df_19 : decode cJ5_ensureCapacityInternal_d00df 19 = .ok (.getfield 15, 3) := by decide +kernel
theorem dJ5_ensureCapacityInternal_d00df_22 : decode cJ5_ensureCapacityInternal_d00df 22 = .ok (.aload_n 0, 1) := by decide +kernel
theorem dJ5_ensureCapacityInternal_d00df_23 : decode cJ5_ensureCapacityInternal_d00df 23 = .ok (.iload_n 1, 1) := by decide +kernel
theorem dJ5_ensureCapacityInternal_d00df_24 : decode cJ5_ensureCapacityInternal_d00df 24 = .ok (.invokevirtual 104, 3) := by decide +kernel
theorem dJ5_ensureCapacityInternal_d00df_27 : decode cJ5_ensureCapacityInternal_d00df 27 = .ok (.aload_n 0, 1) := by decide +kernel
theorem dJ5_ensureCapacityInternal_d00df_28 : decode cJ5_ensureCapacityInternal_d00df 28 = .ok (.getfield 22, 3) := by decide +kernel
theorem dJ5_ensureCapacityInternal_d00df_31 : decode cJ5_ensureCapacityInternal_d00df 31 = .ok (.ishl, 1) := by decide +kernel
theorem dJ5_ensureCapacityInternal_d00df_32 : decode cJ5_ensureCapacityInternal_d00df 32 = .ok (.invokestatic 108, 3) := by decide +kernel
theorem dJ5_ensureCapacityInternal_d00df_35 : decode cJ5_ensureCapacityInternal_d00df 35 = .ok (.putfield 15, 3) := by decide +kernel
theorem dJ5_ensureCapacityInternal_d00df_38 : decode cJ5_ensureCapacityInternal_d00df 38 = .ok (.return_, 1) := by decide +kernel
theorem dJ5_newCapacity_0f7a4_0 : decode cJ5_newCapacity_0f7a4 0 = .ok (.aload_n 0, 1) := by decide +kernel
theorem dJ5_newCapacity_0f7a4_1 : decode cJ5_newCapacity_0f7a4 1 = .ok (.getfield 15, 3) := by decide +kernel
theorem dJ5_newCapacity_0f7a4_4 : decode cJ5_newCapacity_0f7a4 4 = .ok (.arraylength, 1) := by decide +kernel
theorem dJ5_newCapacity_0f7a4_5 : decode cJ5_newCapacity_0f7a4 5 = .ok (.istore_n 2, 1) := by decide +kernel
theorem dJ5_newCapacity_0f7a4_6 : decode cJ5_newCapacity_0f7a4 6 = .ok (.iload_n 1, 1) := by decide +kernel
theorem dJ5_newCapacity_0f7a4_7 : decode cJ5_newCapacity_0f7a4 7 = .ok (.aload_n 0, 1) := by decide +kernel
theorem dJ5_newCapacity_0f7a4_8 : decode cJ5_newCapacity_0f7a4 8 = .ok (.getfield 22, 3) := by decide +kernel
theorem dJ5_newCapacity_0f7a4_11 : decode cJ5_newCapacity_0f7a4 11 = .ok (.ishl, 1) := by decide +kernel
theorem dJ5_newCapacity_0f7a4_12 : decode cJ5_newCapacity_0f7a4 12 = .ok (.istore_n 3, 1) := by decide +kernel
theorem dJ5_newCapacity_0f7a4_13 : decode cJ5_newCapacity_0f7a4 13 = .ok (.iload_n 3, 1) := by decide +kernel
theorem dJ5_newCapacity_0f7a4_14 : decode cJ5_newCapacity_0f7a4 14 = .ok (.iload_n 2, 1) := by decide +kernel
theorem dJ5_newCapacity_0f7a4_15 : decode cJ5_newCapacity_0f7a4 15 = .ok (.isub, 1) := by decide +kernel
theorem dJ5_newCapacity_0f7a4_16 : decode cJ5_newCapacity_0f7a4 16 = .ok (.istore 4, 2) := by decide +kernel
theorem dJ5_newCapacity_0f7a4_18 : decode cJ5_newCapacity_0f7a4 18 = .ok (.iload_n 2, 1) := by decide +kernel
theorem dJ5_newCapacity_0f7a4_19 : decode cJ5_newCapacity_0f7a4 19 = .ok (.iload 4, 2) := by decide +kernel
theorem dJ5_newCapacity_0f7a4_21 : decode cJ5_newCapacity_0f7a4 21 = .ok (.iload_n 2, 1) := by decide +kernel
theorem dJ5_newCapacity_0f7a4_22 : decode cJ5_newCapacity_0f7a4 22 = .ok (.iconst 2, 1) := by decide +kernel
theorem dJ5_newCapacity_0f7a4_23 : decode cJ5_newCapacity_0f7a4 23 = .ok (.aload_n 0, 1) := by decide +kernel
theorem dJ5_newCapacity_0f7a4_24 : decode cJ5_newCapacity_0f7a4 24 = .ok (.getfield 22, 3) := by decide +kernel
theorem dJ5_newCapacity_0f7a4_27 : decode cJ5_newCapacity_0f7a4 27 = .ok (.ishl, 1) := by decide +kernel
theorem dJ5_newCapacity_0f7a4_28 : decode cJ5_newCapacity_0f7a4 28 = .ok (.iadd, 1) := by decide +kernel
theorem dJ5_newCapacity_0f7a4_29 : decode cJ5_newCapacity_0f7a4 29 = .ok (.invokestatic 114, 3) := by decide +kernel
theorem dJ5_newCapacity_0f7a4_32 : decode cJ5_newCapacity_0f7a4 32 = .ok (.istore 5, 2) := by decide +kernel
theorem dJ5_newCapacity_0f7a4_34 : decode cJ5_newCapacity_0f7a4 34 = .ok (.iload 5, 2) := by decide +kernel
theorem dJ5_newCapacity_0f7a4_36 : decode cJ5_newCapacity_0f7a4 36 = .ok (.ldc 39, 2) := by decide +kernel
theorem dJ5_newCapacity_0f7a4_38 : decode cJ5_newCapacity_0f7a4 38 = .ok (.if_icmp .ne 13, 3) := by decide +kernel
theorem dJ5_newCapacity_0f7a4_41 : decode cJ5_newCapacity_0f7a4 41 = .ok (.new 120, 3) := by decide +kernel
theorem dJ5_newCapacity_0f7a4_44 : decode cJ5_newCapacity_0f7a4 44 = .ok (.dup, 1) := by decide +kernel
theorem dJ5_newCapacity_0f7a4_45 : decode cJ5_newCapacity_0f7a4 45 = .ok (.ldc 122, 2) := by decide +kernel
theorem dJ5_newCapacity_0f7a4_47 : decode cJ5_newCapacity_0f7a4 47 = .ok (.invokespecial 124, 3) := by decide +kernel
theorem dJ5_newCapacity_0f7a4_50 : decode cJ5_newCapacity_0f7a4 50 = .ok (.athrow, 1) := by decide +kernel
theorem dJ5_newCapacity_0f7a4_51 : decode cJ5_newCapacity_0f7a4 51 = .ok (.iload 5, 2) := by decide +kernel
theorem dJ5_newCapacity_0f7a4_53 : decode cJ5_newCapacity_0f7a4 53 = .ok (.aload_n 0, 1) := by decide +kernel
theorem dJ5_newCapacity_0f7a4_54 : decode cJ5_newCapacity_0f7a4 54 = .ok (.getfield 22, 3) := by decide +kernel
theorem dJ5_newCapacity_0f7a4_57 : decode cJ5_newCapacity_0f7a4 57 = .ok (.ishr, 1) := by decide +kernel
theorem dJ5_newCapacity_0f7a4_58 : decode cJ5_newCapacity_0f7a4 58 = .ok (.ireturn, 1) := by decide +kernel
theorem dJ5_inflate_da8c8_0 : decode cJ5_inflate_da8c8 0 = .ok (.aload_n 0, 1) := by decide +kernel
theorem dJ5_inflate_da8c8_1 : decode cJ5_inflate_da8c8 1 = .ok (.invokevirtual 83, 3) := by decide +kernel
theorem dJ5_inflate_da8c8_4 : decode cJ5_inflate_da8c8 4 = .ok (.ifCond .ne 4, 3) := by decide +kernel
theorem dJ5_inflate_da8c8_7 : decode cJ5_inflate_da8c8 7 = .ok (.return_, 1) := by decide +kernel
theorem dJ5_inflate_da8c8_8 : decode cJ5_inflate_da8c8 8 = .ok (.aload_n 0, 1) := by decide +kernel
theorem dJ5_inflate_da8c8_9 : decode cJ5_inflate_da8c8 9 = .ok (.getfield 15, 3) := by decide +kernel
theorem dJ5_inflate_da8c8_12 : decode cJ5_inflate_da8c8 12 = .ok (.arraylength, 1) := by decide +kernel
theorem dJ5_inflate_da8c8_13 : decode cJ5_inflate_da8c8 13 = .ok (.invokestatic 26, 3) := by decide +kernel
theorem dJ5_inflate_da8c8_16 : decode cJ5_inflate_da8c8 16 = .ok (.astore_n 1, 1) := by decide +kernel
theorem dJ5_inflate_da8c8_17 : decode cJ5_inflate_da8c8 17 = .ok (.aload_n 0, 1) := by decide +kernel
theorem dJ5_inflate_da8c8_18 : decode cJ5_inflate_da8c8 18 = .ok (.getfield 15, 3) := by decide +kernel
theorem dJ5_inflate_da8c8_21 : decode cJ5_inflate_da8c8 21 = .ok (.iconst 0, 1) := by decide +kernel
theorem dJ5_inflate_da8c8_22 : decode cJ5_inflate_da8c8 22 = .ok (.aload_n 1, 1) := by decide +kernel
theorem dJ5_inflate_da8c8_23 : decode cJ5_inflate_da8c8 23 = .ok (.iconst 0, 1) := by decide +kernel
theorem dJ5_inflate_da8c8_24 : decode cJ5_inflate_da8c8 24 = .ok (.aload_n 0, 1) := by decide +kernel
theorem dJ5_inflate_da8c8_25 : decode cJ5_inflate_da8c8 25 = .ok (.getfield 79, 3) := by decide +kernel
theorem dJ5_inflate_da8c8_28 : decode cJ5_inflate_da8c8 28 = .ok (.invokestatic 125, 3) := by decide +kernel
theorem dJ5_inflate_da8c8_31 : decode cJ5_inflate_da8c8 31 = .ok (.aload_n 0, 1) := by decide +kernel
theorem dJ5_inflate_da8c8_32 : decode cJ5_inflate_da8c8 32 = .ok (.aload_n 1, 1) := by decide +kernel
theorem dJ5_inflate_da8c8_33 : decode cJ5_inflate_da8c8 33 = .ok (.putfield 15, 3) := by decide +kernel
theorem dJ5_inflate_da8c8_36 : decode cJ5_inflate_da8c8 36 = .ok (.aload_n 0, 1) := by decide +kernel
theorem dJ5_inflate_da8c8_37 : decode cJ5_inflate_da8c8 37 = .ok (.iconst 1, 1) := by decide +kernel
theorem dJ5_inflate_da8c8_38 : decode cJ5_inflate_da8c8 38 = .ok (.putfield 22, 3) := by decide +kernel
theorem dJ5_inflate_da8c8_41 : decode cJ5_inflate_da8c8 41 = .ok (.return_, 1) := by decide +kernel
theorem dJ5_append_cf1ce_0 : decode cJ5_append_cf1ce 0 = .ok (.aload_n 1, 1) := by decide +kernel
theorem dJ5_append_cf1ce_1 : decode cJ5_append_cf1ce 1 = .ok (.ifnonnull 8, 3) := by decide +kernel
theorem dJ5_append_cf1ce_4 : decode cJ5_append_cf1ce 4 = .ok (.aload_n 0, 1) := by decide +kernel
theorem dJ5_append_cf1ce_5 : decode cJ5_append_cf1ce 5 = .ok (.invokevirtual 204, 3) := by decide +kernel
theorem dJ5_append_cf1ce_8 : decode cJ5_append_cf1ce 8 = .ok (.areturn, 1) := by decide +kernel
theorem dJ5_append_cf1ce_9 : decode cJ5_append_cf1ce 9 = .ok (.aload_n 1, 1) := by decide +kernel
theorem dJ5_append_cf1ce_10 : decode cJ5_append_cf1ce 10 = .ok (.invokevirtual 32, 3) := by decide +kernel
theorem dJ5_append_cf1ce_13 : decode cJ5_append_cf1ce 13 = .ok (.istore_n 2, 1) := by decide +kernel
theorem dJ5_append_cf1ce_14 : decode cJ5_append_cf1ce 14 = .ok (.aload_n 0, 1) := by decide +kernel
theorem dJ5_append_cf1ce_15 : decode cJ5_append_cf1ce 15 = .ok (.aload_n 0, 1) := by decide +kernel
theorem dJ5_append_cf1ce_16 : decode cJ5_append_cf1ce 16 = .ok (.getfield 79, 3) := by decide +kernel
theorem dJ5_append_cf1ce_19 : decode cJ5_append_cf1ce 19 = .ok (.iload_n 2, 1) := by decide +kernel
theorem dJ5_append_cf1ce_20 : decode cJ5_append_cf1ce 20 = .ok (.iadd, 1) := by decide +kernel
theorem dJ5_append_cf1ce_21 : decode cJ5_append_cf1ce 21 = .ok (.invokevirtual 100, 3) := by decide +kernel
theorem dJ5_append_cf1ce_24 : decode cJ5_append_cf1ce 24 = .ok (.aload_n 0, 1) := by decide +kernel
theorem dJ5_append_cf1ce_25 : decode cJ5_append_cf1ce 25 = .ok (.aload_n 0, 1) := by decide +kernel
theorem dJ5_append_cf1ce_26 : decode cJ5_append_cf1ce 26 = .ok (.getfield 79, 3) := by decide +kernel
theorem dJ5_append_cf1ce_29 : decode cJ5_append_cf1ce 29 = .ok (.aload_n 1, 1) := by decide +kernel
theorem dJ5_append_cf1ce_30 : decode cJ5_append_cf1ce 30 = .ok (.invokevirtual 208, 3) := by decide +kernel
theorem dJ5_append_cf1ce_33 : decode cJ5_append_cf1ce 33 = .ok (.aload_n 0, 1) := by decide +kernel
theorem dJ5_append_cf1ce_34 : decode cJ5_append_cf1ce 34 = .ok (.dup, 1) := by decide +kernel
theorem dJ5_append_cf1ce_35 : decode cJ5_append_cf1ce 35 = .ok (.getfield 79, 3) := by decide +kernel
theorem dJ5_append_cf1ce_38 : decode cJ5_append_cf1ce 38 = .ok (.iload_n 2, 1) := by decide +kernel
theorem dJ5_append_cf1ce_39 : decode cJ5_append_cf1ce 39 = .ok (.iadd, 1) := by decide +kernel
theorem dJ5_append_cf1ce_40 : decode cJ5_append_cf1ce 40 = .ok (.putfield 79, 3) := by decide +kernel
theorem dJ5_append_cf1ce_43 : decode cJ5_append_cf1ce 43 = .ok (.aload_n 0, 1) := by decide +kernel
theorem dJ5_append_cf1ce_44 : decode cJ5_append_cf1ce 44 = .ok (.areturn, 1) := by decide +kernel
theorem dJ5_appendNull_278bc_0 : decode cJ5_appendNull_278bc 0 = .ok (.aload_n 0, 1) := by decide +kernel
theorem dJ5_appendNull_278bc_1 : decode cJ5_appendNull_278bc 1 = .ok (.aload_n 0, 1) := by decide +kernel
theorem dJ5_appendNull_278bc_2 : decode cJ5_appendNull_278bc 2 = .ok (.getfield 79, 3) := by decide +kernel
theorem dJ5_appendNull_278bc_5 : decode cJ5_appendNull_278bc 5 = .ok (.iconst 4, 1) := by decide +kernel
theorem dJ5_appendNull_278bc_6 : decode cJ5_appendNull_278bc 6 = .ok (.iadd, 1) := by decide +kernel
theorem dJ5_appendNull_278bc_7 : decode cJ5_appendNull_278bc 7 = .ok (.invokevirtual 100, 3) := by decide +kernel
theorem dJ5_appendNull_278bc_10 : decode cJ5_appendNull_278bc 10 = .ok (.aload_n 0, 1) := by decide +kernel
theorem dJ5_appendNull_278bc_11 : decode cJ5_appendNull_278bc 11 = .ok (.getfield 79, 3) := by decide +kernel
theorem dJ5_appendNull_278bc_14 : decode cJ5_appendNull_278bc 14 = .ok (.istore_n 1, 1) := by decide +kernel
theorem dJ5_appendNull_278bc_15 : decode cJ5_appendNull_278bc 15 = .ok (.aload_n 0, 1) := by decide +kernel
theorem dJ5_appendNull_278bc_16 : decode cJ5_appendNull_278bc 16 = .ok (.getfield 15, 3) := by decide +kernel
theorem dJ5_appendNull_278bc_19 : decode cJ5_appendNull_278bc 19 = .ok (.astore_n 2, 1) := by decide +kernel
theorem dJ5_appendNull_278bc_20 : decode cJ5_appendNull_278bc 20 = .ok (.aload_n 0, 1) := by decide +kernel
theorem dJ5_appendNull_278bc_21 : decode cJ5_appendNull_278bc 21 = .ok (.invokevirtual 83, 3) := by decide +kernel
theorem dJ5_appendNull_278bc_24 : decode cJ5_appendNull_278bc 24 = .ok (.ifCond .eq 38, 3) := by decide +kernel
theorem dJ5_appendNull_278bc_27 : decode cJ5_appendNull_278bc 27 = .ok (.aload_n 2, 1) := by decide +kernel
theorem dJ5_appendNull_278bc_28 : decode cJ5_appendNull_278bc 28 = .ok (.iload_n 1, 1) := by decide +kernel
theorem dJ5_appendNull_278bc_29 : decode cJ5_appendNull_278bc 29 = .ok (.iinc 1 1, 3) := by decide +kernel
theorem dJ5_appendNull_278bc_32 : decode cJ5_appendNull_278bc 32 = .ok (.bipush 110, 2) := by decide +kernel
theorem dJ5_appendNull_278bc_34 : decode cJ5_appendNull_278bc 34 = .ok (.bastore, 1) := by decide +kernel
theorem dJ5_appendNull_278bc_35 : decode cJ5_appendNull_278bc 35 = .ok (.aload_n 2, 1) := by decide +kernel
theorem dJ5_appendNull_278bc_36 : decode cJ5_appendNull_278bc 36 = .ok (.iload_n 1, 1) := by decide +kernel
theorem dJ5_appendNull_278bc_37 : decode cJ5_appendNull_278bc 37 = .ok (.iinc 1 1, 3) := by decide +kernel
theorem dJ5_appendNull_278bc_40 : decode cJ5_appendNull_278bc 40 = .ok (.bipush 117, 2) := by decide +kernel
theorem dJ5_appendNull_278bc_42 : decode cJ5_appendNull_278bc 42 = .ok (.bastore, 1) := by decide +kernel
theorem dJ5_appendNull_278bc_43 : decode cJ5_appendNull_278bc 43 = .ok (.aload_n 2, 1) := by decide +kernel
theorem dJ5_appendNull_278bc_44 : decode cJ5_appendNull_278bc 44 = .ok (.iload_n 1, 1) := by decide +kernel
theorem dJ5_appendNull_278bc_45 : decode cJ5_appendNull_278bc 45 = .ok (.iinc 1 1, 3) := by decide +kernel
theorem dJ5_appendNull_278bc_48 : decode cJ5_appendNull_278bc 48 = .ok (.bipush 108, 2) := by decide +kernel
theorem dJ5_appendNull_278bc_50 : decode cJ5_appendNull_278bc 50 = .ok (.bastore, 1) := by decide +kernel
theorem dJ5_appendNull_278bc_51 : decode cJ5_appendNull_278bc 51 = .ok (.aload_n 2, 1) := by decide +kernel
theorem dJ5_appendNull_278bc_52 : decode cJ5_appendNull_278bc 52 = .ok (.iload_n 1, 1) := by decide +kernel
theorem dJ5_appendNull_278bc_53 : decode cJ5_appendNull_278bc 53 = .ok (.iinc 1 1, 3) := by decide +kernel
theorem dJ5_appendNull_278bc_56 : decode cJ5_appendNull_278bc 56 = .ok (.bipush 108, 2) := by decide +kernel
theorem dJ5_appendNull_278bc_58 : decode cJ5_appendNull_278bc 58 = .ok (.bastore, 1) := by decide +kernel
theorem dJ5_appendNull_278bc_59 : decode cJ5_appendNull_278bc 59 = .ok (.goto 17, 3) := by decide +kernel
theorem dJ5_appendNull_278bc_62 : decode cJ5_appendNull_278bc 62 = .ok (.aload_n 2, 1) := by decide +kernel
theorem dJ5_appendNull_278bc_63 : decode cJ5_appendNull_278bc 63 = .ok (.iload_n 1, 1) := by decide +kernel
theorem dJ5_appendNull_278bc_64 : decode cJ5_appendNull_278bc 64 = .ok (.bipush 110, 2) := by decide +kernel
theorem dJ5_appendNull_278bc_66 : decode cJ5_appendNull_278bc 66 = .ok (.bipush 117, 2) := by decide +kernel
theorem dJ5_appendNull_278bc_68 : decode cJ5_appendNull_278bc 68 = .ok (.bipush 108, 2) := by decide +kernel
theorem dJ5_appendNull_278bc_70 : decode cJ5_appendNull_278bc 70 = .ok (.bipush 108, 2) := by decide +kernel
theorem dJ5_appendNull_278bc_72 : decode cJ5_appendNull_278bc 72 = .ok (.invokestatic 226, 3) := by decide +kernel
theorem dJ5_appendNull_278bc_75 : decode cJ5_appendNull_278bc 75 = .ok (.istore_n 1, 1) := by decide +kernel
theorem dJ5_appendNull_278bc_76 : decode cJ5_appendNull_278bc 76 = .ok (.aload_n 0, 1) := by decide +kernel
theorem dJ5_appendNull_278bc_77 : decode cJ5_appendNull_278bc 77 = .ok (.iload_n 1, 1) := by decide +kernel
theorem dJ5_appendNull_278bc_78 : decode cJ5_appendNull_278bc 78 = .ok (.putfield 79, 3) := by decide +kernel
theorem dJ5_appendNull_278bc_81 : decode cJ5_appendNull_278bc 81 = .ok (.aload_n 0, 1) := by decide +kernel
theorem dJ5_appendNull_278bc_82 : decode cJ5_appendNull_278bc 82 = .ok (.areturn, 1) := by decide +kernel
theorem dJ5_append_c97b9_0 : decode cJ5_append_c97b9 0 = .ok (.aload_n 0, 1) := by decide +kernel
theorem dJ5_append_c97b9_1 : decode cJ5_append_c97b9 1 = .ok (.getfield 79, 3) := by decide +kernel
theorem dJ5_append_c97b9_4 : decode cJ5_append_c97b9 4 = .ok (.istore_n 2, 1) := by decide +kernel
theorem dJ5_append_c97b9_5 : decode cJ5_append_c97b9 5 = .ok (.iload_n 2, 1) := by decide +kernel
theorem dJ5_append_c97b9_6 : decode cJ5_append_c97b9 6 = .ok (.iload_n 1, 1) := by decide +kernel
theorem dJ5_append_c97b9_7 : decode cJ5_append_c97b9 7 = .ok (.invokestatic 245, 3) := by decide +kernel
theorem dJ5_append_c97b9_10 : decode cJ5_append_c97b9 10 = .ok (.iadd, 1) := by decide +kernel
theorem dJ5_append_c97b9_11 : decode cJ5_append_c97b9 11 = .ok (.istore_n 3, 1) := by decide +kernel
theorem dJ5_append_c97b9_12 : decode cJ5_append_c97b9 12 = .ok (.aload_n 0, 1) := by decide +kernel
theorem dJ5_append_c97b9_13 : decode cJ5_append_c97b9 13 = .ok (.iload_n 3, 1) := by decide +kernel
theorem dJ5_append_c97b9_14 : decode cJ5_append_c97b9 14 = .ok (.invokevirtual 100, 3) := by decide +kernel
theorem dJ5_append_c97b9_17 : decode cJ5_append_c97b9 17 = .ok (.aload_n 0, 1) := by decide +kernel
theorem dJ5_append_c97b9_18 : decode cJ5_append_c97b9 18 = .ok (.invokevirtual 83, 3) := by decide +kernel
theorem dJ5_append_c97b9_21 : decode cJ5_append_c97b9 21 = .ok (.ifCond .eq 16, 3) := by decide +kernel
theorem dJ5_append_c97b9_24 : decode cJ5_append_c97b9 24 = .ok (.iload_n 1, 1) := by decide +kernel
theorem dJ5_append_c97b9_25 : decode cJ5_append_c97b9 25 = .ok (.iload_n 3, 1) := by decide +kernel
theorem dJ5_append_c97b9_26 : decode cJ5_append_c97b9 26 = .ok (.aload_n 0, 1) := by decide +kernel
theorem dJ5_append_c97b9_27 : decode cJ5_append_c97b9 27 = .ok (.getfield 15, 3) := by decide +kernel
theorem dJ5_append_c97b9_30 : decode cJ5_append_c97b9 30 = .ok (.invokestatic 248, 3) := by decide +kernel
theorem dJ5_append_c97b9_33 : decode cJ5_append_c97b9 33 = .ok (.pop, 1) := by decide +kernel
theorem dJ5_append_c97b9_34 : decode cJ5_append_c97b9 34 = .ok (.goto 14, 3) := by decide +kernel
theorem dJ5_append_c97b9_37 : decode cJ5_append_c97b9 37 = .ok (.iload_n 1, 1) := by decide +kernel
theorem dJ5_append_c97b9_38 : decode cJ5_append_c97b9 38 = .ok (.iload_n 2, 1) := by decide +kernel
theorem dJ5_append_c97b9_39 : decode cJ5_append_c97b9 39 = .ok (.iload_n 3, 1) := by decide +kernel
theorem dJ5_append_c97b9_40 : decode cJ5_append_c97b9 40 = .ok (.aload_n 0, 1) := by decide +kernel
theorem dJ5_append_c97b9_41 : decode cJ5_append_c97b9 41 = .ok (.getfield 15, 3) := by decide +kernel
theorem dJ5_append_c97b9_44 : decode cJ5_append_c97b9 44 = .ok (.invokestatic 251, 3) := by decide +kernel
theorem dJ5_append_c97b9_47 : decode cJ5_append_c97b9 47 = .ok (.pop, 1) := by decide +kernel
theorem dJ5_append_c97b9_48 : decode cJ5_append_c97b9 48 = .ok (.aload_n 0, 1) := by decide +kernel
theorem dJ5_append_c97b9_49 : decode cJ5_append_c97b9 49 = .ok (.iload_n 3, 1) := by decide +kernel
theorem dJ5_append_c97b9_50 : decode cJ5_append_c97b9 50 = .ok (.putfield 79, 3) := by decide +kernel
theorem dJ5_append_c97b9_53 : decode cJ5_append_c97b9 53 = .ok (.aload_n 0, 1) := by decide +kernel
theorem dJ5_append_c97b9_54 : decode cJ5_append_c97b9 54 = .ok (.areturn, 1) := by decide +kernel
theorem dJ5_getValue_6d5f1_0 : decode cJ5_getValue_6d5f1 0 = .ok (.aload_n 0, 1) := by decide +kernel
theorem dJ5_getValue_6d5f1_1 : decode cJ5_getValue_6d5f1 1 = .ok (.getfield 15, 3) := by decide +kernel
theorem dJ5_getValue_6d5f1_4 : decode cJ5_getValue_6d5f1 4 = .ok (.areturn, 1) := by decide +kernel
theorem dJ5_isLatin1_aae02_0 : decode cJ5_isLatin1_aae02 0 = .ok (.getstatic 18, 3) := by decide +kernel
theorem dJ5_isLatin1_aae02_3 : decode cJ5_isLatin1_aae02 3 = .ok (.ifCond .eq 14, 3) := by decide +kernel
theorem dJ5_isLatin1_aae02_6 : decode cJ5_isLatin1_aae02 6 = .ok (.aload_n 0, 1) := by decide +kernel
theorem dJ5_isLatin1_aae02_7 : decode cJ5_isLatin1_aae02 7 = .ok (.getfield 22, 3) := by decide +kernel
theorem dJ5_isLatin1_aae02_10 : decode cJ5_isLatin1_aae02 10 = .ok (.ifCond .ne 7, 3) := by decide +kernel
theorem dJ5_isLatin1_aae02_13 : decode cJ5_isLatin1_aae02 13 = .ok (.iconst 1, 1) := by decide +kernel
theorem dJ5_isLatin1_aae02_14 : decode cJ5_isLatin1_aae02 14 = .ok (.goto 4, 3) := by decide +kernel
theorem dJ5_isLatin1_aae02_17 : decode cJ5_isLatin1_aae02 17 = .ok (.iconst 0, 1) := by decide +kernel
theorem dJ5_isLatin1_aae02_18 : decode cJ5_isLatin1_aae02 18 = .ok (.ireturn, 1) := by decide +kernel
theorem dJ5_inflateIfNeededFor_a7421_0 : decode cJ5_inflateIfNeededFor_a7421 0 = .ok (.getstatic 18, 3) := by decide +kernel
theorem dJ5_inflateIfNeededFor_a7421_3 : decode cJ5_inflateIfNeededFor_a7421 3 = .ok (.ifCond .eq 18, 3) := by decide +kernel
theorem dJ5_inflateIfNeededFor_a7421_6 : decode cJ5_inflateIfNeededFor_a7421 6 = .ok (.aload_n 0, 1) := by decide +kernel
theorem dJ5_inflateIfNeededFor_a7421_7 : decode cJ5_inflateIfNeededFor_a7421 7 = .ok (.getfield 22, 3) := by decide +kernel
theorem dJ5_inflateIfNeededFor_a7421_10 : decode cJ5_inflateIfNeededFor_a7421 10 = .ok (.aload_n 1, 1) := by decide +kernel
theorem dJ5_inflateIfNeededFor_a7421_11 : decode cJ5_inflateIfNeededFor_a7421 11 = .ok (.invokevirtual 40, 3) := by decide +kernel
theorem dJ5_inflateIfNeededFor_a7421_14 : decode cJ5_inflateIfNeededFor_a7421 14 = .ok (.if_icmp .eq 7, 3) := by decide +kernel
theorem dJ5_inflateIfNeededFor_a7421_17 : decode cJ5_inflateIfNeededFor_a7421 17 = .ok (.aload_n 0, 1) := by decide +kernel
theorem dJ5_inflateIfNeededFor_a7421_18 : decode cJ5_inflateIfNeededFor_a7421 18 = .ok (.invokevirtual 195, 3) := by decide +kernel
theorem dJ5_inflateIfNeededFor_a7421_21 : decode cJ5_inflateIfNeededFor_a7421 21 = .ok (.return_, 1) := by decide +kernel
theorem dJ5_putStringAt_47b60_0 : decode cJ5_putStringAt_47b60 0 = .ok (.aload_n 0, 1) := by decide +kernel
theorem dJ5_putStringAt_47b60_1 : decode cJ5_putStringAt_47b60 1 = .ok (.aload_n 2, 1) := by decide +kernel
theorem dJ5_putStringAt_47b60_2 : decode cJ5_putStringAt_47b60 2 = .ok (.invokevirtual 397, 3) := by decide +kernel
theorem dJ5_putStringAt_47b60_5 : decode cJ5_putStringAt_47b60 5 = .ok (.aload_n 2, 1) := by decide +kernel
theorem dJ5_putStringAt_47b60_6 : decode cJ5_putStringAt_47b60 6 = .ok (.aload_n 0, 1) := by decide +kernel
theorem dJ5_putStringAt_47b60_7 : decode cJ5_putStringAt_47b60 7 = .ok (.getfield 15, 3) := by decide +kernel
theorem dJ5_putStringAt_47b60_10 : decode cJ5_putStringAt_47b60 10 = .ok (.iload_n 1, 1) := by decide +kernel
theorem dJ5_putStringAt_47b60_11 : decode cJ5_putStringAt_47b60 11 = .ok (.aload_n 0, 1) := by decide +kernel
theorem dJ5_putStringAt_47b60_12 : decode cJ5_putStringAt_47b60 12 = .ok (.getfield 22, 3) := by decide +kernel
theorem dJ5_putStringAt_47b60_15 : decode cJ5_putStringAt_47b60 15 = .ok (.invokevirtual 399, 3) := by decide +kernel
theorem dJ5_putStringAt_47b60_18 : decode cJ5_putStringAt_47b60 18 = .ok (.return_, 1) := by decide +kernel
theorem dJx00060_init_a7421_0 : decode cJx00060_init_a7421 0 = .ok (.aload_n 0, 1) := by decide +kernel
theorem dJx00060_init_a7421_1 : decode cJx00060_init_a7421 1 = .ok (.aload_n 1, 1) := by decide +kernel
theorem dJx00060_init_a7421_2 : decode cJx00060_init_a7421 2 = .ok (.invokespecial 7, 3) := by decide +kernel
theorem dJx00060_init_a7421_5 : decode cJx00060_init_a7421 5 = .ok (.return_, 1) := by decide +kernel
theorem dJxe99ae_isNaN_b9ae7_0 : decode cJxe99ae_isNaN_b9ae7 0 = .ok (.dload_n 0, 1) := by decide +kernel
theorem dJxe99ae_isNaN_b9ae7_1 : decode cJxe99ae_isNaN_b9ae7 1 = .ok (.dload_n 0, 1) := by decide +kernel
theorem dJxe99ae_isNaN_b9ae7_2 : decode cJxe99ae_isNaN_b9ae7 2 = .ok (.dcmp .l, 1) := by decide +kernel
theorem dJxe99ae_isNaN_b9ae7_3 : decode cJxe99ae_isNaN_b9ae7 3 = .ok (.ifCond .eq 7, 3) := by decide +kernel
theorem dJxe99ae_isNaN_b9ae7_6 : decode cJxe99ae_isNaN_b9ae7 6 = .ok (.iconst 1, 1) := by decide +kernel
theorem dJxe99ae_isNaN_b9ae7_7 : decode cJxe99ae_isNaN_b9ae7 7 = .ok (.goto 4, 3) := by decide +kernel
theorem dJxe99ae_isNaN_b9ae7_10 : decode cJxe99ae_isNaN_b9ae7 10 = .ok (.iconst 0, 1) := by decide +kernel
theorem dJxe99ae_isNaN_b9ae7_11 : decode cJxe99ae_isNaN_b9ae7 11 = .ok (.ireturn, 1) := by decide +kernel
theorem dJxe99ae_doubleToLongBits_ccdee_0 : decode cJxe99ae_doubleToLongBits_ccdee 0 = .ok (.dload_n 0, 1) := by decide +kernel
theorem dJxe99ae_doubleToLongBits_ccdee_1 : decode cJxe99ae_doubleToLongBits_ccdee 1 = .ok (.invokestatic 122, 3) := by decide +kernel
theorem dJxe99ae_doubleToLongBits_ccdee_4 : decode cJxe99ae_doubleToLongBits_ccdee 4 = .ok (.ifCond .ne 8, 3) := by decide +kernel
theorem dJxe99ae_doubleToLongBits_ccdee_7 : decode cJxe99ae_doubleToLongBits_ccdee 7 = .ok (.dload_n 0, 1) := by decide +kernel
theorem dJxe99ae_doubleToLongBits_ccdee_8 : decode cJxe99ae_doubleToLongBits_ccdee 8 = .ok (.invokestatic 134, 3) := by decide +kernel
theorem dJxe99ae_doubleToLongBits_ccdee_11 : decode cJxe99ae_doubleToLongBits_ccdee 11 = .ok (.lreturn, 1) := by decide +kernel
theorem dJxe99ae_doubleToLongBits_ccdee_12 : decode cJxe99ae_doubleToLongBits_ccdee 12 = .ok (.ldc2_w 137, 3) := by decide +kernel
theorem dJxe99ae_doubleToLongBits_ccdee_15 : decode cJxe99ae_doubleToLongBits_ccdee 15 = .ok (.lreturn, 1) := by decide +kernel
theorem dJx29ce0_ordinal_8abf5_0 : decode cJx29ce0_ordinal_8abf5 0 = .ok (.aload_n 0, 1) := by decide +kernel
theorem dJx29ce0_ordinal_8abf5_1 : decode cJx29ce0_ordinal_8abf5 1 = .ok (.getfield 7, 3) := by decide +kernel
theorem dJx29ce0_ordinal_8abf5_4 : decode cJx29ce0_ordinal_8abf5 4 = .ok (.ireturn, 1) := by decide +kernel
theorem dJxf58ca_isNaN_12338_0 : decode cJxf58ca_isNaN_12338 0 = .ok (.fload_n 0, 1) := by decide +kernel
theorem dJxf58ca_isNaN_12338_1 : decode cJxf58ca_isNaN_12338 1 = .ok (.fload_n 0, 1) := by decide +kernel
theorem dJxf58ca_isNaN_12338_2 : decode cJxf58ca_isNaN_12338 2 = .ok (.fcmp .l, 1) := by decide +kernel
theorem dJxf58ca_isNaN_12338_3 : decode cJxf58ca_isNaN_12338 3 = .ok (.ifCond .eq 7, 3) := by decide +kernel
theorem dJxf58ca_isNaN_12338_6 : decode cJxf58ca_isNaN_12338 6 = .ok (.iconst 1, 1) := by decide +kernel
theorem dJxf58ca_isNaN_12338_7 : decode cJxf58ca_isNaN_12338 7 = .ok (.goto 4, 3) := by decide +kernel
theorem dJxf58ca_isNaN_12338_10 : decode cJxf58ca_isNaN_12338 10 = .ok (.iconst 0, 1) := by decide +kernel
theorem dJxf58ca_isNaN_12338_11 : decode cJxf58ca_isNaN_12338 11 = .ok (.ireturn, 1) := by decide +kernel
theorem dJxf58ca_floatToIntBits_5c35a_0 : decode cJxf58ca_floatToIntBits_5c35a 0 = .ok (.fload_n 0, 1) := by decide +kernel
theorem dJxf58ca_floatToIntBits_5c35a_1 : decode cJxf58ca_floatToIntBits_5c35a 1 = .ok (.invokestatic 59, 3) := by decide +kernel
theorem dJxf58ca_floatToIntBits_5c35a_4 : decode cJxf58ca_floatToIntBits_5c35a 4 = .ok (.ifCond .ne 8, 3) := by decide +kernel
theorem dJxf58ca_floatToIntBits_5c35a_7 : decode cJxf58ca_floatToIntBits_5c35a 7 = .ok (.fload_n 0, 1) := by decide +kernel
theorem dJxf58ca_floatToIntBits_5c35a_8 : decode cJxf58ca_floatToIntBits_5c35a 8 = .ok (.invokestatic 74, 3) := by decide +kernel
theorem dJxf58ca_floatToIntBits_5c35a_11 : decode cJxf58ca_floatToIntBits_5c35a 11 = .ok (.ireturn, 1) := by decide +kernel
theorem dJxf58ca_floatToIntBits_5c35a_12 : decode cJxf58ca_floatToIntBits_5c35a 12 = .ok (.ldc 77, 2) := by decide +kernel
theorem dJxf58ca_floatToIntBits_5c35a_14 : decode cJxf58ca_floatToIntBits_5c35a 14 = .ok (.ireturn, 1) := by decide +kernel
theorem dJ6_getChars_ba4f3_0 : decode cJ6_getChars_ba4f3 0 = .ok (.iload_n 1, 1) := by decide +kernel
theorem dJ6_getChars_ba4f3_1 : decode cJ6_getChars_ba4f3 1 = .ok (.istore 5, 2) := by decide +kernel
theorem dJ6_getChars_ba4f3_3 : decode cJ6_getChars_ba4f3 3 = .ok (.iload_n 0, 1) := by decide +kernel
theorem dJ6_getChars_ba4f3_4 : decode cJ6_getChars_ba4f3 4 = .ok (.ifCond .ge 7, 3) := by decide +kernel
theorem dJ6_getChars_ba4f3_7 : decode cJ6_getChars_ba4f3 7 = .ok (.iconst 1, 1) := by decide +kernel
theorem dJ6_getChars_ba4f3_8 : decode cJ6_getChars_ba4f3 8 = .ok (.goto 4, 3) := by decide +kernel
theorem dJ6_getChars_ba4f3_11 : decode cJ6_getChars_ba4f3 11 = .ok (.iconst 0, 1) := by decide +kernel
theorem dJ6_getChars_ba4f3_12 : decode cJ6_getChars_ba4f3 12 = .ok (.istore 6, 2) := by decide +kernel
theorem dJ6_getChars_ba4f3_14 : decode cJ6_getChars_ba4f3 14 = .ok (.iload 6, 2) := by decide +kernel
theorem dJ6_getChars_ba4f3_16 : decode cJ6_getChars_ba4f3 16 = .ok (.ifCond .ne 6, 3) := by decide +kernel
theorem dJ6_getChars_ba4f3_19 : decode cJ6_getChars_ba4f3 19 = .ok (.iload_n 0, 1) := by decide +kernel
theorem dJ6_getChars_ba4f3_20 : decode cJ6_getChars_ba4f3 20 = .ok (.ineg, 1) := by decide +kernel
theorem dJ6_getChars_ba4f3_21 : decode cJ6_getChars_ba4f3 21 = .ok (.istore_n 0, 1) := by decide +kernel
theorem dJ6_getChars_ba4f3_22 : decode cJ6_getChars_ba4f3 22 = .ok (.iload_n 0, 1) := by decide +kernel
theorem dJ6_getChars_ba4f3_23 : decode cJ6_getChars_ba4f3 23 = .ok (.bipush (-100), 2) := by decide +kernel
theorem dJ6_getChars_ba4f3_25 : decode cJ6_getChars_ba4f3 25 = .ok (.if_icmp .gt 47, 3) := by decide +kernel
theorem dJ6_getChars_ba4f3_28 : decode cJ6_getChars_ba4f3 28 = .ok (.iload_n 0, 1) := by decide +kernel
theorem dJ6_getChars_ba4f3_29 : decode cJ6_getChars_ba4f3 29 = .ok (.bipush 100, 2) := by decide +kernel
theorem dJ6_getChars_ba4f3_31 : decode cJ6_getChars_ba4f3 31 = .ok (.idiv, 1) := by decide +kernel
theorem dJ6_getChars_ba4f3_32 : decode cJ6_getChars_ba4f3 32 = .ok (.istore_n 3, 1) := by decide +kernel
theorem dJ6_getChars_ba4f3_33 : decode cJ6_getChars_ba4f3 33 = .ok (.iload_n 3, 1) := by decide +kernel
theorem dJ6_getChars_ba4f3_34 : decode cJ6_getChars_ba4f3 34 = .ok (.bipush 100, 2) := by decide +kernel
theorem dJ6_getChars_ba4f3_36 : decode cJ6_getChars_ba4f3 36 = .ok (.imul, 1) := by decide +kernel
theorem dJ6_getChars_ba4f3_37 : decode cJ6_getChars_ba4f3 37 = .ok (.iload_n 0, 1) := by decide +kernel
theorem dJ6_getChars_ba4f3_38 : decode cJ6_getChars_ba4f3 38 = .ok (.isub, 1) := by decide +kernel
theorem dJ6_getChars_ba4f3_39 : decode cJ6_getChars_ba4f3 39 = .ok (.istore 4, 2) := by decide +kernel
theorem dJ6_getChars_ba4f3_41 : decode cJ6_getChars_ba4f3 41 = .ok (.iload_n 3, 1) := by decide +kernel
theorem dJ6_getChars_ba4f3_42 : decode cJ6_getChars_ba4f3 42 = .ok (.istore_n 0, 1) := by decide +kernel
theorem dJ6_getChars_ba4f3_43 : decode cJ6_getChars_ba4f3 43 = .ok (.aload_n 2, 1) := by decide +kernel
theorem dJ6_getChars_ba4f3_44 : decode cJ6_getChars_ba4f3 44 = .ok (.iinc 5 (-1), 3) := by decide +kernel
theorem dJ6_getChars_ba4f3_47 : decode cJ6_getChars_ba4f3 47 = .ok (.iload 5, 2) := by decide +kernel
theorem dJ6_getChars_ba4f3_49 : decode cJ6_getChars_ba4f3 49 = .ok (.getstatic 83, 3) := by decide +kernel
theorem dJ6_getChars_ba4f3_52 : decode cJ6_getChars_ba4f3 52 = .ok (.iload 4, 2) := by decide +kernel
theorem dJ6_getChars_ba4f3_54 : decode cJ6_getChars_ba4f3 54 = .ok (.baload, 1) := by decide +kernel
theorem dJ6_getChars_ba4f3_55 : decode cJ6_getChars_ba4f3 55 = .ok (.bastore, 1) := by decide +kernel
theorem dJ6_getChars_ba4f3_56 : decode cJ6_getChars_ba4f3 56 = .ok (.aload_n 2, 1) := by decide +kernel
theorem dJ6_getChars_ba4f3_57 : decode cJ6_getChars_ba4f3 57 = .ok (.iinc 5 (-1), 3) := by decide +kernel
theorem dJ6_getChars_ba4f3_60 : decode cJ6_getChars_ba4f3 60 = .ok (.iload 5, 2) := by decide +kernel
theorem dJ6_getChars_ba4f3_62 : decode cJ6_getChars_ba4f3 62 = .ok (.getstatic 87, 3) := by decide +kernel
theorem dJ6_getChars_ba4f3_65 : decode cJ6_getChars_ba4f3 65 = .ok (.iload 4, 2) := by decide +kernel
theorem dJ6_getChars_ba4f3_67 : decode cJ6_getChars_ba4f3 67 = .ok (.baload, 1) := by decide +kernel
theorem dJ6_getChars_ba4f3_68 : decode cJ6_getChars_ba4f3 68 = .ok (.bastore, 1) := by decide +kernel
theorem dJ6_getChars_ba4f3_69 : decode cJ6_getChars_ba4f3 69 = .ok (.goto (-47), 3) := by decide +kernel
theorem dJ6_getChars_ba4f3_72 : decode cJ6_getChars_ba4f3 72 = .ok (.aload_n 2, 1) := by decide +kernel
theorem dJ6_getChars_ba4f3_73 : decode cJ6_getChars_ba4f3 73 = .ok (.iinc 5 (-1), 3) := by decide +kernel
theorem dJ6_getChars_ba4f3_76 : decode cJ6_getChars_ba4f3 76 = .ok (.iload 5, 2) := by decide +kernel
theorem dJ6_getChars_ba4f3_78 : decode cJ6_getChars_ba4f3 78 = .ok (.getstatic 83, 3) := by decide +kernel
theorem dJ6_getChars_ba4f3_81 : decode cJ6_getChars_ba4f3 81 = .ok (.iload_n 0, 1) := by decide +kernel
theorem dJ6_getChars_ba4f3_82 : decode cJ6_getChars_ba4f3 82 = .ok (.ineg, 1) := by decide +kernel
theorem dJ6_getChars_ba4f3_83 : decode cJ6_getChars_ba4f3 83 = .ok (.baload, 1) := by decide +kernel
theorem dJ6_getChars_ba4f3_84 : decode cJ6_getChars_ba4f3 84 = .ok (.bastore, 1) := by decide +kernel
theorem dJ6_getChars_ba4f3_85 : decode cJ6_getChars_ba4f3 85 = .ok (.iload_n 0, 1) := by decide +kernel
theorem dJ6_getChars_ba4f3_86 : decode cJ6_getChars_ba4f3 86 = .ok (.bipush (-9), 2) := by decide +kernel
theorem dJ6_getChars_ba4f3_88 : decode cJ6_getChars_ba4f3 88 = .ok (.if_icmp .ge 16, 3) := by decide +kernel
theorem dJ6_getChars_ba4f3_91 : decode cJ6_getChars_ba4f3 91 = .ok (.aload_n 2, 1) := by decide +kernel
theorem dJ6_getChars_ba4f3_92 : decode cJ6_getChars_ba4f3 92 = .ok (.iinc 5 (-1), 3) := by decide +kernel
theorem dJ6_getChars_ba4f3_95 : decode cJ6_getChars_ba4f3 95 = .ok (.iload 5, 2) := by decide +kernel
theorem dJ6_getChars_ba4f3_97 : decode cJ6_getChars_ba4f3 97 = .ok (.getstatic 87, 3) := by decide +kernel
theorem dJ6_getChars_ba4f3_100 : decode cJ6_getChars_ba4f3 100 = .ok (.iload_n 0, 1) := by decide +kernel
theorem dJ6_getChars_ba4f3_101 : decode cJ6_getChars_ba4f3 101 = .ok (.ineg, 1) := by decide +kernel
theorem dJ6_getChars_ba4f3_102 : decode cJ6_getChars_ba4f3 102 = .ok (.baload, 1) := by decide +kernel
theorem dJ6_getChars_ba4f3_103 : decode cJ6_getChars_ba4f3 103 = .ok (.bastore, 1) := by decide +kernel
theorem dJ6_getChars_ba4f3_104 : decode cJ6_getChars_ba4f3 104 = .ok (.iload 6, 2) := by decide +kernel
theorem dJ6_getChars_ba4f3_106 : decode cJ6_getChars_ba4f3 106 = .ok (.ifCond .eq 12, 3) := by decide +kernel
theorem dJ6_getChars_ba4f3_109 : decode cJ6_getChars_ba4f3 109 = .ok (.aload_n 2, 1) := by decide +kernel
theorem dJ6_getChars_ba4f3_110 : decode cJ6_getChars_ba4f3 110 = .ok (.iinc 5 (-1), 3) := by decide +kernel
theorem dJ6_getChars_ba4f3_113 : decode cJ6_getChars_ba4f3 113 = .ok (.iload 5, 2) := by decide +kernel
theorem dJ6_getChars_ba4f3_115 : decode cJ6_getChars_ba4f3 115 = .ok (.bipush 45, 2) := by decide +kernel
theorem dJ6_getChars_ba4f3_117 : decode cJ6_getChars_ba4f3 117 = .ok (.bastore, 1) := by decide +kernel
theorem dJ6_getChars_ba4f3_118 : decode cJ6_getChars_ba4f3 118 = .ok (.iload 5, 2) := by decide +kernel
theorem dJ6_getChars_ba4f3_120 : decode cJ6_getChars_ba4f3 120 = .ok (.ireturn, 1) := by decide +kernel
theorem dJ6_stringSize_0f7a4_0 : decode cJ6_stringSize_0f7a4 0 = .ok (.iconst 1, 1) := by decide +kernel
theorem dJ6_stringSize_0f7a4_1 : decode cJ6_stringSize_0f7a4 1 = .ok (.istore_n 1, 1) := by decide +kernel
theorem dJ6_stringSize_0f7a4_2 : decode cJ6_stringSize_0f7a4 2 = .ok (.iload_n 0, 1) := by decide +kernel
theorem dJ6_stringSize_0f7a4_3 : decode cJ6_stringSize_0f7a4 3 = .ok (.ifCond .lt 8, 3) := by decide +kernel
theorem dJ6_stringSize_0f7a4_6 : decode cJ6_stringSize_0f7a4 6 = .ok (.iconst 0, 1) := by decide +kernel
theorem dJ6_stringSize_0f7a4_7 : decode cJ6_stringSize_0f7a4 7 = .ok (.istore_n 1, 1) := by decide +kernel
theorem dJ6_stringSize_0f7a4_8 : decode cJ6_stringSize_0f7a4 8 = .ok (.iload_n 0, 1) := by decide +kernel
theorem dJ6_stringSize_0f7a4_9 : decode cJ6_stringSize_0f7a4 9 = .ok (.ineg, 1) := by decide +kernel
theorem dJ6_stringSize_0f7a4_10 : decode cJ6_stringSize_0f7a4 10 = .ok (.istore_n 0, 1) := by decide +kernel
theorem dJ6_stringSize_0f7a4_11 : decode cJ6_stringSize_0f7a4 11 = .ok (.bipush (-10), 2) := by decide +kernel
theorem dJ6_stringSize_0f7a4_13 : decode cJ6_stringSize_0f7a4 13 = .ok (.istore_n 2, 1) := by decide +kernel
theorem dJ6_stringSize_0f7a4_14 : decode cJ6_stringSize_0f7a4 14 = .ok (.iconst 1, 1) := by decide +kernel
theorem dJ6_stringSize_0f7a4_15 : decode cJ6_stringSize_0f7a4 15 = .ok (.istore_n 3, 1) := by decide +kernel
theorem dJ6_stringSize_0f7a4_16 : decode cJ6_stringSize_0f7a4 16 = .ok (.iload_n 3, 1) := by decide +kernel
theorem dJ6_stringSize_0f7a4_17 : decode cJ6_stringSize_0f7a4 17 = .ok (.bipush 10, 2) := by decide +kernel
theorem dJ6_stringSize_0f7a4_19 : decode cJ6_stringSize_0f7a4 19 = .ok (.if_icmp .ge 23, 3) := by decide +kernel
theorem dJ6_stringSize_0f7a4_22 : decode cJ6_stringSize_0f7a4 22 = .ok (.iload_n 0, 1) := by decide +kernel
theorem dJ6_stringSize_0f7a4_23 : decode cJ6_stringSize_0f7a4 23 = .ok (.iload_n 2, 1) := by decide +kernel
theorem dJ6_stringSize_0f7a4_24 : decode cJ6_stringSize_0f7a4 24 = .ok (.if_icmp .le 7, 3) := by decide +kernel
theorem dJ6_stringSize_0f7a4_27 : decode cJ6_stringSize_0f7a4 27 = .ok (.iload_n 3, 1) := by decide +kernel
theorem dJ6_stringSize_0f7a4_28 : decode cJ6_stringSize_0f7a4 28 = .ok (.iload_n 1, 1) := by decide +kernel
theorem dJ6_stringSize_0f7a4_29 : decode cJ6_stringSize_0f7a4 29 = .ok (.iadd, 1) := by decide +kernel
theorem dJ6_stringSize_0f7a4_30 : decode cJ6_stringSize_0f7a4 30 = .ok (.ireturn, 1) := by decide +kernel
theorem dJ6_stringSize_0f7a4_31 : decode cJ6_stringSize_0f7a4 31 = .ok (.bipush 10, 2) := by decide +kernel
theorem dJ6_stringSize_0f7a4_33 : decode cJ6_stringSize_0f7a4 33 = .ok (.iload_n 2, 1) := by decide +kernel
theorem dJ6_stringSize_0f7a4_34 : decode cJ6_stringSize_0f7a4 34 = .ok (.imul, 1) := by decide +kernel
theorem dJ6_stringSize_0f7a4_35 : decode cJ6_stringSize_0f7a4 35 = .ok (.istore_n 2, 1) := by decide +kernel
theorem dJ6_stringSize_0f7a4_36 : decode cJ6_stringSize_0f7a4 36 = .ok (.iinc 3 1, 3) := by decide +kernel
theorem dJ6_stringSize_0f7a4_39 : decode cJ6_stringSize_0f7a4 39 = .ok (.goto (-23), 3) := by decide +kernel
theorem dJ6_stringSize_0f7a4_42 : decode cJ6_stringSize_0f7a4 42 = .ok (.bipush 10, 2) := by decide +kernel
theorem dJ6_stringSize_0f7a4_44 : decode cJ6_stringSize_0f7a4 44 = .ok (.iload_n 1, 1) := by decide +kernel
theorem dJ6_stringSize_0f7a4_45 : decode cJ6_stringSize_0f7a4 45 = .ok (.iadd, 1) := by decide +kernel
theorem dJ6_stringSize_0f7a4_46 : decode cJ6_stringSize_0f7a4 46 = .ok (.ireturn, 1) := by decide +kernel
theorem dJ6_bitCount_0f7a4_0 : decode cJ6_bitCount_0f7a4 0 = .ok (.iload_n 0, 1) := by decide +kernel
theorem dJ6_bitCount_0f7a4_1 : decode cJ6_bitCount_0f7a4 1 = .ok (.iload_n 0, 1) := by decide +kernel
theorem dJ6_bitCount_0f7a4_2 : decode cJ6_bitCount_0f7a4 2 = .ok (.iconst 1, 1) := by decide +kernel
theorem dJ6_bitCount_0f7a4_3 : decode cJ6_bitCount_0f7a4 3 = .ok (.iushr, 1) := by decide +kernel
theorem dJ6_bitCount_0f7a4_4 : decode cJ6_bitCount_0f7a4 4 = .ok (.ldc_w 265, 3) := by decide +kernel
theorem dJ6_bitCount_0f7a4_7 : decode cJ6_bitCount_0f7a4 7 = .ok (.iand, 1) := by decide +kernel
theorem dJ6_bitCount_0f7a4_8 : decode cJ6_bitCount_0f7a4 8 = .ok (.isub, 1) := by decide +kernel
theorem dJ6_bitCount_0f7a4_9 : decode cJ6_bitCount_0f7a4 9 = .ok (.istore_n 0, 1) := by decide +kernel
theorem dJ6_bitCount_0f7a4_10 : decode cJ6_bitCount_0f7a4 10 = .ok (.iload_n 0, 1) := by decide +kernel
theorem dJ6_bitCount_0f7a4_11 : decode cJ6_bitCount_0f7a4 11 = .ok (.ldc_w 266, 3) := by decide +kernel
theorem dJ6_bitCount_0f7a4_14 : decode cJ6_bitCount_0f7a4 14 = .ok (.iand, 1) := by decide +kernel
theorem dJ6_bitCount_0f7a4_15 : decode cJ6_bitCount_0f7a4 15 = .ok (.iload_n 0, 1) := by decide +kernel
theorem dJ6_bitCount_0f7a4_16 : decode cJ6_bitCount_0f7a4 16 = .ok (.iconst 2, 1) := by decide +kernel
theorem dJ6_bitCount_0f7a4_17 : decode cJ6_bitCount_0f7a4 17 = .ok (.iushr, 1) := by decide +kernel
theorem dJ6_bitCount_0f7a4_18 : decode cJ6_bitCount_0f7a4 18 = .ok (.ldc_w 266, 3) := by decide +kernel
theorem dJ6_bitCount_0f7a4_21 : decode cJ6_bitCount_0f7a4 21 = .ok (.iand, 1) := by decide +kernel
theorem dJ6_bitCount_0f7a4_22 : decode cJ6_bitCount_0f7a4 22 = .ok (.iadd, 1) := by decide +kernel
theorem dJ6_bitCount_0f7a4_23 : decode cJ6_bitCount_0f7a4 23 = .ok (.istore_n 0, 1) := by decide +kernel
theorem dJ6_bitCount_0f7a4_24 : decode cJ6_bitCount_0f7a4 24 = .ok (.iload_n 0, 1) := by decide +kernel
theorem dJ6_bitCount_0f7a4_25 : decode cJ6_bitCount_0f7a4 25 = .ok (.iload_n 0, 1) := by decide +kernel
theorem dJ6_bitCount_0f7a4_26 : decode cJ6_bitCount_0f7a4 26 = .ok (.iconst 4, 1) := by decide +kernel
theorem dJ6_bitCount_0f7a4_27 : decode cJ6_bitCount_0f7a4 27 = .ok (.iushr, 1) := by decide +kernel
theorem dJ6_bitCount_0f7a4_28 : decode cJ6_bitCount_0f7a4 28 = .ok (.iadd, 1) := by decide +kernel
theorem dJ6_bitCount_0f7a4_29 : decode cJ6_bitCount_0f7a4 29 = .ok (.ldc_w 267, 3) := by decide +kernel
theorem dJ6_bitCount_0f7a4_32 : decode cJ6_bitCount_0f7a4 32 = .ok (.iand, 1) := by decide +kernel
theorem dJ6_bitCount_0f7a4_33 : decode cJ6_bitCount_0f7a4 33 = .ok (.istore_n 0, 1) := by decide +kernel
theorem dJ6_bitCount_0f7a4_34 : decode cJ6_bitCount_0f7a4 34 = .ok (.iload_n 0, 1) := by decide +kernel
theorem dJ6_bitCount_0f7a4_35 : decode cJ6_bitCount_0f7a4 35 = .ok (.iload_n 0, 1) := by decide +kernel
theorem dJ6_bitCount_0f7a4_36 : decode cJ6_bitCount_0f7a4 36 = .ok (.bipush 8, 2) := by decide +kernel
theorem dJ6_bitCount_0f7a4_38 : decode cJ6_bitCount_0f7a4 38 = .ok (.iushr, 1) := by decide +kernel
theorem dJ6_bitCount_0f7a4_39 : decode cJ6_bitCount_0f7a4 39 = .ok (.iadd, 1) := by decide +kernel
theorem dJ6_bitCount_0f7a4_40 : decode cJ6_bitCount_0f7a4 40 = .ok (.istore_n 0, 1) := by decide +kernel
theorem dJ6_bitCount_0f7a4_41 : decode cJ6_bitCount_0f7a4 41 = .ok (.iload_n 0, 1) := by decide +kernel
theorem dJ6_bitCount_0f7a4_42 : decode cJ6_bitCount_0f7a4 42 = .ok (.iload_n 0, 1) := by decide +kernel
theorem dJ6_bitCount_0f7a4_43 : decode cJ6_bitCount_0f7a4 43 = .ok (.bipush 16, 2) := by decide +kernel
theorem dJ6_bitCount_0f7a4_45 : decode cJ6_bitCount_0f7a4 45 = .ok (.iushr, 1) := by decide +kernel
theorem dJ6_bitCount_0f7a4_46 : decode cJ6_bitCount_0f7a4 46 = .ok (.iadd, 1) := by decide +kernel
theorem dJ6_bitCount_0f7a4_47 : decode cJ6_bitCount_0f7a4 47 = .ok (.istore_n 0, 1) := by decide +kernel
theorem dJ6_bitCount_0f7a4_48 : decode cJ6_bitCount_0f7a4 48 = .ok (.iload_n 0, 1) := by decide +kernel
theorem dJ6_bitCount_0f7a4_49 : decode cJ6_bitCount_0f7a4 49 = .ok (.bipush 63, 2) := by decide +kernel
theorem dJ6_bitCount_0f7a4_51 : decode cJ6_bitCount_0f7a4 51 = .ok (.iand, 1) := by decide +kernel
theorem dJ6_bitCount_0f7a4_52 : decode cJ6_bitCount_0f7a4 52 = .ok (.ireturn, 1) := by decide +kernel
theorem dJ9_floorMod_7cf53_0 : decode cJ9_floorMod_7cf53 0 = .ok (.iload_n 0, 1) := by decide +kernel
theorem dJ9_floorMod_7cf53_1 : decode cJ9_floorMod_7cf53 1 = .ok (.iload_n 1, 1) := by decide +kernel
theorem dJ9_floorMod_7cf53_2 : decode cJ9_floorMod_7cf53 2 = .ok (.irem, 1) := by decide +kernel
theorem dJ9_floorMod_7cf53_3 : decode cJ9_floorMod_7cf53 3 = .ok (.istore_n 2, 1) := by decide +kernel
theorem dJ9_floorMod_7cf53_4 : decode cJ9_floorMod_7cf53 4 = .ok (.iload_n 0, 1) := by decide +kernel
theorem dJ9_floorMod_7cf53_5 : decode cJ9_floorMod_7cf53 5 = .ok (.iload_n 1, 1) := by decide +kernel
theorem dJ9_floorMod_7cf53_6 : decode cJ9_floorMod_7cf53 6 = .ok (.ixor, 1) := by decide +kernel
theorem dJ9_floorMod_7cf53_7 : decode cJ9_floorMod_7cf53 7 = .ok (.ifCond .ge 11, 3) := by decide +kernel
theorem dJ9_floorMod_7cf53_10 : decode cJ9_floorMod_7cf53 10 = .ok (.iload_n 2, 1) := by decide +kernel
theorem dJ9_floorMod_7cf53_11 : decode cJ9_floorMod_7cf53 11 = .ok (.ifCond .eq 7, 3) := by decide +kernel
theorem dJ9_floorMod_7cf53_14 : decode cJ9_floorMod_7cf53 14 = .ok (.iload_n 2, 1) := by decide +kernel
theorem dJ9_floorMod_7cf53_15 : decode cJ9_floorMod_7cf53 15 = .ok (.iload_n 1, 1) := by decide +kernel
theorem dJ9_floorMod_7cf53_16 : decode cJ9_floorMod_7cf53 16 = .ok (.iadd, 1) := by decide +kernel
theorem dJ9_floorMod_7cf53_17 : decode cJ9_floorMod_7cf53 17 = .ok (.ireturn, 1) := by decide +kernel
theorem dJ9_floorMod_7cf53_18 : decode cJ9_floorMod_7cf53 18 = .ok (.iload_n 2, 1) := by decide +kernel
theorem dJ9_floorMod_7cf53_19 : decode cJ9_floorMod_7cf53 19 = .ok (.ireturn, 1) := by decide +kernel
theorem dJ9_max_7cf53_0 : decode cJ9_max_7cf53 0 = .ok (.iload_n 0, 1) := by decide +kernel
theorem dJ9_max_7cf53_1 : decode cJ9_max_7cf53 1 = .ok (.iload_n 1, 1) := by decide +kernel
theorem dJ9_max_7cf53_2 : decode cJ9_max_7cf53 2 = .ok (.if_icmp .lt 7, 3) := by decide +kernel
theorem dJ9_max_7cf53_5 : decode cJ9_max_7cf53 5 = .ok (.iload_n 0, 1) := by decide +kernel
theorem dJ9_max_7cf53_6 : decode cJ9_max_7cf53 6 = .ok (.goto 4, 3) := by decide +kernel
theorem dJ9_max_7cf53_9 : decode cJ9_max_7cf53 9 = .ok (.iload_n 1, 1) := by decide +kernel
theorem dJ9_max_7cf53_10 : decode cJ9_max_7cf53 10 = .ok (.ireturn, 1) := by decide +kernel
theorem dJ9_min_7cf53_0 : decode cJ9_min_7cf53 0 = .ok (.iload_n 0, 1) := by decide +kernel
theorem dJ9_min_7cf53_1 : decode cJ9_min_7cf53 1 = .ok (.iload_n 1, 1) := by decide +kernel
theorem dJ9_min_7cf53_2 : decode cJ9_min_7cf53 2 = .ok (.if_icmp .gt 7, 3) := by decide +kernel
theorem dJ9_min_7cf53_5 : decode cJ9_min_7cf53 5 = .ok (.iload_n 0, 1) := by decide +kernel
theorem dJ9_min_7cf53_6 : decode cJ9_min_7cf53 6 = .ok (.goto 4, 3) := by decide +kernel
theorem dJ9_min_7cf53_9 : decode cJ9_min_7cf53 9 = .ok (.iload_n 1, 1) := by decide +kernel
theorem dJ9_min_7cf53_10 : decode cJ9_min_7cf53 10 = .ok (.ireturn, 1) := by decide +kernel
theorem dJ0_init_81219_0 : decode cJ0_init_81219 0 = .ok (.aload_n 0, 1) := by decide +kernel
theorem dJ0_init_81219_1 : decode cJ0_init_81219 1 = .ok (.aload_n 1, 1) := by decide +kernel
theorem dJ0_init_81219_2 : decode cJ0_init_81219 2 = .ok (.aconst_null, 1) := by decide +kernel
theorem dJ0_init_81219_3 : decode cJ0_init_81219 3 = .ok (.invokespecial 489, 3) := by decide +kernel
theorem dJ0_init_81219_6 : decode cJ0_init_81219 6 = .ok (.return_, 1) := by decide +kernel
theorem dJ0_length_8abf5_0 : decode cJ0_length_8abf5 0 = .ok (.aload_n 0, 1) := by decide +kernel
theorem dJ0_length_8abf5_1 : decode cJ0_length_8abf5 1 = .ok (.getfield 9, 3) := by decide +kernel
theorem dJ0_length_8abf5_4 : decode cJ0_length_8abf5 4 = .ok (.arraylength, 1) := by decide +kernel
theorem dJ0_length_8abf5_5 : decode cJ0_length_8abf5 5 = .ok (.aload_n 0, 1) := by decide +kernel
theorem dJ0_length_8abf5_6 : decode cJ0_length_8abf5 6 = .ok (.invokevirtual 335, 3) := by decide +kernel
theorem dJ0_length_8abf5_9 : decode cJ0_length_8abf5 9 = .ok (.ishr, 1) := by decide +kernel
theorem dJ0_length_8abf5_10 : decode cJ0_length_8abf5 10 = .ok (.ireturn, 1) := by decide +kernel
theorem dJ0_charAt_5068e_0 : decode cJ0_charAt_5068e 0 = .ok (.aload_n 0, 1) := by decide +kernel
theorem dJ0_charAt_5068e_1 : decode cJ0_charAt_5068e 1 = .ok (.invokevirtual 492, 3) := by decide +kernel
theorem dJ0_charAt_5068e_4 : decode cJ0_charAt_5068e 4 = .ok (.ifCond .eq 12, 3) := by decide +kernel
theorem dJ0_charAt_5068e_7 : decode cJ0_charAt_5068e 7 = .ok (.aload_n 0, 1) := by decide +kernel
theorem dJ0_charAt_5068e_8 : decode cJ0_charAt_5068e 8 = .ok (.getfield 9, 3) := by decide +kernel
theorem dJ0_charAt_5068e_11 : decode cJ0_charAt_5068e 11 = .ok (.iload_n 1, 1) := by decide +kernel
theorem dJ0_charAt_5068e_12 : decode cJ0_charAt_5068e 12 = .ok (.invokestatic 495, 3) := by decide +kernel
theorem dJ0_charAt_5068e_15 : decode cJ0_charAt_5068e 15 = .ok (.ireturn, 1) := by decide +kernel
theorem dJ0_charAt_5068e_16 : decode cJ0_charAt_5068e 16 = .ok (.aload_n 0, 1) := by decide +kernel
theorem dJ0_charAt_5068e_17 : decode cJ0_charAt_5068e 17 = .ok (.getfield 9, 3) := by decide +kernel
theorem dJ0_charAt_5068e_20 : decode cJ0_charAt_5068e 20 = .ok (.iload_n 1, 1) := by decide +kernel
theorem dJ0_charAt_5068e_21 : decode cJ0_charAt_5068e 21 = .ok (.invokestatic 498, 3) := by decide +kernel
theorem dJ0_charAt_5068e_24 : decode cJ0_charAt_5068e 24 = .ok (.ireturn, 1) := by decide +kernel
theorem dJ0_getBytes_840e7_0 : decode cJ0_getBytes_840e7 0 = .ok (.aload_n 0, 1) := by decide +kernel
theorem dJ0_getBytes_840e7_1 : decode cJ0_getBytes_840e7 1 = .ok (.invokevirtual 335, 3) := by decide +kernel
theorem dJ0_getBytes_840e7_4 : decode cJ0_getBytes_840e7 4 = .ok (.iload_n 3, 1) := by decide +kernel
theorem dJ0_getBytes_840e7_5 : decode cJ0_getBytes_840e7 5 = .ok (.if_icmp .ne 23, 3) := by decide +kernel
theorem dJ0_getBytes_840e7_8 : decode cJ0_getBytes_840e7 8 = .ok (.aload_n 0, 1) := by decide +kernel
theorem dJ0_getBytes_840e7_9 : decode cJ0_getBytes_840e7 9 = .ok (.getfield 9, 3) := by decide +kernel
theorem dJ0_getBytes_840e7_12 : decode cJ0_getBytes_840e7 12 = .ok (.iconst 0, 1) := by decide +kernel
theorem dJ0_getBytes_840e7_13 : decode cJ0_getBytes_840e7 13 = .ok (.aload_n 1, 1) := by decide +kernel
theorem dJ0_getBytes_840e7_14 : decode cJ0_getBytes_840e7 14 = .ok (.iload_n 2, 1) := by decide +kernel
theorem dJ0_getBytes_840e7_15 : decode cJ0_getBytes_840e7 15 = .ok (.iload_n 3, 1) := by decide +kernel
theorem dJ0_getBytes_840e7_16 : decode cJ0_getBytes_840e7 16 = .ok (.ishl, 1) := by decide +kernel
theorem dJ0_getBytes_840e7_17 : decode cJ0_getBytes_840e7 17 = .ok (.aload_n 0, 1) := by decide +kernel
theorem dJ0_getBytes_840e7_18 : decode cJ0_getBytes_840e7 18 = .ok (.getfield 9, 3) := by decide +kernel
theorem dJ0_getBytes_840e7_21 : decode cJ0_getBytes_840e7 21 = .ok (.arraylength, 1) := by decide +kernel
theorem dJ0_getBytes_840e7_22 : decode cJ0_getBytes_840e7 22 = .ok (.invokestatic 212, 3) := by decide +kernel
theorem dJ0_getBytes_840e7_25 : decode cJ0_getBytes_840e7 25 = .ok (.goto 18, 3) := by decide +kernel
theorem dJ0_getBytes_840e7_28 : decode cJ0_getBytes_840e7 28 = .ok (.aload_n 0, 1) := by decide +kernel
theorem dJ0_getBytes_840e7_29 : decode cJ0_getBytes_840e7 29 = .ok (.getfield 9, 3) := by decide +kernel
theorem dJ0_getBytes_840e7_32 : decode cJ0_getBytes_840e7 32 = .ok (.iconst 0, 1) := by decide +kernel
theorem dJ0_getBytes_840e7_33 : decode cJ0_getBytes_840e7 33 = .ok (.aload_n 1, 1) := by decide +kernel
theorem dJ0_getBytes_840e7_34 : decode cJ0_getBytes_840e7 34 = .ok (.iload_n 2, 1) := by decide +kernel
theorem dJ0_getBytes_840e7_35 : decode cJ0_getBytes_840e7 35 = .ok (.aload_n 0, 1) := by decide +kernel
theorem dJ0_getBytes_840e7_36 : decode cJ0_getBytes_840e7 36 = .ok (.getfield 9, 3) := by decide +kernel
theorem dJ0_getBytes_840e7_39 : decode cJ0_getBytes_840e7 39 = .ok (.arraylength, 1) := by decide +kernel
theorem dJ0_getBytes_840e7_40 : decode cJ0_getBytes_840e7 40 = .ok (.invokestatic 106, 3) := by decide +kernel
theorem dJ0_getBytes_840e7_43 : decode cJ0_getBytes_840e7 43 = .ok (.return_, 1) := by decide +kernel
theorem dJ0_init_db425_0 : decode cJ0_init_db425 0 = .ok (.aload_n 0, 1) := by decide +kernel
theorem dJ0_init_db425_1 : decode cJ0_init_db425 1 = .ok (.invokespecial 1, 3) := by decide +kernel
theorem dJ0_init_db425_4 : decode cJ0_init_db425 4 = .ok (.aload_n 1, 1) := by decide +kernel
theorem dJ0_init_db425_5 : decode cJ0_init_db425 5 = .ok (.invokevirtual 552, 3) := by decide +kernel
theorem dJ0_init_db425_8 : decode cJ0_init_db425 8 = .ok (.astore_n 3, 1) := by decide +kernel
theorem dJ0_init_db425_9 : decode cJ0_init_db425 9 = .ok (.aload_n 1, 1) := by decide +kernel
theorem dJ0_init_db425_10 : decode cJ0_init_db425 10 = .ok (.invokevirtual 549, 3) := by decide +kernel
theorem dJ0_init_db425_13 : decode cJ0_init_db425 13 = .ok (.istore 4, 2) := by decide +kernel
theorem dJ0_init_db425_15 : decode cJ0_init_db425 15 = .ok (.aload_n 1, 1) := by decide +kernel
theorem dJ0_init_db425_16 : decode cJ0_init_db425 16 = .ok (.invokevirtual 1047, 3) := by decide +kernel
theorem dJ0_init_db425_19 : decode cJ0_init_db425 19 = .ok (.ifCond .eq 22, 3) := by decide +kernel
theorem dJ0_init_db425_22 : decode cJ0_init_db425 22 = .ok (.aload_n 0, 1) := by decide +kernel
theorem dJ0_init_db425_23 : decode cJ0_init_db425 23 = .ok (.iconst 0, 1) := by decide +kernel
theorem dJ0_init_db425_24 : decode cJ0_init_db425 24 = .ok (.putfield 15, 3) := by decide +kernel
theorem dJ0_init_db425_27 : decode cJ0_init_db425 27 = .ok (.aload_n 0, 1) := by decide +kernel
theorem dJ0_init_db425_28 : decode cJ0_init_db425 28 = .ok (.aload_n 3, 1) := by decide +kernel
theorem dJ0_init_db425_29 : decode cJ0_init_db425 29 = .ok (.iconst 0, 1) := by decide +kernel
theorem dJ0_init_db425_30 : decode cJ0_init_db425 30 = .ok (.iload 4, 2) := by decide +kernel
theorem dJ0_init_db425_32 : decode cJ0_init_db425 32 = .ok (.invokestatic 54, 3) := by decide +kernel
theorem dJ0_init_db425_35 : decode cJ0_init_db425 35 = .ok (.putfield 9, 3) := by decide +kernel
theorem dJ0_init_db425_38 : decode cJ0_init_db425 38 = .ok (.goto 59, 3) := by decide +kernel
theorem dJ0_init_db425_41 : decode cJ0_init_db425 41 = .ok (.getstatic 38, 3) := by decide +kernel
theorem dJ0_init_db425_44 : decode cJ0_init_db425 44 = .ok (.ifCond .eq 35, 3) := by decide +kernel
theorem dJ0_init_db425_47 : decode cJ0_init_db425 47 = .ok (.aload_n 1, 1) := by decide +kernel
theorem dJ0_init_db425_48 : decode cJ0_init_db425 48 = .ok (.getfield 1048, 3) := by decide +kernel
theorem dJ0_init_db425_51 : decode cJ0_init_db425 51 = .ok (.ifCond .eq 28, 3) := by decide +kernel
theorem dJ0_init_db425_54 : decode cJ0_init_db425 54 = .ok (.aload_n 0, 1) := by decide +kernel
theorem dJ0_init_db425_55 : decode cJ0_init_db425 55 = .ok (.aload_n 3, 1) := by decide +kernel
theorem dJ0_init_db425_56 : decode cJ0_init_db425 56 = .ok (.iconst 0, 1) := by decide +kernel
theorem dJ0_init_db425_57 : decode cJ0_init_db425 57 = .ok (.iload 4, 2) := by decide +kernel
theorem dJ0_init_db425_59 : decode cJ0_init_db425 59 = .ok (.invokestatic 1051, 3) := by decide +kernel
theorem dJ0_init_db425_62 : decode cJ0_init_db425 62 = .ok (.putfield 9, 3) := by decide +kernel
theorem dJ0_init_db425_65 : decode cJ0_init_db425 65 = .ok (.aload_n 0, 1) := by decide +kernel
theorem dJ0_init_db425_66 : decode cJ0_init_db425 66 = .ok (.aload_n 0, 1) := by decide +kernel
theorem dJ0_init_db425_67 : decode cJ0_init_db425 67 = .ok (.getfield 9, 3) := by decide +kernel
theorem dJ0_init_db425_70 : decode cJ0_init_db425 70 = .ok (.iload 4, 2) := by decide +kernel
theorem dJ0_init_db425_72 : decode cJ0_init_db425 72 = .ok (.invokestatic 47, 3) := by decide +kernel
theorem dJ0_init_db425_75 : decode cJ0_init_db425 75 = .ok (.putfield 15, 3) := by decide +kernel
theorem dJ0_init_db425_78 : decode cJ0_init_db425 78 = .ok (.return_, 1) := by decide +kernel
theorem dJ0_init_db425_79 : decode cJ0_init_db425 79 = .ok (.aload_n 0, 1) := by decide +kernel
theorem dJ0_init_db425_80 : decode cJ0_init_db425 80 = .ok (.iconst 1, 1) := by decide +kernel
theorem dJ0_init_db425_81 : decode cJ0_init_db425 81 = .ok (.putfield 15, 3) := by decide +kernel
theorem dJ0_init_db425_84 : decode cJ0_init_db425 84 = .ok (.aload_n 0, 1) := by decide +kernel
theorem dJ0_init_db425_85 : decode cJ0_init_db425 85 = .ok (.aload_n 3, 1) := by decide +kernel
theorem dJ0_init_db425_86 : decode cJ0_init_db425 86 = .ok (.iconst 0, 1) := by decide +kernel
theorem dJ0_init_db425_87 : decode cJ0_init_db425 87 = .ok (.iload 4, 2) := by decide +kernel
theorem dJ0_init_db425_89 : decode cJ0_init_db425 89 = .ok (.iconst 1, 1) := by decide +kernel
theorem dJ0_init_db425_90 : decode cJ0_init_db425 90 = .ok (.ishl, 1) := by decide +kernel
theorem dJ0_init_db425_91 : decode cJ0_init_db425 91 = .ok (.invokestatic 54, 3) := by decide +kernel
theorem dJ0_init_db425_94 : decode cJ0_init_db425 94 = .ok (.putfield 9, 3) := by decide +kernel
theorem dJ0_init_db425_97 : decode cJ0_init_db425 97 = .ok (.return_, 1) := by decide +kernel
theorem dJ0_coder_7d493_0 : decode cJ0_coder_7d493 0 = .ok (.getstatic 38, 3) := by decide +kernel
theorem dJ0_coder_7d493_3 : decode cJ0_coder_7d493 3 = .ok (.ifCond .eq 10, 3) := by decide +kernel
theorem dJ0_coder_7d493_6 : decode cJ0_coder_7d493 6 = .ok (.aload_n 0, 1) := by decide +kernel
theorem dJ0_coder_7d493_7 : decode cJ0_coder_7d493 7 = .ok (.getfield 15, 3) := by decide +kernel
theorem dJ0_coder_7d493_10 : decode cJ0_coder_7d493 10 = .ok (.goto 4, 3) := by decide +kernel
theorem dJ0_coder_7d493_13 : decode cJ0_coder_7d493 13 = .ok (.iconst 1, 1) := by decide +kernel
theorem dJ0_coder_7d493_14 : decode cJ0_coder_7d493 14 = .ok (.ireturn, 1) := by decide +kernel
theorem dJ0_isLatin1_aae02_0 : decode cJ0_isLatin1_aae02 0 = .ok (.getstatic 38, 3) := by decide +kernel
theorem dJ0_isLatin1_aae02_3 : decode cJ0_isLatin1_aae02 3 = .ok (.ifCond .eq 14, 3) := by decide +kernel
theorem dJ0_isLatin1_aae02_6 : decode cJ0_isLatin1_aae02 6 = .ok (.aload_n 0, 1) := by decide +kernel
theorem dJ0_isLatin1_aae02_7 : decode cJ0_isLatin1_aae02 7 = .ok (.getfield 15, 3) := by decide +kernel
theorem dJ0_isLatin1_aae02_10 : decode cJ0_isLatin1_aae02 10 = .ok (.ifCond .ne 7, 3) := by decide +kernel
theorem dJ0_isLatin1_aae02_13 : decode cJ0_isLatin1_aae02 13 = .ok (.iconst 1, 1) := by decide +kernel
theorem dJ0_isLatin1_aae02_14 : decode cJ0_isLatin1_aae02 14 = .ok (.goto 4, 3) := by decide +kernel
theorem dJ0_isLatin1_aae02_17 : decode cJ0_isLatin1_aae02 17 = .ok (.iconst 0, 1) := by decide +kernel
theorem dJ0_isLatin1_aae02_18 : decode cJ0_isLatin1_aae02 18 = .ok (.ireturn, 1) := by decide +kernel
theorem dJ0_checkIndex_df160_0 : decode cJ0_checkIndex_df160 0 = .ok (.iload_n 0, 1) := by decide +kernel
theorem dJ0_checkIndex_df160_1 : decode cJ0_checkIndex_df160 1 = .ok (.iload_n 1, 1) := by decide +kernel
theorem dJ0_checkIndex_df160_2 : decode cJ0_checkIndex_df160 2 = .ok (.getstatic 1053, 3) := by decide +kernel
theorem dJ0_checkIndex_df160_5 : decode cJ0_checkIndex_df160 5 = .ok (.invokestatic 1059, 3) := by decide +kernel
theorem dJ0_checkIndex_df160_8 : decode cJ0_checkIndex_df160 8 = .ok (.pop, 1) := by decide +kernel
theorem dJ0_checkIndex_df160_9 : decode cJ0_checkIndex_df160 9 = .ok (.return_, 1) := by decide +kernel
theorem dJ0_checkBoundsOffCount_cabcc_0 : decode cJ0_checkBoundsOffCount_cabcc 0 = .ok (.iload_n 0, 1) := by decide +kernel
theorem dJ0_checkBoundsOffCount_cabcc_1 : decode cJ0_checkBoundsOffCount_cabcc 1 = .ok (.iload_n 1, 1) := by decide +kernel
theorem dJ0_checkBoundsOffCount_cabcc_2 : decode cJ0_checkBoundsOffCount_cabcc 2 = .ok (.iload_n 2, 1) := by decide +kernel
theorem dJ0_checkBoundsOffCount_cabcc_3 : decode cJ0_checkBoundsOffCount_cabcc 3 = .ok (.getstatic 1053, 3) := by decide +kernel
theorem dJ0_checkBoundsOffCount_cabcc_6 : decode cJ0_checkBoundsOffCount_cabcc 6 = .ok (.invokestatic 1065, 3) := by decide +kernel
theorem dJ0_checkBoundsOffCount_cabcc_9 : decode cJ0_checkBoundsOffCount_cabcc 9 = .ok (.ireturn, 1) := by decide +kernel
theorem dJ0_checkBoundsBeginEnd_23922_0 : decode cJ0_checkBoundsBeginEnd_23922 0 = .ok (.iload_n 0, 1) := by decide +kernel
theorem dJ0_checkBoundsBeginEnd_23922_1 : decode cJ0_checkBoundsBeginEnd_23922 1 = .ok (.iload_n 1, 1) := by decide +kernel
theorem dJ0_checkBoundsBeginEnd_23922_2 : decode cJ0_checkBoundsBeginEnd_23922 2 = .ok (.iload_n 2, 1) := by decide +kernel
theorem dJ0_checkBoundsBeginEnd_23922_3 : decode cJ0_checkBoundsBeginEnd_23922 3 = .ok (.getstatic 1053, 3) := by decide +kernel
theorem dJ0_checkBoundsBeginEnd_23922_6 : decode cJ0_checkBoundsBeginEnd_23922 6 = .ok (.invokestatic 1062, 3) := by decide +kernel
theorem dJ0_checkBoundsBeginEnd_23922_9 : decode cJ0_checkBoundsBeginEnd_23922 9 = .ok (.pop, 1) := by decide +kernel
theorem dJ0_checkBoundsBeginEnd_23922_10 : decode cJ0_checkBoundsBeginEnd_23922 10 = .ok (.return_, 1) := by decide +kernel
theorem dJ4_init_da8c8_0 : decode cJ4_init_da8c8 0 = .ok (.aload_n 0, 1) := by decide +kernel
theorem dJ4_init_da8c8_1 : decode cJ4_init_da8c8 1 = .ok (.bipush 16, 2) := by decide +kernel
theorem dJ4_init_da8c8_3 : decode cJ4_init_da8c8 3 = .ok (.invokespecial 1, 3) := by decide +kernel
theorem dJ4_init_da8c8_6 : decode cJ4_init_da8c8 6 = .ok (.return_, 1) := by decide +kernel
theorem dJ4_append_15ec4_0 : decode cJ4_append_15ec4 0 = .ok (.aload_n 0, 1) := by decide +kernel
theorem dJ4_append_15ec4_1 : decode cJ4_append_15ec4 1 = .ok (.aload_n 1, 1) := by decide +kernel
theorem dJ4_append_15ec4_2 : decode cJ4_append_15ec4 2 = .ok (.invokespecial 29, 3) := by decide +kernel
theorem dJ4_append_15ec4_5 : decode cJ4_append_15ec4 5 = .ok (.pop, 1) := by decide +kernel
theorem dJ4_append_15ec4_6 : decode cJ4_append_15ec4 6 = .ok (.aload_n 0, 1) := by decide +kernel
theorem dJ4_append_15ec4_7 : decode cJ4_append_15ec4 7 = .ok (.areturn, 1) := by decide +kernel
theorem dJ4_append_bf812_0 : decode cJ4_append_bf812 0 = .ok (.aload_n 0, 1) := by decide +kernel
theorem dJ4_append_bf812_1 : decode cJ4_append_bf812 1 = .ok (.iload_n 1, 1) := by decide +kernel
theorem dJ4_append_bf812_2 : decode cJ4_append_bf812 2 = .ok (.invokespecial 53, 3) := by decide +kernel
theorem dJ4_append_bf812_5 : decode cJ4_append_bf812 5 = .ok (.pop, 1) := by decide +kernel
theorem dJ4_append_bf812_6 : decode cJ4_append_bf812 6 = .ok (.aload_n 0, 1) := by decide +kernel
theorem dJ4_append_bf812_7 : decode cJ4_append_bf812 7 = .ok (.areturn, 1) := by decide +kernel
theorem dJ4_toString_0e30d_0 : decode cJ4_toString_0e30d 0 = .ok (.new 18, 3) := by decide +kernel
theorem dJ4_toString_0e30d_3 : decode cJ4_toString_0e30d 3 = .ok (.dup, 1) := by decide +kernel
theorem dJ4_toString_0e30d_4 : decode cJ4_toString_0e30d 4 = .ok (.aload_n 0, 1) := by decide +kernel
theorem dJ4_toString_0e30d_5 : decode cJ4_toString_0e30d 5 = .ok (.invokespecial 137, 3) := by decide +kernel
theorem dJ4_toString_0e30d_8 : decode cJ4_toString_0e30d 8 = .ok (.areturn, 1) := by decide +kernel
theorem dJ4_length_8abf5_0 : decode cJ4_length_8abf5 0 = .ok (.aload_n 0, 1) := by decide +kernel
theorem dJ4_length_8abf5_1 : decode cJ4_length_8abf5 1 = .ok (.invokespecial 343, 3) := by decide +kernel
theorem dJ4_length_8abf5_4 : decode cJ4_length_8abf5 4 = .ok (.ireturn, 1) := by decide +kernel
theorem dJ1_charAt_3b067_0 : decode cJ1_charAt_3b067 0 = .ok (.iload_n 1, 1) := by decide +kernel
theorem dJ1_charAt_3b067_1 : decode cJ1_charAt_3b067 1 = .ok (.aload_n 0, 1) := by decide +kernel
theorem dJ1_charAt_3b067_2 : decode cJ1_charAt_3b067 2 = .ok (.arraylength, 1) := by decide +kernel
theorem dJ1_charAt_3b067_3 : decode cJ1_charAt_3b067 3 = .ok (.invokestatic 9, 3) := by decide +kernel
theorem dJ1_charAt_3b067_6 : decode cJ1_charAt_3b067 6 = .ok (.aload_n 0, 1) := by decide +kernel
theorem dJ1_charAt_3b067_7 : decode cJ1_charAt_3b067 7 = .ok (.iload_n 1, 1) := by decide +kernel
theorem dJ1_charAt_3b067_8 : decode cJ1_charAt_3b067 8 = .ok (.baload, 1) := by decide +kernel
theorem dJ1_charAt_3b067_9 : decode cJ1_charAt_3b067 9 = .ok (.sipush 255, 3) := by decide +kernel
theorem dJ1_charAt_3b067_12 : decode cJ1_charAt_3b067 12 = .ok (.iand, 1) := by decide +kernel
theorem dJ1_charAt_3b067_13 : decode cJ1_charAt_3b067 13 = .ok (.i2c, 1) := by decide +kernel
theorem dJ1_charAt_3b067_14 : decode cJ1_charAt_3b067 14 = .ok (.ireturn, 1) := by decide +kernel
theorem dJ1_inflate_0e8fd_0 : decode cJ1_inflate_0e8fd 0 = .ok (.aload_n 0, 1) := by decide +kernel
theorem dJ1_inflate_0e8fd_1 : decode cJ1_inflate_0e8fd 1 = .ok (.iload_n 1, 1) := by decide +kernel
theorem dJ1_inflate_0e8fd_2 : decode cJ1_inflate_0e8fd 2 = .ok (.aload_n 2, 1) := by decide +kernel
theorem dJ1_inflate_0e8fd_3 : decode cJ1_inflate_0e8fd 3 = .ok (.iload_n 3, 1) := by decide +kernel
theorem dJ1_inflate_0e8fd_4 : decode cJ1_inflate_0e8fd 4 = .ok (.iload 4, 2) := by decide +kernel
theorem dJ1_inflate_0e8fd_6 : decode cJ1_inflate_0e8fd 6 = .ok (.invokestatic 240, 3) := by decide +kernel
theorem dJ1_inflate_0e8fd_9 : decode cJ1_inflate_0e8fd 9 = .ok (.return_, 1) := by decide +kernel
theorem dJ2_newBytesFor_77867_0 : decode cJ2_newBytesFor_77867 0 = .ok (.iload_n 0, 1) := by decide +kernel
theorem dJ2_newBytesFor_77867_1 : decode cJ2_newBytesFor_77867 1 = .ok (.invokestatic 11, 3) := by decide +kernel
theorem dJ2_newBytesFor_77867_4 : decode cJ2_newBytesFor_77867 4 = .ok (.newarray .byte, 2) := by decide +kernel
theorem dJ2_newBytesFor_77867_6 : decode cJ2_newBytesFor_77867 6 = .ok (.areturn, 1) := by decide +kernel
theorem dJ2_newBytesLength_0f7a4_0 : decode cJ2_newBytesLength_0f7a4 0 = .ok (.iload_n 0, 1) := by decide +kernel
theorem dJ2_newBytesLength_0f7a4_1 : decode cJ2_newBytesLength_0f7a4 1 = .ok (.ifCond .ge 11, 3) := by decide +kernel
theorem dJ2_newBytesLength_0f7a4_4 : decode cJ2_newBytesLength_0f7a4 4 = .ok (.new 17, 3) := by decide +kernel
theorem dJ2_newBytesLength_0f7a4_7 : decode cJ2_newBytesLength_0f7a4 7 = .ok (.dup, 1) := by decide +kernel
theorem dJ2_newBytesLength_0f7a4_8 : decode cJ2_newBytesLength_0f7a4 8 = .ok (.invokespecial 19, 3) := by decide +kernel
theorem dJ2_newBytesLength_0f7a4_11 : decode cJ2_newBytesLength_0f7a4 11 = .ok (.athrow, 1) := by decide +kernel
theorem dJ2_newBytesLength_0f7a4_12 : decode cJ2_newBytesLength_0f7a4 12 = .ok (.iload_n 0, 1) := by decide +kernel
theorem dJ2_newBytesLength_0f7a4_13 : decode cJ2_newBytesLength_0f7a4 13 = .ok (.ldc 20, 2) := by decide +kernel
theorem dJ2_newBytesLength_0f7a4_15 : decode cJ2_newBytesLength_0f7a4 15 = .ok (.if_icmp .lt 40, 3) := by decide +kernel
theorem dJ2_newBytesLength_0f7a4_18 : decode cJ2_newBytesLength_0f7a4 18 = .ok (.new 21, 3) := by decide +kernel
theorem dJ2_newBytesLength_0f7a4_21 : decode cJ2_newBytesLength_0f7a4 21 = .ok (.dup, 1) := by decide +kernel
theorem dJ2_newBytesLength_0f7a4_22 : decode cJ2_newBytesLength_0f7a4 22 = .ok (.new 23, 3) := by decide +kernel
theorem dJ2_newBytesLength_0f7a4_25 : decode cJ2_newBytesLength_0f7a4 25 = .ok (.dup, 1) := by decide +kernel
theorem dJ2_newBytesLength_0f7a4_26 : decode cJ2_newBytesLength_0f7a4 26 = .ok (.invokespecial 25, 3) := by decide +kernel
theorem dJ2_newBytesLength_0f7a4_29 : decode cJ2_newBytesLength_0f7a4 29 = .ok (.ldc 26, 2) := by decide +kernel
theorem dJ2_newBytesLength_0f7a4_31 : decode cJ2_newBytesLength_0f7a4 31 = .ok (.invokevirtual 28, 3) := by decide +kernel
theorem dJ2_newBytesLength_0f7a4_34 : decode cJ2_newBytesLength_0f7a4 34 = .ok (.iload_n 0, 1) := by decide +kernel
theorem dJ2_newBytesLength_0f7a4_35 : decode cJ2_newBytesLength_0f7a4 35 = .ok (.invokevirtual 32, 3) := by decide +kernel
theorem dJ2_newBytesLength_0f7a4_38 : decode cJ2_newBytesLength_0f7a4 38 = .ok (.ldc 35, 2) := by decide +kernel
theorem dJ2_newBytesLength_0f7a4_40 : decode cJ2_newBytesLength_0f7a4 40 = .ok (.invokevirtual 28, 3) := by decide +kernel
theorem dJ2_newBytesLength_0f7a4_43 : decode cJ2_newBytesLength_0f7a4 43 = .ok (.ldc 20, 2) := by decide +kernel
theorem dJ2_newBytesLength_0f7a4_45 : decode cJ2_newBytesLength_0f7a4 45 = .ok (.invokevirtual 32, 3) := by decide +kernel
theorem dJ2_newBytesLength_0f7a4_48 : decode cJ2_newBytesLength_0f7a4 48 = .ok (.invokevirtual 37, 3) := by decide +kernel
theorem dJ2_newBytesLength_0f7a4_51 : decode cJ2_newBytesLength_0f7a4 51 = .ok (.invokespecial 41, 3) := by decide +kernel
theorem dJ2_newBytesLength_0f7a4_54 : decode cJ2_newBytesLength_0f7a4 54 = .ok (.athrow, 1) := by decide +kernel
theorem dJ2_newBytesLength_0f7a4_55 : decode cJ2_newBytesLength_0f7a4 55 = .ok (.iload_n 0, 1) := by decide +kernel
theorem dJ2_newBytesLength_0f7a4_56 : decode cJ2_newBytesLength_0f7a4 56 = .ok (.iconst 1, 1) := by decide +kernel
theorem dJ2_newBytesLength_0f7a4_57 : decode cJ2_newBytesLength_0f7a4 57 = .ok (.ishl, 1) := by decide +kernel
theorem dJ2_newBytesLength_0f7a4_58 : decode cJ2_newBytesLength_0f7a4 58 = .ok (.ireturn, 1) := by decide +kernel
theorem dJ2_putChar_b72d1_0 : decode cJ2_putChar_b72d1 0 = .ok (.getstatic 44, 3) := by decide +kernel
theorem dJ2_putChar_b72d1_3 : decode cJ2_putChar_b72d1 3 = .ok (.ifCond .ne 25, 3) := by decide +kernel
theorem dJ2_putChar_b72d1_6 : decode cJ2_putChar_b72d1 6 = .ok (.iload_n 1, 1) := by decide +kernel
theorem dJ2_putChar_b72d1_7 : decode cJ2_putChar_b72d1 7 = .ok (.ifCond .lt 11, 3) := by decide +kernel
theorem dJ2_putChar_b72d1_10 : decode cJ2_putChar_b72d1 10 = .ok (.iload_n 1, 1) := by decide +kernel
theorem dJ2_putChar_b72d1_11 : decode cJ2_putChar_b72d1 11 = .ok (.aload_n 0, 1) := by decide +kernel
theorem dJ2_putChar_b72d1_12 : decode cJ2_putChar_b72d1 12 = .ok (.invokestatic 48, 3) := by decide +kernel
theorem dJ2_putChar_b72d1_15 : decode cJ2_putChar_b72d1 15 = .ok (.if_icmp .lt 13, 3) := by decide +kernel
theorem dJ2_putChar_b72d1_18 : decode cJ2_putChar_b72d1 18 = .ok (.new 52, 3) := by decide +kernel
theorem dJ2_putChar_b72d1_21 : decode cJ2_putChar_b72d1 21 = .ok (.dup, 1) := by decide +kernel
theorem dJ2_putChar_b72d1_22 : decode cJ2_putChar_b72d1 22 = .ok (.ldc 54, 2) := by decide +kernel
theorem dJ2_putChar_b72d1_24 : decode cJ2_putChar_b72d1 24 = .ok (.invokespecial 56, 3) := by decide +kernel
theorem dJ2_putChar_b72d1_27 : decode cJ2_putChar_b72d1 27 = .ok (.athrow, 1) := by decide +kernel
theorem dJ2_putChar_b72d1_28 : decode cJ2_putChar_b72d1 28 = .ok (.iload_n 1, 1) := by decide +kernel
theorem dJ2_putChar_b72d1_29 : decode cJ2_putChar_b72d1 29 = .ok (.iconst 1, 1) := by decide +kernel
theorem dJ2_putChar_b72d1_30 : decode cJ2_putChar_b72d1 30 = .ok (.ishl, 1) := by decide +kernel
theorem dJ2_putChar_b72d1_31 : decode cJ2_putChar_b72d1 31 = .ok (.istore_n 1, 1) := by decide +kernel
theorem dJ2_putChar_b72d1_32 : decode cJ2_putChar_b72d1 32 = .ok (.aload_n 0, 1) := by decide +kernel
theorem dJ2_putChar_b72d1_33 : decode cJ2_putChar_b72d1 33 = .ok (.iload_n 1, 1) := by decide +kernel
theorem dJ2_putChar_b72d1_34 : decode cJ2_putChar_b72d1 34 = .ok (.iinc 1 1, 3) := by decide +kernel
theorem dJ2_putChar_b72d1_37 : decode cJ2_putChar_b72d1 37 = .ok (.iload_n 2, 1) := by decide +kernel
theorem dJ2_putChar_b72d1_38 : decode cJ2_putChar_b72d1 38 = .ok (.getstatic 59, 3) := by decide +kernel
theorem dJ2_putChar_b72d1_41 : decode cJ2_putChar_b72d1 41 = .ok (.ishr, 1) := by decide +kernel
theorem dJ2_putChar_b72d1_42 : decode cJ2_putChar_b72d1 42 = .ok (.i2b, 1) := by decide +kernel
theorem dJ2_putChar_b72d1_43 : decode cJ2_putChar_b72d1 43 = .ok (.bastore, 1) := by decide +kernel
theorem dJ2_putChar_b72d1_44 : decode cJ2_putChar_b72d1 44 = .ok (.aload_n 0, 1) := by decide +kernel
theorem dJ2_putChar_b72d1_45 : decode cJ2_putChar_b72d1 45 = .ok (.iload_n 1, 1) := by decide +kernel
theorem dJ2_putChar_b72d1_46 : decode cJ2_putChar_b72d1 46 = .ok (.iload_n 2, 1) := by decide +kernel
theorem dJ2_putChar_b72d1_47 : decode cJ2_putChar_b72d1 47 = .ok (.getstatic 63, 3) := by decide +kernel
theorem dJ2_putChar_b72d1_50 : decode cJ2_putChar_b72d1 50 = .ok (.ishr, 1) := by decide +kernel
theorem dJ2_putChar_b72d1_51 : decode cJ2_putChar_b72d1 51 = .ok (.i2b, 1) := by decide +kernel
theorem dJ2_putChar_b72d1_52 : decode cJ2_putChar_b72d1 52 = .ok (.bastore, 1) := by decide +kernel
theorem dJ2_putChar_b72d1_53 : decode cJ2_putChar_b72d1 53 = .ok (.return_, 1) := by decide +kernel
theorem dJ2_getChar_3b067_0 : decode cJ2_getChar_3b067 0 = .ok (.getstatic 44, 3) := by decide +kernel
theorem dJ2_getChar_3b067_3 : decode cJ2_getChar_3b067 3 = .ok (.ifCond .ne 25, 3) := by decide +kernel
theorem dJ2_getChar_3b067_6 : decode cJ2_getChar_3b067 6 = .ok (.iload_n 1, 1) := by decide +kernel
theorem dJ2_getChar_3b067_7 : decode cJ2_getChar_3b067 7 = .ok (.ifCond .lt 11, 3) := by decide +kernel
theorem dJ2_getChar_3b067_10 : decode cJ2_getChar_3b067 10 = .ok (.iload_n 1, 1) := by decide +kernel
theorem dJ2_getChar_3b067_11 : decode cJ2_getChar_3b067 11 = .ok (.aload_n 0, 1) := by decide +kernel
theorem dJ2_getChar_3b067_12 : decode cJ2_getChar_3b067 12 = .ok (.invokestatic 48, 3) := by decide +kernel
theorem dJ2_getChar_3b067_15 : decode cJ2_getChar_3b067 15 = .ok (.if_icmp .lt 13, 3) := by decide +kernel
theorem dJ2_getChar_3b067_18 : decode cJ2_getChar_3b067 18 = .ok (.new 52, 3) := by decide +kernel
theorem dJ2_getChar_3b067_21 : decode cJ2_getChar_3b067 21 = .ok (.dup, 1) := by decide +kernel
theorem dJ2_getChar_3b067_22 : decode cJ2_getChar_3b067 22 = .ok (.ldc 54, 2) := by decide +kernel
theorem dJ2_getChar_3b067_24 : decode cJ2_getChar_3b067 24 = .ok (.invokespecial 56, 3) := by decide +kernel
theorem dJ2_getChar_3b067_27 : decode cJ2_getChar_3b067 27 = .ok (.athrow, 1) := by decide +kernel
theorem dJ2_getChar_3b067_28 : decode cJ2_getChar_3b067 28 = .ok (.iload_n 1, 1) := by decide +kernel
theorem dJ2_getChar_3b067_29 : decode cJ2_getChar_3b067 29 = .ok (.iconst 1, 1) := by decide +kernel
theorem dJ2_getChar_3b067_30 : decode cJ2_getChar_3b067 30 = .ok (.ishl, 1) := by decide +kernel
theorem dJ2_getChar_3b067_31 : decode cJ2_getChar_3b067 31 = .ok (.istore_n 1, 1) := by decide +kernel
theorem dJ2_getChar_3b067_32 : decode cJ2_getChar_3b067 32 = .ok (.aload_n 0, 1) := by decide +kernel
theorem dJ2_getChar_3b067_33 : decode cJ2_getChar_3b067 33 = .ok (.iload_n 1, 1) := by decide +kernel
theorem dJ2_getChar_3b067_34 : decode cJ2_getChar_3b067 34 = .ok (.iinc 1 1, 3) := by decide +kernel
theorem dJ2_getChar_3b067_37 : decode cJ2_getChar_3b067 37 = .ok (.baload, 1) := by decide +kernel
theorem dJ2_getChar_3b067_38 : decode cJ2_getChar_3b067 38 = .ok (.sipush 255, 3) := by decide +kernel
theorem dJ2_getChar_3b067_41 : decode cJ2_getChar_3b067 41 = .ok (.iand, 1) := by decide +kernel
theorem dJ2_getChar_3b067_42 : decode cJ2_getChar_3b067 42 = .ok (.getstatic 59, 3) := by decide +kernel
theorem dJ2_getChar_3b067_45 : decode cJ2_getChar_3b067 45 = .ok (.ishl, 1) := by decide +kernel
theorem dJ2_getChar_3b067_46 : decode cJ2_getChar_3b067 46 = .ok (.aload_n 0, 1) := by decide +kernel
theorem dJ2_getChar_3b067_47 : decode cJ2_getChar_3b067 47 = .ok (.iload_n 1, 1) := by decide +kernel
theorem dJ2_getChar_3b067_48 : decode cJ2_getChar_3b067 48 = .ok (.baload, 1) := by decide +kernel
theorem dJ2_getChar_3b067_49 : decode cJ2_getChar_3b067 49 = .ok (.sipush 255, 3) := by decide +kernel
theorem dJ2_getChar_3b067_52 : decode cJ2_getChar_3b067 52 = .ok (.iand, 1) := by decide +kernel
theorem dJ2_getChar_3b067_53 : decode cJ2_getChar_3b067 53 = .ok (.getstatic 63, 3) := by decide +kernel
theorem dJ2_getChar_3b067_56 : decode cJ2_getChar_3b067 56 = .ok (.ishl, 1) := by decide +kernel
theorem dJ2_getChar_3b067_57 : decode cJ2_getChar_3b067 57 = .ok (.ior, 1) := by decide +kernel
theorem dJ2_getChar_3b067_58 : decode cJ2_getChar_3b067 58 = .ok (.i2c, 1) := by decide +kernel
theorem dJ2_getChar_3b067_59 : decode cJ2_getChar_3b067 59 = .ok (.ireturn, 1) := by decide +kernel
theorem dJ2_length_9d52b_0 : decode cJ2_length_9d52b 0 = .ok (.aload_n 0, 1) := by decide +kernel
theorem dJ2_length_9d52b_1 : decode cJ2_length_9d52b 1 = .ok (.arraylength, 1) := by decide +kernel
theorem dJ2_length_9d52b_2 : decode cJ2_length_9d52b 2 = .ok (.iconst 1, 1) := by decide +kernel
theorem dJ2_length_9d52b_3 : decode cJ2_length_9d52b 3 = .ok (.ishr, 1) := by decide +kernel
theorem dJ2_length_9d52b_4 : decode cJ2_length_9d52b 4 = .ok (.ireturn, 1) := by decide +kernel
theorem dJ2_coderFromArrayLen_85cad_0 : decode cJ2_coderFromArrayLen_85cad 0 = .ok (.iload_n 1, 1) := by decide +kernel
theorem dJ2_coderFromArrayLen_85cad_1 : decode cJ2_coderFromArrayLen_85cad 1 = .ok (.aload_n 0, 1) := by decide +kernel
theorem dJ2_coderFromArrayLen_85cad_2 : decode cJ2_coderFromArrayLen_85cad 2 = .ok (.arraylength, 1) := by decide +kernel
theorem dJ2_coderFromArrayLen_85cad_3 : decode cJ2_coderFromArrayLen_85cad 3 = .ok (.isub, 1) := by decide +kernel
theorem dJ2_coderFromArrayLen_85cad_4 : decode cJ2_coderFromArrayLen_85cad 4 = .ok (.bipush 31, 2) := by decide +kernel
theorem dJ2_coderFromArrayLen_85cad_6 : decode cJ2_coderFromArrayLen_85cad 6 = .ok (.iushr, 1) := by decide +kernel
theorem dJ2_coderFromArrayLen_85cad_7 : decode cJ2_coderFromArrayLen_85cad 7 = .ok (.i2b, 1) := by decide +kernel
theorem dJ2_coderFromArrayLen_85cad_8 : decode cJ2_coderFromArrayLen_85cad 8 = .ok (.ireturn, 1) := by decide +kernel
theorem dJ2_compress_39247_0 : decode cJ2_compress_39247 0 = .ok (.iload_n 2, 1) := by decide +kernel
theorem dJ2_compress_39247_1 : decode cJ2_compress_39247 1 = .ok (.newarray .byte, 2) := by decide +kernel
theorem dJ2_compress_39247_3 : decode cJ2_compress_39247 3 = .ok (.astore_n 3, 1) := by decide +kernel
theorem dJ2_compress_39247_4 : decode cJ2_compress_39247 4 = .ok (.aload_n 0, 1) := by decide +kernel
theorem dJ2_compress_39247_5 : decode cJ2_compress_39247 5 = .ok (.iload_n 1, 1) := by decide +kernel
theorem dJ2_compress_39247_6 : decode cJ2_compress_39247 6 = .ok (.aload_n 3, 1) := by decide +kernel
theorem dJ2_compress_39247_7 : decode cJ2_compress_39247 7 = .ok (.iconst 0, 1) := by decide +kernel
theorem dJ2_compress_39247_8 : decode cJ2_compress_39247 8 = .ok (.iload_n 2, 1) := by decide +kernel
theorem dJ2_compress_39247_9 : decode cJ2_compress_39247 9 = .ok (.invokestatic 123, 3) := by decide +kernel
theorem dJ2_compress_39247_12 : decode cJ2_compress_39247 12 = .ok (.istore 4, 2) := by decide +kernel
theorem dJ2_compress_39247_14 : decode cJ2_compress_39247 14 = .ok (.iload 4, 2) := by decide +kernel
theorem dJ2_compress_39247_16 : decode cJ2_compress_39247 16 = .ok (.iload_n 2, 1) := by decide +kernel
theorem dJ2_compress_39247_17 : decode cJ2_compress_39247 17 = .ok (.if_icmp .eq 47, 3) := by decide +kernel
theorem dJ2_compress_39247_20 : decode cJ2_compress_39247 20 = .ok (.aload_n 0, 1) := by decide +kernel
theorem dJ2_compress_39247_21 : decode cJ2_compress_39247 21 = .ok (.iload_n 1, 1) := by decide +kernel
theorem dJ2_compress_39247_22 : decode cJ2_compress_39247 22 = .ok (.iconst 1, 1) := by decide +kernel
theorem dJ2_compress_39247_23 : decode cJ2_compress_39247 23 = .ok (.ishl, 1) := by decide +kernel
theorem dJ2_compress_39247_24 : decode cJ2_compress_39247 24 = .ok (.iload_n 1, 1) := by decide +kernel
theorem dJ2_compress_39247_25 : decode cJ2_compress_39247 25 = .ok (.iload_n 2, 1) := by decide +kernel
theorem dJ2_compress_39247_26 : decode cJ2_compress_39247 26 = .ok (.iadd, 1) := by decide +kernel
theorem dJ2_compress_39247_27 : decode cJ2_compress_39247 27 = .ok (.invokestatic 11, 3) := by decide +kernel
theorem dJ2_compress_39247_30 : decode cJ2_compress_39247 30 = .ok (.invokestatic 126, 3) := by decide +kernel
theorem dJ2_compress_39247_33 : decode cJ2_compress_39247 33 = .ok (.astore 5, 2) := by decide +kernel
theorem dJ2_compress_39247_35 : decode cJ2_compress_39247 35 = .ok (.aload 5, 2) := by decide +kernel
theorem dJ2_compress_39247_37 : decode cJ2_compress_39247 37 = .ok (.iload 4, 2) := by decide +kernel
theorem dJ2_compress_39247_39 : decode cJ2_compress_39247 39 = .ok (.invokestatic 71, 3) := by decide +kernel
theorem dJ2_compress_39247_42 : decode cJ2_compress_39247 42 = .ok (.sipush 255, 3) := by decide +kernel
theorem dJ2_compress_39247_45 : decode cJ2_compress_39247 45 = .ok (.if_icmp .gt 16, 3) := by decide +kernel
theorem dJ2_compress_39247_48 : decode cJ2_compress_39247 48 = .ok (.aload 5, 2) := by decide +kernel
theorem dJ2_compress_39247_50 : decode cJ2_compress_39247 50 = .ok (.iconst 0, 1) := by decide +kernel
theorem dJ2_compress_39247_51 : decode cJ2_compress_39247 51 = .ok (.aload_n 3, 1) := by decide +kernel
theorem dJ2_compress_39247_52 : decode cJ2_compress_39247 52 = .ok (.iconst 0, 1) := by decide +kernel
theorem dJ2_compress_39247_53 : decode cJ2_compress_39247 53 = .ok (.iload_n 2, 1) := by decide +kernel
theorem dJ2_compress_39247_54 : decode cJ2_compress_39247 54 = .ok (.invokestatic 123, 3) := by decide +kernel
theorem dJ2_compress_39247_57 : decode cJ2_compress_39247 57 = .ok (.iload_n 2, 1) := by decide +kernel
theorem dJ2_compress_39247_58 : decode cJ2_compress_39247 58 = .ok (.if_icmp .eq 6, 3) := by decide +kernel
theorem dJ2_compress_39247_61 : decode cJ2_compress_39247 61 = .ok (.aload 5, 2) := by decide +kernel
theorem dJ2_compress_39247_63 : decode cJ2_compress_39247 63 = .ok (.areturn, 1) := by decide +kernel
theorem dJ2_compress_39247_64 : decode cJ2_compress_39247 64 = .ok (.aload_n 3, 1) := by decide +kernel
theorem dJ2_compress_39247_65 : decode cJ2_compress_39247 65 = .ok (.areturn, 1) := by decide +kernel
theorem dJ2_compress_5af95_0 : decode cJ2_compress_5af95 0 = .ok (.iload_n 1, 1) := by decide +kernel
theorem dJ2_compress_5af95_1 : decode cJ2_compress_5af95 1 = .ok (.iload 4, 2) := by decide +kernel
theorem dJ2_compress_5af95_3 : decode cJ2_compress_5af95 3 = .ok (.aload_n 0, 1) := by decide +kernel
theorem dJ2_compress_5af95_4 : decode cJ2_compress_5af95 4 = .ok (.invokestatic 173, 3) := by decide +kernel
theorem dJ2_compress_5af95_7 : decode cJ2_compress_5af95 7 = .ok (.iconst 0, 1) := by decide +kernel
theorem dJ2_compress_5af95_8 : decode cJ2_compress_5af95 8 = .ok (.istore 5, 2) := by decide +kernel
theorem dJ2_compress_5af95_10 : decode cJ2_compress_5af95 10 = .ok (.iload 5, 2) := by decide +kernel
theorem dJ2_compress_5af95_12 : decode cJ2_compress_5af95 12 = .ok (.iload 4, 2) := by decide +kernel
theorem dJ2_compress_5af95_14 : decode cJ2_compress_5af95 14 = .ok (.if_icmp .ge 39, 3) := by decide +kernel
theorem dJ2_compress_5af95_17 : decode cJ2_compress_5af95 17 = .ok (.aload_n 0, 1) := by decide +kernel
theorem dJ2_compress_5af95_18 : decode cJ2_compress_5af95 18 = .ok (.iload_n 1, 1) := by decide +kernel
theorem dJ2_compress_5af95_19 : decode cJ2_compress_5af95 19 = .ok (.invokestatic 71, 3) := by decide +kernel
theorem dJ2_compress_5af95_22 : decode cJ2_compress_5af95 22 = .ok (.istore 6, 2) := by decide +kernel
theorem dJ2_compress_5af95_24 : decode cJ2_compress_5af95 24 = .ok (.iload 6, 2) := by decide +kernel
theorem dJ2_compress_5af95_26 : decode cJ2_compress_5af95 26 = .ok (.sipush 255, 3) := by decide +kernel
theorem dJ2_compress_5af95_29 : decode cJ2_compress_5af95 29 = .ok (.if_icmp .le 6, 3) := by decide +kernel
theorem dJ2_compress_5af95_32 : decode cJ2_compress_5af95 32 = .ok (.iload 5, 2) := by decide +kernel
theorem dJ2_compress_5af95_34 : decode cJ2_compress_5af95 34 = .ok (.ireturn, 1) := by decide +kernel
theorem dJ2_compress_5af95_35 : decode cJ2_compress_5af95 35 = .ok (.aload_n 2, 1) := by decide +kernel
theorem dJ2_compress_5af95_36 : decode cJ2_compress_5af95 36 = .ok (.iload_n 3, 1) := by decide +kernel
theorem dJ2_compress_5af95_37 : decode cJ2_compress_5af95 37 = .ok (.iload 6, 2) := by decide +kernel
theorem dJ2_compress_5af95_39 : decode cJ2_compress_5af95 39 = .ok (.i2b, 1) := by decide +kernel
theorem dJ2_compress_5af95_40 : decode cJ2_compress_5af95 40 = .ok (.bastore, 1) := by decide +kernel
theorem dJ2_compress_5af95_41 : decode cJ2_compress_5af95 41 = .ok (.iinc 1 1, 3) := by decide +kernel
theorem dJ2_compress_5af95_44 : decode cJ2_compress_5af95 44 = .ok (.iinc 3 1, 3) := by decide +kernel
theorem dJ2_compress_5af95_47 : decode cJ2_compress_5af95 47 = .ok (.iinc 5 1, 3) := by decide +kernel
theorem dJ2_compress_5af95_50 : decode cJ2_compress_5af95 50 = .ok (.goto (-40), 3) := by decide +kernel
theorem dJ2_compress_5af95_53 : decode cJ2_compress_5af95 53 = .ok (.iload 4, 2) := by decide +kernel
theorem dJ2_compress_5af95_55 : decode cJ2_compress_5af95 55 = .ok (.ireturn, 1) := by decide +kernel
theorem dJ2_getChars_46870_0 : decode cJ2_getChars_46870 0 = .ok (.iload_n 1, 1) := by decide +kernel
theorem dJ2_getChars_46870_1 : decode cJ2_getChars_46870 1 = .ok (.iload_n 2, 1) := by decide +kernel
theorem dJ2_getChars_46870_2 : decode cJ2_getChars_46870 2 = .ok (.aload_n 3, 1) := by decide +kernel
theorem dJ2_getChars_46870_3 : decode cJ2_getChars_46870 3 = .ok (.invokestatic 96, 3) := by decide +kernel
theorem dJ2_getChars_46870_6 : decode cJ2_getChars_46870 6 = .ok (.iload_n 0, 1) := by decide +kernel
theorem dJ2_getChars_46870_7 : decode cJ2_getChars_46870 7 = .ok (.iload_n 2, 1) := by decide +kernel
theorem dJ2_getChars_46870_8 : decode cJ2_getChars_46870 8 = .ok (.aload_n 3, 1) := by decide +kernel
theorem dJ2_getChars_46870_9 : decode cJ2_getChars_46870 9 = .ok (.invokestatic 393, 3) := by decide +kernel
theorem dJ2_getChars_46870_12 : decode cJ2_getChars_46870 12 = .ok (.istore 4, 2) := by decide +kernel
theorem dJ2_getChars_46870_14 : decode cJ2_getChars_46870 14 = .ok (.getstatic 44, 3) := by decide +kernel
theorem dJ2_getChars_46870_17 : decode cJ2_getChars_46870 17 = .ok (.ifCond .ne 17, 3) := by decide +kernel
theorem dJ2_getChars_46870_20 : decode cJ2_getChars_46870 20 = .ok (.iload_n 1, 1) := by decide +kernel
theorem dJ2_getChars_46870_21 : decode cJ2_getChars_46870 21 = .ok (.iload 4, 2) := by decide +kernel
theorem dJ2_getChars_46870_23 : decode cJ2_getChars_46870 23 = .ok (.if_icmp .eq 11, 3) := by decide +kernel
theorem dJ2_getChars_46870_26 : decode cJ2_getChars_46870 26 = .ok (.new 52, 3) := by decide +kernel
theorem dJ2_getChars_46870_29 : decode cJ2_getChars_46870 29 = .ok (.dup, 1) := by decide +kernel
theorem dJ2_getChars_46870_30 : decode cJ2_getChars_46870 30 = .ok (.invokespecial 66, 3) := by decide +kernel
theorem dJ2_getChars_46870_33 : decode cJ2_getChars_46870 33 = .ok (.athrow, 1) := by decide +kernel
theorem dJ2_getChars_46870_34 : decode cJ2_getChars_46870 34 = .ok (.iload 4, 2) := by decide +kernel
theorem dJ2_getChars_46870_36 : decode cJ2_getChars_46870 36 = .ok (.ireturn, 1) := by decide +kernel
theorem dJ2_putCharsAt_cd4e5_0 : decode cJ2_putCharsAt_cd4e5 0 = .ok (.iload_n 1, 1) := by decide +kernel
theorem dJ2_putCharsAt_cd4e5_1 : decode cJ2_putCharsAt_cd4e5 1 = .ok (.iconst 4, 1) := by decide +kernel
theorem dJ2_putCharsAt_cd4e5_2 : decode cJ2_putCharsAt_cd4e5 2 = .ok (.iadd, 1) := by decide +kernel
theorem dJ2_putCharsAt_cd4e5_3 : decode cJ2_putCharsAt_cd4e5 3 = .ok (.istore 6, 2) := by decide +kernel
theorem dJ2_putCharsAt_cd4e5_5 : decode cJ2_putCharsAt_cd4e5 5 = .ok (.iload_n 1, 1) := by decide +kernel
theorem dJ2_putCharsAt_cd4e5_6 : decode cJ2_putCharsAt_cd4e5 6 = .ok (.iload 6, 2) := by decide +kernel
theorem dJ2_putCharsAt_cd4e5_8 : decode cJ2_putCharsAt_cd4e5 8 = .ok (.aload_n 0, 1) := by decide +kernel
theorem dJ2_putCharsAt_cd4e5_9 : decode cJ2_putCharsAt_cd4e5 9 = .ok (.invokestatic 96, 3) := by decide +kernel
theorem dJ2_putCharsAt_cd4e5_12 : decode cJ2_putCharsAt_cd4e5 12 = .ok (.aload_n 0, 1) := by decide +kernel
theorem dJ2_putCharsAt_cd4e5_13 : decode cJ2_putCharsAt_cd4e5 13 = .ok (.iload_n 1, 1) := by decide +kernel
theorem dJ2_putCharsAt_cd4e5_14 : decode cJ2_putCharsAt_cd4e5 14 = .ok (.iinc 1 1, 3) := by decide +kernel
theorem dJ2_putCharsAt_cd4e5_17 : decode cJ2_putCharsAt_cd4e5 17 = .ok (.iload_n 2, 1) := by decide +kernel
theorem dJ2_putCharsAt_cd4e5_18 : decode cJ2_putCharsAt_cd4e5 18 = .ok (.invokestatic 111, 3) := by decide +kernel
theorem dJ2_putCharsAt_cd4e5_21 : decode cJ2_putCharsAt_cd4e5 21 = .ok (.aload_n 0, 1) := by decide +kernel
theorem dJ2_putCharsAt_cd4e5_22 : decode cJ2_putCharsAt_cd4e5 22 = .ok (.iload_n 1, 1) := by decide +kernel
theorem dJ2_putCharsAt_cd4e5_23 : decode cJ2_putCharsAt_cd4e5 23 = .ok (.iinc 1 1, 3) := by decide +kernel
theorem dJ2_putCharsAt_cd4e5_26 : decode cJ2_putCharsAt_cd4e5 26 = .ok (.iload_n 3, 1) := by decide +kernel
theorem dJ2_putCharsAt_cd4e5_27 : decode cJ2_putCharsAt_cd4e5 27 = .ok (.invokestatic 111, 3) := by decide +kernel
theorem dJ2_putCharsAt_cd4e5_30 : decode cJ2_putCharsAt_cd4e5 30 = .ok (.aload_n 0, 1) := by decide +kernel
theorem dJ2_putCharsAt_cd4e5_31 : decode cJ2_putCharsAt_cd4e5 31 = .ok (.iload_n 1, 1) := by decide +kernel
theorem dJ2_putCharsAt_cd4e5_32 : decode cJ2_putCharsAt_cd4e5 32 = .ok (.iinc 1 1, 3) := by decide +kernel
theorem dJ2_putCharsAt_cd4e5_35 : decode cJ2_putCharsAt_cd4e5 35 = .ok (.iload 4, 2) := by decide +kernel
theorem dJ2_putCharsAt_cd4e5_37 : decode cJ2_putCharsAt_cd4e5 37 = .ok (.invokestatic 111, 3) := by decide +kernel
theorem dJ2_putCharsAt_cd4e5_40 : decode cJ2_putCharsAt_cd4e5 40 = .ok (.aload_n 0, 1) := by decide +kernel
theorem dJ2_putCharsAt_cd4e5_41 : decode cJ2_putCharsAt_cd4e5 41 = .ok (.iload_n 1, 1) := by decide +kernel
theorem dJ2_putCharsAt_cd4e5_42 : decode cJ2_putCharsAt_cd4e5 42 = .ok (.iinc 1 1, 3) := by decide +kernel
theorem dJ2_putCharsAt_cd4e5_45 : decode cJ2_putCharsAt_cd4e5 45 = .ok (.iload 5, 2) := by decide +kernel
theorem dJ2_putCharsAt_cd4e5_47 : decode cJ2_putCharsAt_cd4e5 47 = .ok (.invokestatic 111, 3) := by decide +kernel
theorem dJ2_putCharsAt_cd4e5_50 : decode cJ2_putCharsAt_cd4e5 50 = .ok (.getstatic 44, 3) := by decide +kernel
theorem dJ2_putCharsAt_cd4e5_53 : decode cJ2_putCharsAt_cd4e5 53 = .ok (.ifCond .ne 17, 3) := by decide +kernel
theorem dJ2_putCharsAt_cd4e5_56 : decode cJ2_putCharsAt_cd4e5 56 = .ok (.iload_n 1, 1) := by decide +kernel
theorem dJ2_putCharsAt_cd4e5_57 : decode cJ2_putCharsAt_cd4e5 57 = .ok (.iload 6, 2) := by decide +kernel
theorem dJ2_putCharsAt_cd4e5_59 : decode cJ2_putCharsAt_cd4e5 59 = .ok (.if_icmp .eq 11, 3) := by decide +kernel
theorem dJ2_putCharsAt_cd4e5_62 : decode cJ2_putCharsAt_cd4e5 62 = .ok (.new 52, 3) := by decide +kernel
theorem dJ2_putCharsAt_cd4e5_65 : decode cJ2_putCharsAt_cd4e5 65 = .ok (.dup, 1) := by decide +kernel
theorem dJ2_putCharsAt_cd4e5_66 : decode cJ2_putCharsAt_cd4e5 66 = .ok (.invokespecial 66, 3) := by decide +kernel
theorem dJ2_putCharsAt_cd4e5_69 : decode cJ2_putCharsAt_cd4e5 69 = .ok (.athrow, 1) := by decide +kernel
theorem dJ2_putCharsAt_cd4e5_70 : decode cJ2_putCharsAt_cd4e5 70 = .ok (.iload 6, 2) := by decide +kernel
theorem dJ2_putCharsAt_cd4e5_72 : decode cJ2_putCharsAt_cd4e5 72 = .ok (.ireturn, 1) := by decide +kernel
theorem dJ2_charAt_3b067_0 : decode cJ2_charAt_3b067 0 = .ok (.iload_n 1, 1) := by decide +kernel
theorem dJ2_charAt_3b067_1 : decode cJ2_charAt_3b067 1 = .ok (.aload_n 0, 1) := by decide +kernel
theorem dJ2_charAt_3b067_2 : decode cJ2_charAt_3b067 2 = .ok (.invokestatic 67, 3) := by decide +kernel
theorem dJ2_charAt_3b067_5 : decode cJ2_charAt_3b067 5 = .ok (.aload_n 0, 1) := by decide +kernel
theorem dJ2_charAt_3b067_6 : decode cJ2_charAt_3b067 6 = .ok (.iload_n 1, 1) := by decide +kernel
theorem dJ2_charAt_3b067_7 : decode cJ2_charAt_3b067 7 = .ok (.invokestatic 71, 3) := by decide +kernel
theorem dJ2_charAt_3b067_10 : decode cJ2_charAt_3b067 10 = .ok (.ireturn, 1) := by decide +kernel
theorem dJ2_inflate_0e8fd_0 : decode cJ2_inflate_0e8fd 0 = .ok (.iload_n 3, 1) := by decide +kernel
theorem dJ2_inflate_0e8fd_1 : decode cJ2_inflate_0e8fd 1 = .ok (.iload 4, 2) := by decide +kernel
theorem dJ2_inflate_0e8fd_3 : decode cJ2_inflate_0e8fd 3 = .ok (.aload_n 2, 1) := by decide +kernel
theorem dJ2_inflate_0e8fd_4 : decode cJ2_inflate_0e8fd 4 = .ok (.invokestatic 173, 3) := by decide +kernel
theorem dJ2_inflate_0e8fd_7 : decode cJ2_inflate_0e8fd 7 = .ok (.iconst 0, 1) := by decide +kernel
theorem dJ2_inflate_0e8fd_8 : decode cJ2_inflate_0e8fd 8 = .ok (.istore 5, 2) := by decide +kernel
theorem dJ2_inflate_0e8fd_10 : decode cJ2_inflate_0e8fd 10 = .ok (.iload 5, 2) := by decide +kernel
theorem dJ2_inflate_0e8fd_12 : decode cJ2_inflate_0e8fd 12 = .ok (.iload 4, 2) := by decide +kernel
theorem dJ2_inflate_0e8fd_14 : decode cJ2_inflate_0e8fd 14 = .ok (.if_icmp .ge 27, 3) := by decide +kernel
theorem dJ2_inflate_0e8fd_17 : decode cJ2_inflate_0e8fd 17 = .ok (.aload_n 2, 1) := by decide +kernel
theorem dJ2_inflate_0e8fd_18 : decode cJ2_inflate_0e8fd 18 = .ok (.iload_n 3, 1) := by decide +kernel
theorem dJ2_inflate_0e8fd_19 : decode cJ2_inflate_0e8fd 19 = .ok (.iinc 3 1, 3) := by decide +kernel
theorem dJ2_inflate_0e8fd_22 : decode cJ2_inflate_0e8fd 22 = .ok (.aload_n 0, 1) := by decide +kernel
theorem dJ2_inflate_0e8fd_23 : decode cJ2_inflate_0e8fd 23 = .ok (.iload_n 1, 1) := by decide +kernel
theorem dJ2_inflate_0e8fd_24 : decode cJ2_inflate_0e8fd 24 = .ok (.iinc 1 1, 3) := by decide +kernel
theorem dJ2_inflate_0e8fd_27 : decode cJ2_inflate_0e8fd 27 = .ok (.baload, 1) := by decide +kernel
theorem dJ2_inflate_0e8fd_28 : decode cJ2_inflate_0e8fd 28 = .ok (.sipush 255, 3) := by decide +kernel
theorem dJ2_inflate_0e8fd_31 : decode cJ2_inflate_0e8fd 31 = .ok (.iand, 1) := by decide +kernel
theorem dJ2_inflate_0e8fd_32 : decode cJ2_inflate_0e8fd 32 = .ok (.invokestatic 111, 3) := by decide +kernel
theorem dJ2_inflate_0e8fd_35 : decode cJ2_inflate_0e8fd 35 = .ok (.iinc 5 1, 3) := by decide +kernel
theorem dJ2_inflate_0e8fd_38 : decode cJ2_inflate_0e8fd 38 = .ok (.goto (-28), 3) := by decide +kernel
theorem dJ2_inflate_0e8fd_41 : decode cJ2_inflate_0e8fd 41 = .ok (.return_, 1) := by decide +kernel
theorem dJ2_getChars_ba4f3_0 : decode cJ2_getChars_ba4f3 0 = .ok (.iload_n 1, 1) := by decide +kernel
theorem dJ2_getChars_ba4f3_1 : decode cJ2_getChars_ba4f3 1 = .ok (.istore 5, 2) := by decide +kernel
theorem dJ2_getChars_ba4f3_3 : decode cJ2_getChars_ba4f3 3 = .ok (.iload_n 0, 1) := by decide +kernel
theorem dJ2_getChars_ba4f3_4 : decode cJ2_getChars_ba4f3 4 = .ok (.ifCond .ge 7, 3) := by decide +kernel
theorem dJ2_getChars_ba4f3_7 : decode cJ2_getChars_ba4f3 7 = .ok (.iconst 1, 1) := by decide +kernel
theorem dJ2_getChars_ba4f3_8 : decode cJ2_getChars_ba4f3 8 = .ok (.goto 4, 3) := by decide +kernel
theorem dJ2_getChars_ba4f3_11 : decode cJ2_getChars_ba4f3 11 = .ok (.iconst 0, 1) := by decide +kernel
theorem dJ2_getChars_ba4f3_12 : decode cJ2_getChars_ba4f3 12 = .ok (.istore 6, 2) := by decide +kernel
theorem dJ2_getChars_ba4f3_14 : decode cJ2_getChars_ba4f3 14 = .ok (.iload 6, 2) := by decide +kernel
theorem dJ2_getChars_ba4f3_16 : decode cJ2_getChars_ba4f3 16 = .ok (.ifCond .ne 6, 3) := by decide +kernel
theorem dJ2_getChars_ba4f3_19 : decode cJ2_getChars_ba4f3 19 = .ok (.iload_n 0, 1) := by decide +kernel
theorem dJ2_getChars_ba4f3_20 : decode cJ2_getChars_ba4f3 20 = .ok (.ineg, 1) := by decide +kernel
theorem dJ2_getChars_ba4f3_21 : decode cJ2_getChars_ba4f3 21 = .ok (.istore_n 0, 1) := by decide +kernel
theorem dJ2_getChars_ba4f3_22 : decode cJ2_getChars_ba4f3 22 = .ok (.iload_n 0, 1) := by decide +kernel
theorem dJ2_getChars_ba4f3_23 : decode cJ2_getChars_ba4f3 23 = .ok (.bipush (-100), 2) := by decide +kernel
theorem dJ2_getChars_ba4f3_25 : decode cJ2_getChars_ba4f3 25 = .ok (.if_icmp .gt 51, 3) := by decide +kernel
theorem dJ2_getChars_ba4f3_28 : decode cJ2_getChars_ba4f3 28 = .ok (.iload_n 0, 1) := by decide +kernel
theorem dJ2_getChars_ba4f3_29 : decode cJ2_getChars_ba4f3 29 = .ok (.bipush 100, 2) := by decide +kernel
theorem dJ2_getChars_ba4f3_31 : decode cJ2_getChars_ba4f3 31 = .ok (.idiv, 1) := by decide +kernel
theorem dJ2_getChars_ba4f3_32 : decode cJ2_getChars_ba4f3 32 = .ok (.istore_n 3, 1) := by decide +kernel
theorem dJ2_getChars_ba4f3_33 : decode cJ2_getChars_ba4f3 33 = .ok (.iload_n 3, 1) := by decide +kernel
theorem dJ2_getChars_ba4f3_34 : decode cJ2_getChars_ba4f3 34 = .ok (.bipush 100, 2) := by decide +kernel
theorem dJ2_getChars_ba4f3_36 : decode cJ2_getChars_ba4f3 36 = .ok (.imul, 1) := by decide +kernel
theorem dJ2_getChars_ba4f3_37 : decode cJ2_getChars_ba4f3 37 = .ok (.iload_n 0, 1) := by decide +kernel
theorem dJ2_getChars_ba4f3_38 : decode cJ2_getChars_ba4f3 38 = .ok (.isub, 1) := by decide +kernel
theorem dJ2_getChars_ba4f3_39 : decode cJ2_getChars_ba4f3 39 = .ok (.istore 4, 2) := by decide +kernel
theorem dJ2_getChars_ba4f3_41 : decode cJ2_getChars_ba4f3 41 = .ok (.iload_n 3, 1) := by decide +kernel
theorem dJ2_getChars_ba4f3_42 : decode cJ2_getChars_ba4f3 42 = .ok (.istore_n 0, 1) := by decide +kernel
theorem dJ2_getChars_ba4f3_43 : decode cJ2_getChars_ba4f3 43 = .ok (.aload_n 2, 1) := by decide +kernel
theorem dJ2_getChars_ba4f3_44 : decode cJ2_getChars_ba4f3 44 = .ok (.iinc 5 (-1), 3) := by decide +kernel
theorem dJ2_getChars_ba4f3_47 : decode cJ2_getChars_ba4f3 47 = .ok (.iload 5, 2) := by decide +kernel
theorem dJ2_getChars_ba4f3_49 : decode cJ2_getChars_ba4f3 49 = .ok (.getstatic 403, 3) := by decide +kernel
theorem dJ2_getChars_ba4f3_52 : decode cJ2_getChars_ba4f3 52 = .ok (.iload 4, 2) := by decide +kernel
theorem dJ2_getChars_ba4f3_54 : decode cJ2_getChars_ba4f3 54 = .ok (.baload, 1) := by decide +kernel
theorem dJ2_getChars_ba4f3_55 : decode cJ2_getChars_ba4f3 55 = .ok (.invokestatic 111, 3) := by decide +kernel
theorem dJ2_getChars_ba4f3_58 : decode cJ2_getChars_ba4f3 58 = .ok (.aload_n 2, 1) := by decide +kernel
theorem dJ2_getChars_ba4f3_59 : decode cJ2_getChars_ba4f3 59 = .ok (.iinc 5 (-1), 3) := by decide +kernel
theorem dJ2_getChars_ba4f3_62 : decode cJ2_getChars_ba4f3 62 = .ok (.iload 5, 2) := by decide +kernel
theorem dJ2_getChars_ba4f3_64 : decode cJ2_getChars_ba4f3 64 = .ok (.getstatic 407, 3) := by decide +kernel
theorem dJ2_getChars_ba4f3_67 : decode cJ2_getChars_ba4f3 67 = .ok (.iload 4, 2) := by decide +kernel
theorem dJ2_getChars_ba4f3_69 : decode cJ2_getChars_ba4f3 69 = .ok (.baload, 1) := by decide +kernel
theorem dJ2_getChars_ba4f3_70 : decode cJ2_getChars_ba4f3 70 = .ok (.invokestatic 111, 3) := by decide +kernel
theorem dJ2_getChars_ba4f3_73 : decode cJ2_getChars_ba4f3 73 = .ok (.goto (-51), 3) := by decide +kernel
theorem dJ2_getChars_ba4f3_76 : decode cJ2_getChars_ba4f3 76 = .ok (.aload_n 2, 1) := by decide +kernel
theorem dJ2_getChars_ba4f3_77 : decode cJ2_getChars_ba4f3 77 = .ok (.iinc 5 (-1), 3) := by decide +kernel
theorem dJ2_getChars_ba4f3_80 : decode cJ2_getChars_ba4f3 80 = .ok (.iload 5, 2) := by decide +kernel
theorem dJ2_getChars_ba4f3_82 : decode cJ2_getChars_ba4f3 82 = .ok (.getstatic 403, 3) := by decide +kernel
theorem dJ2_getChars_ba4f3_85 : decode cJ2_getChars_ba4f3 85 = .ok (.iload_n 0, 1) := by decide +kernel
theorem dJ2_getChars_ba4f3_86 : decode cJ2_getChars_ba4f3 86 = .ok (.ineg, 1) := by decide +kernel
theorem dJ2_getChars_ba4f3_87 : decode cJ2_getChars_ba4f3 87 = .ok (.baload, 1) := by decide +kernel
theorem dJ2_getChars_ba4f3_88 : decode cJ2_getChars_ba4f3 88 = .ok (.invokestatic 111, 3) := by decide +kernel
theorem dJ2_getChars_ba4f3_91 : decode cJ2_getChars_ba4f3 91 = .ok (.iload_n 0, 1) := by decide +kernel
theorem dJ2_getChars_ba4f3_92 : decode cJ2_getChars_ba4f3 92 = .ok (.bipush (-9), 2) := by decide +kernel
theorem dJ2_getChars_ba4f3_94 : decode cJ2_getChars_ba4f3 94 = .ok (.if_icmp .ge 18, 3) := by decide +kernel
theorem dJ2_getChars_ba4f3_97 : decode cJ2_getChars_ba4f3 97 = .ok (.aload_n 2, 1) := by decide +kernel
theorem dJ2_getChars_ba4f3_98 : decode cJ2_getChars_ba4f3 98 = .ok (.iinc 5 (-1), 3) := by decide +kernel
theorem dJ2_getChars_ba4f3_101 : decode cJ2_getChars_ba4f3 101 = .ok (.iload 5, 2) := by decide +kernel
theorem dJ2_getChars_ba4f3_103 : decode cJ2_getChars_ba4f3 103 = .ok (.getstatic 407, 3) := by decide +kernel
theorem dJ2_getChars_ba4f3_106 : decode cJ2_getChars_ba4f3 106 = .ok (.iload_n 0, 1) := by decide +kernel
theorem dJ2_getChars_ba4f3_107 : decode cJ2_getChars_ba4f3 107 = .ok (.ineg, 1) := by decide +kernel
theorem dJ2_getChars_ba4f3_108 : decode cJ2_getChars_ba4f3 108 = .ok (.baload, 1) := by decide +kernel
theorem dJ2_getChars_ba4f3_109 : decode cJ2_getChars_ba4f3 109 = .ok (.invokestatic 111, 3) := by decide +kernel
theorem dJ2_getChars_ba4f3_112 : decode cJ2_getChars_ba4f3 112 = .ok (.iload 6, 2) := by decide +kernel
theorem dJ2_getChars_ba4f3_114 : decode cJ2_getChars_ba4f3 114 = .ok (.ifCond .eq 14, 3) := by decide +kernel
theorem dJ2_getChars_ba4f3_117 : decode cJ2_getChars_ba4f3 117 = .ok (.aload_n 2, 1) := by decide +kernel
theorem dJ2_getChars_ba4f3_118 : decode cJ2_getChars_ba4f3 118 = .ok (.iinc 5 (-1), 3) := by decide +kernel
theorem dJ2_getChars_ba4f3_121 : decode cJ2_getChars_ba4f3 121 = .ok (.iload 5, 2) := by decide +kernel
theorem dJ2_getChars_ba4f3_123 : decode cJ2_getChars_ba4f3 123 = .ok (.bipush 45, 2) := by decide +kernel
theorem dJ2_getChars_ba4f3_125 : decode cJ2_getChars_ba4f3 125 = .ok (.invokestatic 111, 3) := by decide +kernel
theorem dJ2_getChars_ba4f3_128 : decode cJ2_getChars_ba4f3 128 = .ok (.iload 5, 2) := by decide +kernel
theorem dJ2_getChars_ba4f3_130 : decode cJ2_getChars_ba4f3 130 = .ok (.ireturn, 1) := by decide +kernel
theorem dJ2_checkIndex_2214a_0 : decode cJ2_checkIndex_2214a 0 = .ok (.iload_n 0, 1) := by decide +kernel
theorem dJ2_checkIndex_2214a_1 : decode cJ2_checkIndex_2214a 1 = .ok (.aload_n 1, 1) := by decide +kernel
theorem dJ2_checkIndex_2214a_2 : decode cJ2_checkIndex_2214a 2 = .ok (.invokestatic 48, 3) := by decide +kernel
theorem dJ2_checkIndex_2214a_5 : decode cJ2_checkIndex_2214a 5 = .ok (.invokestatic 414, 3) := by decide +kernel
theorem dJ2_checkIndex_2214a_8 : decode cJ2_checkIndex_2214a 8 = .ok (.return_, 1) := by decide +kernel
theorem dJ2_checkBoundsBeginEnd_d044e_0 : decode cJ2_checkBoundsBeginEnd_d044e 0 = .ok (.iload_n 0, 1) := by decide +kernel
theorem dJ2_checkBoundsBeginEnd_d044e_1 : decode cJ2_checkBoundsBeginEnd_d044e 1 = .ok (.iload_n 1, 1) := by decide +kernel
theorem dJ2_checkBoundsBeginEnd_d044e_2 : decode cJ2_checkBoundsBeginEnd_d044e 2 = .ok (.aload_n 2, 1) := by decide +kernel
theorem dJ2_checkBoundsBeginEnd_d044e_3 : decode cJ2_checkBoundsBeginEnd_d044e 3 = .ok (.invokestatic 48, 3) := by decide +kernel
theorem dJ2_checkBoundsBeginEnd_d044e_6 : decode cJ2_checkBoundsBeginEnd_d044e 6 = .ok (.invokestatic 241, 3) := by decide +kernel
theorem dJ2_checkBoundsBeginEnd_d044e_9 : decode cJ2_checkBoundsBeginEnd_d044e 9 = .ok (.return_, 1) := by decide +kernel
theorem dJ2_checkBoundsOffCount_d044e_0 : decode cJ2_checkBoundsOffCount_d044e 0 = .ok (.iload_n 0, 1) := by decide +kernel
theorem dJ2_checkBoundsOffCount_d044e_1 : decode cJ2_checkBoundsOffCount_d044e 1 = .ok (.iload_n 1, 1) := by decide +kernel
theorem dJ2_checkBoundsOffCount_d044e_2 : decode cJ2_checkBoundsOffCount_d044e 2 = .ok (.aload_n 2, 1) := by decide +kernel
theorem dJ2_checkBoundsOffCount_d044e_3 : decode cJ2_checkBoundsOffCount_d044e 3 = .ok (.invokestatic 48, 3) := by decide +kernel
theorem dJ2_checkBoundsOffCount_d044e_6 : decode cJ2_checkBoundsOffCount_d044e 6 = .ok (.invokestatic 419, 3) := by decide +kernel
theorem dJ2_checkBoundsOffCount_d044e_9 : decode cJ2_checkBoundsOffCount_d044e 9 = .ok (.pop, 1) := by decide +kernel
theorem dJ2_checkBoundsOffCount_d044e_10 : decode cJ2_checkBoundsOffCount_d044e 10 = .ok (.return_, 1) := by decide +kernel
theorem dJ7_copyOf_9075b_0 : decode cJ7_copyOf_9075b 0 = .ok (.iload_n 1, 1) := by decide +kernel
theorem dJ7_copyOf_9075b_1 : decode cJ7_copyOf_9075b 1 = .ok (.aload_n 0, 1) := by decide +kernel
theorem dJ7_copyOf_9075b_2 : decode cJ7_copyOf_9075b 2 = .ok (.arraylength, 1) := by decide +kernel
theorem dJ7_copyOf_9075b_3 : decode cJ7_copyOf_9075b 3 = .ok (.if_icmp .ne 11, 3) := by decide +kernel
theorem dJ7_copyOf_9075b_6 : decode cJ7_copyOf_9075b 6 = .ok (.aload_n 0, 1) := by decide +kernel
theorem dJ7_copyOf_9075b_7 : decode cJ7_copyOf_9075b 7 = .ok (.invokevirtual 310, 3) := by decide +kernel
theorem dJ7_copyOf_9075b_10 : decode cJ7_copyOf_9075b 10 = .ok (.checkcast 311, 3) := by decide +kernel
theorem dJ7_copyOf_9075b_13 : decode cJ7_copyOf_9075b 13 = .ok (.areturn, 1) := by decide +kernel
theorem dJ7_copyOf_9075b_14 : decode cJ7_copyOf_9075b 14 = .ok (.iload_n 1, 1) := by decide +kernel
theorem dJ7_copyOf_9075b_15 : decode cJ7_copyOf_9075b 15 = .ok (.newarray .byte, 2) := by decide +kernel
theorem dJ7_copyOf_9075b_17 : decode cJ7_copyOf_9075b 17 = .ok (.astore_n 2, 1) := by decide +kernel
theorem dJ7_copyOf_9075b_18 : decode cJ7_copyOf_9075b 18 = .ok (.aload_n 0, 1) := by decide +kernel
theorem dJ7_copyOf_9075b_19 : decode cJ7_copyOf_9075b 19 = .ok (.iconst 0, 1) := by decide +kernel
theorem dJ7_copyOf_9075b_20 : decode cJ7_copyOf_9075b 20 = .ok (.aload_n 2, 1) := by decide +kernel
theorem dJ7_copyOf_9075b_21 : decode cJ7_copyOf_9075b 21 = .ok (.iconst 0, 1) := by decide +kernel
theorem dJ7_copyOf_9075b_22 : decode cJ7_copyOf_9075b 22 = .ok (.aload_n 0, 1) := by decide +kernel
theorem dJ7_copyOf_9075b_23 : decode cJ7_copyOf_9075b 23 = .ok (.arraylength, 1) := by decide +kernel
theorem dJ7_copyOf_9075b_24 : decode cJ7_copyOf_9075b 24 = .ok (.iload_n 1, 1) := by decide +kernel
theorem dJ7_copyOf_9075b_25 : decode cJ7_copyOf_9075b 25 = .ok (.invokestatic 304, 3) := by decide +kernel
theorem dJ7_copyOf_9075b_28 : decode cJ7_copyOf_9075b 28 = .ok (.invokestatic 150, 3) := by decide +kernel
theorem dJ7_copyOf_9075b_31 : decode cJ7_copyOf_9075b 31 = .ok (.aload_n 2, 1) := by decide +kernel
theorem dJ7_copyOf_9075b_32 : decode cJ7_copyOf_9075b 32 = .ok (.areturn, 1) := by decide +kernel
theorem dJ7_checkLength_df160_0 : decode cJ7_checkLength_df160 0 = .ok (.iload_n 1, 1) := by decide +kernel
theorem dJ7_checkLength_df160_1 : decode cJ7_checkLength_df160 1 = .ok (.iload_n 0, 1) := by decide +kernel
theorem dJ7_checkLength_df160_2 : decode cJ7_checkLength_df160 2 = .ok (.if_icmp .ge 35, 3) := by decide +kernel
theorem dJ7_checkLength_df160_5 : decode cJ7_checkLength_df160 5 = .ok (.new 43, 3) := by decide +kernel
theorem dJ7_checkLength_df160_8 : decode cJ7_checkLength_df160 8 = .ok (.dup, 1) := by decide +kernel
theorem dJ7_checkLength_df160_9 : decode cJ7_checkLength_df160 9 = .ok (.new 45, 3) := by decide +kernel
theorem dJ7_checkLength_df160_12 : decode cJ7_checkLength_df160 12 = .ok (.dup, 1) := by decide +kernel
theorem dJ7_checkLength_df160_13 : decode cJ7_checkLength_df160 13 = .ok (.invokespecial 47, 3) := by decide +kernel
theorem dJ7_checkLength_df160_16 : decode cJ7_checkLength_df160 16 = .ok (.iload_n 0, 1) := by decide +kernel
theorem dJ7_checkLength_df160_17 : decode cJ7_checkLength_df160 17 = .ok (.invokevirtual 54, 3) := by decide +kernel
theorem dJ7_checkLength_df160_20 : decode cJ7_checkLength_df160 20 = .ok (.ldc_w 337, 3) := by decide +kernel
theorem dJ7_checkLength_df160_23 : decode cJ7_checkLength_df160 23 = .ok (.invokevirtual 50, 3) := by decide +kernel
theorem dJ7_checkLength_df160_26 : decode cJ7_checkLength_df160 26 = .ok (.iload_n 1, 1) := by decide +kernel
theorem dJ7_checkLength_df160_27 : decode cJ7_checkLength_df160 27 = .ok (.invokevirtual 54, 3) := by decide +kernel
theorem dJ7_checkLength_df160_30 : decode cJ7_checkLength_df160 30 = .ok (.invokevirtual 61, 3) := by decide +kernel
theorem dJ7_checkLength_df160_33 : decode cJ7_checkLength_df160 33 = .ok (.invokespecial 65, 3) := by decide +kernel
theorem dJ7_checkLength_df160_36 : decode cJ7_checkLength_df160 36 = .ok (.athrow, 1) := by decide +kernel
theorem dJ7_checkLength_df160_37 : decode cJ7_checkLength_df160 37 = .ok (.return_, 1) := by decide +kernel
theorem dJ7_copyOfRange_39247_0 : decode cJ7_copyOfRange_39247 0 = .ok (.iload_n 1, 1) := by decide +kernel
theorem dJ7_copyOfRange_39247_1 : decode cJ7_copyOfRange_39247 1 = .ok (.ifCond .ne 9, 3) := by decide +kernel
theorem dJ7_copyOfRange_39247_4 : decode cJ7_copyOfRange_39247 4 = .ok (.iload_n 2, 1) := by decide +kernel
theorem dJ7_copyOfRange_39247_5 : decode cJ7_copyOfRange_39247 5 = .ok (.aload_n 0, 1) := by decide +kernel
theorem dJ7_copyOfRange_39247_6 : decode cJ7_copyOfRange_39247 6 = .ok (.arraylength, 1) := by decide +kernel
theorem dJ7_copyOfRange_39247_7 : decode cJ7_copyOfRange_39247 7 = .ok (.if_icmp .eq 10, 3) := by decide +kernel
theorem dJ7_copyOfRange_39247_10 : decode cJ7_copyOfRange_39247 10 = .ok (.aload_n 0, 1) := by decide +kernel
theorem dJ7_copyOfRange_39247_11 : decode cJ7_copyOfRange_39247 11 = .ok (.iload_n 1, 1) := by decide +kernel
theorem dJ7_copyOfRange_39247_12 : decode cJ7_copyOfRange_39247 12 = .ok (.iload_n 2, 1) := by decide +kernel
theorem dJ7_copyOfRange_39247_13 : decode cJ7_copyOfRange_39247 13 = .ok (.invokestatic 339, 3) := by decide +kernel
theorem dJ7_copyOfRange_39247_16 : decode cJ7_copyOfRange_39247 16 = .ok (.areturn, 1) := by decide +kernel
theorem dJ7_copyOfRange_39247_17 : decode cJ7_copyOfRange_39247 17 = .ok (.aload_n 0, 1) := by decide +kernel
theorem dJ7_copyOfRange_39247_18 : decode cJ7_copyOfRange_39247 18 = .ok (.invokevirtual 310, 3) := by decide +kernel
theorem dJ7_copyOfRange_39247_21 : decode cJ7_copyOfRange_39247 21 = .ok (.checkcast 311, 3) := by decide +kernel
theorem dJ7_copyOfRange_39247_24 : decode cJ7_copyOfRange_39247 24 = .ok (.areturn, 1) := by decide +kernel
theorem dJ7_copyOfRangeByte_39247_0 : decode cJ7_copyOfRangeByte_39247 0 = .ok (.iload_n 1, 1) := by decide +kernel
theorem dJ7_copyOfRangeByte_39247_1 : decode cJ7_copyOfRangeByte_39247 1 = .ok (.iload_n 2, 1) := by decide +kernel
theorem dJ7_copyOfRangeByte_39247_2 : decode cJ7_copyOfRangeByte_39247 2 = .ok (.invokestatic 343, 3) := by decide +kernel
theorem dJ7_copyOfRangeByte_39247_5 : decode cJ7_copyOfRangeByte_39247 5 = .ok (.iload_n 2, 1) := by decide +kernel
theorem dJ7_copyOfRangeByte_39247_6 : decode cJ7_copyOfRangeByte_39247 6 = .ok (.iload_n 1, 1) := by decide +kernel
theorem dJ7_copyOfRangeByte_39247_7 : decode cJ7_copyOfRangeByte_39247 7 = .ok (.isub, 1) := by decide +kernel
theorem dJ7_copyOfRangeByte_39247_8 : decode cJ7_copyOfRangeByte_39247 8 = .ok (.istore_n 3, 1) := by decide +kernel
theorem dJ7_copyOfRangeByte_39247_9 : decode cJ7_copyOfRangeByte_39247 9 = .ok (.iload_n 3, 1) := by decide +kernel
theorem dJ7_copyOfRangeByte_39247_10 : decode cJ7_copyOfRangeByte_39247 10 = .ok (.newarray .byte, 2) := by decide +kernel
theorem dJ7_copyOfRangeByte_39247_12 : decode cJ7_copyOfRangeByte_39247 12 = .ok (.astore 4, 2) := by decide +kernel
theorem dJ7_copyOfRangeByte_39247_14 : decode cJ7_copyOfRangeByte_39247 14 = .ok (.aload_n 0, 1) := by decide +kernel
theorem dJ7_copyOfRangeByte_39247_15 : decode cJ7_copyOfRangeByte_39247 15 = .ok (.iload_n 1, 1) := by decide +kernel
theorem dJ7_copyOfRangeByte_39247_16 : decode cJ7_copyOfRangeByte_39247 16 = .ok (.aload 4, 2) := by decide +kernel
theorem dJ7_copyOfRangeByte_39247_18 : decode cJ7_copyOfRangeByte_39247 18 = .ok (.iconst 0, 1) := by decide +kernel
theorem dJ7_copyOfRangeByte_39247_19 : decode cJ7_copyOfRangeByte_39247 19 = .ok (.aload_n 0, 1) := by decide +kernel
theorem dJ7_copyOfRangeByte_39247_20 : decode cJ7_copyOfRangeByte_39247 20 = .ok (.arraylength, 1) := by decide +kernel
theorem dJ7_copyOfRangeByte_39247_21 : decode cJ7_copyOfRangeByte_39247 21 = .ok (.iload_n 1, 1) := by decide +kernel
theorem dJ7_copyOfRangeByte_39247_22 : decode cJ7_copyOfRangeByte_39247 22 = .ok (.isub, 1) := by decide +kernel
theorem dJ7_copyOfRangeByte_39247_23 : decode cJ7_copyOfRangeByte_39247 23 = .ok (.iload_n 3, 1) := by decide +kernel
theorem dJ7_copyOfRangeByte_39247_24 : decode cJ7_copyOfRangeByte_39247 24 = .ok (.invokestatic 304, 3) := by decide +kernel
theorem dJ7_copyOfRangeByte_39247_27 : decode cJ7_copyOfRangeByte_39247 27 = .ok (.invokestatic 150, 3) := by decide +kernel
theorem dJ7_copyOfRangeByte_39247_30 : decode cJ7_copyOfRangeByte_39247 30 = .ok (.aload 4, 2) := by decide +kernel
theorem dJ7_copyOfRangeByte_39247_32 : decode cJ7_copyOfRangeByte_39247 32 = .ok (.areturn, 1) := by decide +kernel
theorem dJ8_newLength_cabcc_0 : decode cJ8_newLength_cabcc 0 = .ok (.iload_n 0, 1) := by decide +kernel
theorem dJ8_newLength_cabcc_1 : decode cJ8_newLength_cabcc 1 = .ok (.iload_n 1, 1) := by decide +kernel
theorem dJ8_newLength_cabcc_2 : decode cJ8_newLength_cabcc 2 = .ok (.iload_n 2, 1) := by decide +kernel
theorem dJ8_newLength_cabcc_3 : decode cJ8_newLength_cabcc 3 = .ok (.invokestatic 194, 3) := by decide +kernel
theorem dJ8_newLength_cabcc_6 : decode cJ8_newLength_cabcc 6 = .ok (.iadd, 1) := by decide +kernel
theorem dJ8_newLength_cabcc_7 : decode cJ8_newLength_cabcc 7 = .ok (.istore_n 3, 1) := by decide +kernel
theorem dJ8_newLength_cabcc_8 : decode cJ8_newLength_cabcc 8 = .ok (.iconst 0, 1) := by decide +kernel
theorem dJ8_newLength_cabcc_9 : decode cJ8_newLength_cabcc 9 = .ok (.iload_n 3, 1) := by decide +kernel
theorem dJ8_newLength_cabcc_10 : decode cJ8_newLength_cabcc 10 = .ok (.if_icmp .ge 11, 3) := by decide +kernel
theorem dJ8_newLength_cabcc_13 : decode cJ8_newLength_cabcc 13 = .ok (.iload_n 3, 1) := by decide +kernel
theorem dJ8_newLength_cabcc_14 : decode cJ8_newLength_cabcc 14 = .ok (.ldc 200, 2) := by decide +kernel
theorem dJ8_newLength_cabcc_16 : decode cJ8_newLength_cabcc 16 = .ok (.if_icmp .gt 5, 3) := by decide +kernel
theorem dJ8_newLength_cabcc_19 : decode cJ8_newLength_cabcc 19 = .ok (.iload_n 3, 1) := by decide +kernel
theorem dJ8_newLength_cabcc_20 : decode cJ8_newLength_cabcc 20 = .ok (.ireturn, 1) := by decide +kernel
theorem dJ8_newLength_cabcc_21 : decode cJ8_newLength_cabcc 21 = .ok (.iload_n 0, 1) := by decide +kernel
theorem dJ8_newLength_cabcc_22 : decode cJ8_newLength_cabcc 22 = .ok (.iload_n 1, 1) := by decide +kernel
theorem dJ8_newLength_cabcc_23 : decode cJ8_newLength_cabcc 23 = .ok (.invokestatic 201, 3) := by decide +kernel
theorem dJ8_newLength_cabcc_26 : decode cJ8_newLength_cabcc 26 = .ok (.ireturn, 1) := by decide +kernel
theorem dJ8_hugeLength_7cf53_0 : decode cJ8_hugeLength_7cf53 0 = .ok (.iload_n 0, 1) := by decide +kernel
theorem dJ8_hugeLength_7cf53_1 : decode cJ8_hugeLength_7cf53 1 = .ok (.iload_n 1, 1) := by decide +kernel
theorem dJ8_hugeLength_7cf53_2 : decode cJ8_hugeLength_7cf53 2 = .ok (.iadd, 1) := by decide +kernel
theorem dJ8_hugeLength_7cf53_3 : decode cJ8_hugeLength_7cf53 3 = .ok (.istore_n 2, 1) := by decide +kernel
theorem dJ8_hugeLength_7cf53_4 : decode cJ8_hugeLength_7cf53 4 = .ok (.iload_n 2, 1) := by decide +kernel
theorem dJ8_hugeLength_7cf53_5 : decode cJ8_hugeLength_7cf53 5 = .ok (.ifCond .ge 44, 3) := by decide +kernel
theorem dJ8_hugeLength_7cf53_8 : decode cJ8_hugeLength_7cf53 8 = .ok (.new 204, 3) := by decide +kernel
theorem dJ8_hugeLength_7cf53_11 : decode cJ8_hugeLength_7cf53 11 = .ok (.dup, 1) := by decide +kernel
theorem dJ8_hugeLength_7cf53_12 : decode cJ8_hugeLength_7cf53 12 = .ok (.new 89, 3) := by decide +kernel
theorem dJ8_hugeLength_7cf53_15 : decode cJ8_hugeLength_7cf53 15 = .ok (.dup, 1) := by decide +kernel
theorem dJ8_hugeLength_7cf53_16 : decode cJ8_hugeLength_7cf53 16 = .ok (.invokespecial 91, 3) := by decide +kernel
theorem dJ8_hugeLength_7cf53_19 : decode cJ8_hugeLength_7cf53 19 = .ok (.ldc 206, 2) := by decide +kernel
theorem dJ8_hugeLength_7cf53_21 : decode cJ8_hugeLength_7cf53 21 = .ok (.invokevirtual 94, 3) := by decide +kernel
theorem dJ8_hugeLength_7cf53_24 : decode cJ8_hugeLength_7cf53 24 = .ok (.iload_n 0, 1) := by decide +kernel
theorem dJ8_hugeLength_7cf53_25 : decode cJ8_hugeLength_7cf53 25 = .ok (.invokevirtual 98, 3) := by decide +kernel
theorem dJ8_hugeLength_7cf53_28 : decode cJ8_hugeLength_7cf53 28 = .ok (.ldc 208, 2) := by decide +kernel
theorem dJ8_hugeLength_7cf53_30 : decode cJ8_hugeLength_7cf53 30 = .ok (.invokevirtual 94, 3) := by decide +kernel
theorem dJ8_hugeLength_7cf53_33 : decode cJ8_hugeLength_7cf53 33 = .ok (.iload_n 1, 1) := by decide +kernel
theorem dJ8_hugeLength_7cf53_34 : decode cJ8_hugeLength_7cf53 34 = .ok (.invokevirtual 98, 3) := by decide +kernel
theorem dJ8_hugeLength_7cf53_37 : decode cJ8_hugeLength_7cf53 37 = .ok (.ldc 210, 2) := by decide +kernel
theorem dJ8_hugeLength_7cf53_39 : decode cJ8_hugeLength_7cf53 39 = .ok (.invokevirtual 94, 3) := by decide +kernel
theorem dJ8_hugeLength_7cf53_42 : decode cJ8_hugeLength_7cf53 42 = .ok (.invokevirtual 101, 3) := by decide +kernel
theorem dJ8_hugeLength_7cf53_45 : decode cJ8_hugeLength_7cf53 45 = .ok (.invokespecial 212, 3) := by decide +kernel
theorem dJ8_hugeLength_7cf53_48 : decode cJ8_hugeLength_7cf53 48 = .ok (.athrow, 1) := by decide +kernel
theorem dJ8_hugeLength_7cf53_49 : decode cJ8_hugeLength_7cf53 49 = .ok (.iload_n 2, 1) := by decide +kernel
theorem dJ8_hugeLength_7cf53_50 : decode cJ8_hugeLength_7cf53 50 = .ok (.ldc 200, 2) := by decide +kernel
theorem dJ8_hugeLength_7cf53_52 : decode cJ8_hugeLength_7cf53 52 = .ok (.if_icmp .gt 6, 3) := by decide +kernel
theorem dJ8_hugeLength_7cf53_55 : decode cJ8_hugeLength_7cf53 55 = .ok (.ldc 200, 2) := by decide +kernel
theorem dJ8_hugeLength_7cf53_57 : decode cJ8_hugeLength_7cf53 57 = .ok (.ireturn, 1) := by decide +kernel
theorem dJ8_hugeLength_7cf53_58 : decode cJ8_hugeLength_7cf53 58 = .ok (.iload_n 2, 1) := by decide +kernel
theorem dJ8_hugeLength_7cf53_59 : decode cJ8_hugeLength_7cf53 59 = .ok (.ireturn, 1) := by decide +kernel
theorem dJ3_checkIndex_8e157_0 : decode cJ3_checkIndex_8e157 0 = .ok (.iload_n 0, 1) := by decide +kernel
theorem dJ3_checkIndex_8e157_1 : decode cJ3_checkIndex_8e157 1 = .ok (.ifCond .lt 8, 3) := by decide +kernel
theorem dJ3_checkIndex_8e157_4 : decode cJ3_checkIndex_8e157 4 = .ok (.iload_n 0, 1) := by decide +kernel
theorem dJ3_checkIndex_8e157_5 : decode cJ3_checkIndex_8e157 5 = .ok (.iload_n 1, 1) := by decide +kernel
theorem dJ3_checkIndex_8e157_6 : decode cJ3_checkIndex_8e157 6 = .ok (.if_icmp .lt 10, 3) := by decide +kernel
theorem dJ3_checkIndex_8e157_9 : decode cJ3_checkIndex_8e157 9 = .ok (.aload_n 2, 1) := by decide +kernel
theorem dJ3_checkIndex_8e157_10 : decode cJ3_checkIndex_8e157 10 = .ok (.iload_n 0, 1) := by decide +kernel
theorem dJ3_checkIndex_8e157_11 : decode cJ3_checkIndex_8e157 11 = .ok (.iload_n 1, 1) := by decide +kernel
theorem dJ3_checkIndex_8e157_12 : decode cJ3_checkIndex_8e157 12 = .ok (.invokestatic 95, 3) := by decide +kernel
theorem dJ3_checkIndex_8e157_15 : decode cJ3_checkIndex_8e157 15 = .ok (.athrow, 1) := by decide +kernel
theorem dJ3_checkIndex_8e157_16 : decode cJ3_checkIndex_8e157 16 = .ok (.iload_n 0, 1) := by decide +kernel
theorem dJ3_checkIndex_8e157_17 : decode cJ3_checkIndex_8e157 17 = .ok (.ireturn, 1) := by decide +kernel
theorem dJ3_checkFromToIndex_8c36e_0 : decode cJ3_checkFromToIndex_8c36e 0 = .ok (.iload_n 0, 1) := by decide +kernel
theorem dJ3_checkFromToIndex_8c36e_1 : decode cJ3_checkFromToIndex_8c36e 1 = .ok (.ifCond .lt 13, 3) := by decide +kernel
theorem dJ3_checkFromToIndex_8c36e_4 : decode cJ3_checkFromToIndex_8c36e 4 = .ok (.iload_n 0, 1) := by decide +kernel
theorem dJ3_checkFromToIndex_8c36e_5 : decode cJ3_checkFromToIndex_8c36e 5 = .ok (.iload_n 1, 1) := by decide +kernel
theorem dJ3_checkFromToIndex_8c36e_6 : decode cJ3_checkFromToIndex_8c36e 6 = .ok (.if_icmp .gt 8, 3) := by decide +kernel
theorem dJ3_checkFromToIndex_8c36e_9 : decode cJ3_checkFromToIndex_8c36e 9 = .ok (.iload_n 1, 1) := by decide +kernel
theorem dJ3_checkFromToIndex_8c36e_10 : decode cJ3_checkFromToIndex_8c36e 10 = .ok (.iload_n 2, 1) := by decide +kernel
theorem dJ3_checkFromToIndex_8c36e_11 : decode cJ3_checkFromToIndex_8c36e 11 = .ok (.if_icmp .le 11, 3) := by decide +kernel
theorem dJ3_checkFromToIndex_8c36e_14 : decode cJ3_checkFromToIndex_8c36e 14 = .ok (.aload_n 3, 1) := by decide +kernel
theorem dJ3_checkFromToIndex_8c36e_15 : decode cJ3_checkFromToIndex_8c36e 15 = .ok (.iload_n 0, 1) := by decide +kernel
theorem dJ3_checkFromToIndex_8c36e_16 : decode cJ3_checkFromToIndex_8c36e 16 = .ok (.iload_n 1, 1) := by decide +kernel
theorem dJ3_checkFromToIndex_8c36e_17 : decode cJ3_checkFromToIndex_8c36e 17 = .ok (.iload_n 2, 1) := by decide +kernel
theorem dJ3_checkFromToIndex_8c36e_18 : decode cJ3_checkFromToIndex_8c36e 18 = .ok (.invokestatic 99, 3) := by decide +kernel
theorem dJ3_checkFromToIndex_8c36e_21 : decode cJ3_checkFromToIndex_8c36e 21 = .ok (.athrow, 1) := by decide +kernel
theorem dJ3_checkFromToIndex_8c36e_22 : decode cJ3_checkFromToIndex_8c36e 22 = .ok (.iload_n 0, 1) := by decide +kernel
theorem dJ3_checkFromToIndex_8c36e_23 : decode cJ3_checkFromToIndex_8c36e 23 = .ok (.ireturn, 1) := by decide +kernel
theorem dJ3_checkFromIndexSize_8c36e_0 : decode cJ3_checkFromIndexSize_8c36e 0 = .ok (.iload_n 2, 1) := by decide +kernel
theorem dJ3_checkFromIndexSize_8c36e_1 : decode cJ3_checkFromIndexSize_8c36e 1 = .ok (.iload_n 0, 1) := by decide +kernel
theorem dJ3_checkFromIndexSize_8c36e_2 : decode cJ3_checkFromIndexSize_8c36e 2 = .ok (.ior, 1) := by decide +kernel
theorem dJ3_checkFromIndexSize_8c36e_3 : decode cJ3_checkFromIndexSize_8c36e 3 = .ok (.iload_n 1, 1) := by decide +kernel
theorem dJ3_checkFromIndexSize_8c36e_4 : decode cJ3_checkFromIndexSize_8c36e 4 = .ok (.ior, 1) := by decide +kernel
theorem dJ3_checkFromIndexSize_8c36e_5 : decode cJ3_checkFromIndexSize_8c36e 5 = .ok (.ifCond .lt 10, 3) := by decide +kernel
theorem dJ3_checkFromIndexSize_8c36e_8 : decode cJ3_checkFromIndexSize_8c36e 8 = .ok (.iload_n 1, 1) := by decide +kernel
theorem dJ3_checkFromIndexSize_8c36e_9 : decode cJ3_checkFromIndexSize_8c36e 9 = .ok (.iload_n 2, 1) := by decide +kernel
theorem dJ3_checkFromIndexSize_8c36e_10 : decode cJ3_checkFromIndexSize_8c36e 10 = .ok (.iload_n 0, 1) := by decide +kernel
theorem dJ3_checkFromIndexSize_8c36e_11 : decode cJ3_checkFromIndexSize_8c36e 11 = .ok (.isub, 1) := by decide +kernel
theorem dJ3_checkFromIndexSize_8c36e_12 : decode cJ3_checkFromIndexSize_8c36e 12 = .ok (.if_icmp .le 11, 3) := by decide +kernel
theorem dJ3_checkFromIndexSize_8c36e_15 : decode cJ3_checkFromIndexSize_8c36e 15 = .ok (.aload_n 3, 1) := by decide +kernel
theorem dJ3_checkFromIndexSize_8c36e_16 : decode cJ3_checkFromIndexSize_8c36e 16 = .ok (.iload_n 0, 1) := by decide +kernel
theorem dJ3_checkFromIndexSize_8c36e_17 : decode cJ3_checkFromIndexSize_8c36e 17 = .ok (.iload_n 1, 1) := by decide +kernel
theorem dJ3_checkFromIndexSize_8c36e_18 : decode cJ3_checkFromIndexSize_8c36e 18 = .ok (.iload_n 2, 1) := by decide +kernel
theorem dJ3_checkFromIndexSize_8c36e_19 : decode cJ3_checkFromIndexSize_8c36e 19 = .ok (.invokestatic 103, 3) := by decide +kernel
theorem dJ3_checkFromIndexSize_8c36e_22 : decode cJ3_checkFromIndexSize_8c36e 22 = .ok (.athrow, 1) := by decide +kernel
theorem dJ3_checkFromIndexSize_8c36e_23 : decode cJ3_checkFromIndexSize_8c36e 23 = .ok (.iload_n 0, 1) := by decide +kernel
theorem dJ3_checkFromIndexSize_8c36e_24 : decode cJ3_checkFromIndexSize_8c36e 24 = .ok (.ireturn, 1) := by decide +kernel

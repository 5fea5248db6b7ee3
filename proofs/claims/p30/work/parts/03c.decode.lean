theorem dX7_moveTo_33 : decode cX7_moveTo 33 = .ok (.iload_n 1, 1) := by decide +kernel
theorem dX7_moveTo_34 : decode cX7_moveTo 34 = .ok (.invokevirtual 114, 3) := by decide +kernel
theorem dX7_moveTo_37 : decode cX7_moveTo 37 = .ok (.iload_n 2, 1) := by decide +kernel
theorem dX7_moveTo_38 : decode cX7_moveTo 38 = .ok (.ireturn, 1) := by decide +kernel
theorem dX7_moveBy_0 : decode cX7_moveBy 0 = .ok (.iload_n 1, 1) := by decide +kernel
theorem dX7_moveBy_1 : decode cX7_moveBy 1 = .ok (.sipush (-200), 3) := by decide +kernel
theorem dX7_moveBy_4 : decode cX7_moveBy 4 = .ok (.if_icmp .lt 10, 3) := by decide +kernel
theorem dX7_moveBy_7 : decode cX7_moveBy 7 = .ok (.iload_n 1, 1) := by decide +kernel
theorem dX7_moveBy_8 : decode cX7_moveBy 8 = .ok (.sipush 200, 3) := by decide +kernel
theorem dX7_moveBy_11 : decode cX7_moveBy 11 = .ok (.if_icmp .le 13, 3) := by decide +kernel
theorem dX7_moveBy_14 : decode cX7_moveBy 14 = .ok (.new 66, 3) := by decide +kernel
theorem dX7_moveBy_17 : decode cX7_moveBy 17 = .ok (.dup, 1) := by decide +kernel
theorem dX7_moveBy_18 : decode cX7_moveBy 18 = .ok (.ldc 189, 2) := by decide +kernel
theorem dX7_moveBy_20 : decode cX7_moveBy 20 = .ok (.invokespecial 70, 3) := by decide +kernel
theorem dX7_moveBy_23 : decode cX7_moveBy 23 = .ok (.athrow, 1) := by decide +kernel
theorem dX7_moveBy_24 : decode cX7_moveBy 24 = .ok (.aload_n 0, 1) := by decide +kernel
theorem dX7_moveBy_25 : decode cX7_moveBy 25 = .ok (.getfield 12, 3) := by decide +kernel
theorem dX7_moveBy_28 : decode cX7_moveBy 28 = .ok (.iload_n 1, 1) := by decide +kernel
theorem dX7_moveBy_29 : decode cX7_moveBy 29 = .ok (.invokevirtual 191, 3) := by decide +kernel
theorem dX7_moveBy_32 : decode cX7_moveBy 32 = .ok (.aload_n 0, 1) := by decide +kernel
theorem dX7_moveBy_33 : decode cX7_moveBy 33 = .ok (.getfield 12, 3) := by decide +kernel
theorem dX7_moveBy_36 : decode cX7_moveBy 36 = .ok (.getfield 128, 3) := by decide +kernel
theorem dX7_moveBy_39 : decode cX7_moveBy 39 = .ok (.ireturn, 1) := by decide +kernel
theorem dX7_moveVertically_0 : decode cX7_moveVertically 0 = .ok (.aload_n 0, 1) := by decide +kernel
theorem dX7_moveVertically_1 : decode cX7_moveVertically 1 = .ok (.getfield 12, 3) := by decide +kernel
theorem dX7_moveVertically_4 : decode cX7_moveVertically 4 = .ok (.iload_n 1, 1) := by decide +kernel
theorem dX7_moveVertically_5 : decode cX7_moveVertically 5 = .ok (.invokevirtual 194, 3) := by decide +kernel
theorem dX7_moveVertically_8 : decode cX7_moveVertically 8 = .ok (.istore_n 2, 1) := by decide +kernel
theorem dX7_moveVertically_9 : decode cX7_moveVertically 9 = .ok (.iload_n 2, 1) := by decide +kernel
theorem dX7_moveVertically_10 : decode cX7_moveVertically 10 = .ok (.bipush (-9), 2) := by decide +kernel
theorem dX7_moveVertically_12 : decode cX7_moveVertically 12 = .ok (.if_icmp .eq 11, 3) := by decide +kernel
theorem dX7_moveVertically_15 : decode cX7_moveVertically 15 = .ok (.aload_n 0, 1) := by decide +kernel
theorem dX7_moveVertically_16 : decode cX7_moveVertically 16 = .ok (.getfield 12, 3) := by decide +kernel
theorem dX7_moveVertically_19 : decode cX7_moveVertically 19 = .ok (.iload_n 2, 1) := by decide +kernel
theorem dX7_moveVertically_20 : decode cX7_moveVertically 20 = .ok (.invokevirtual 114, 3) := by decide +kernel
theorem dX7_moveVertically_23 : decode cX7_moveVertically 23 = .ok (.iload_n 2, 1) := by decide +kernel
theorem dX7_moveVertically_24 : decode cX7_moveVertically 24 = .ok (.ireturn, 1) := by decide +kernel
theorem dX7_extend_0 : decode cX7_extend 0 = .ok (.iload_n 1, 1) := by decide +kernel
theorem dX7_extend_1 : decode cX7_extend 1 = .ok (.ifCond .eq 13, 3) := by decide +kernel
theorem dX7_extend_4 : decode cX7_extend 4 = .ok (.aload_n 0, 1) := by decide +kernel
theorem dX7_extend_5 : decode cX7_extend 5 = .ok (.getfield 12, 3) := by decide +kernel
theorem dX7_extend_8 : decode cX7_extend 8 = .ok (.invokevirtual 198, 3) := by decide +kernel
theorem dX7_extend_11 : decode cX7_extend 11 = .ok (.goto 10, 3) := by decide +kernel
theorem dX7_extend_14 : decode cX7_extend 14 = .ok (.aload_n 0, 1) := by decide +kernel
theorem dX7_extend_15 : decode cX7_extend 15 = .ok (.getfield 12, 3) := by decide +kernel
theorem dX7_extend_18 : decode cX7_extend 18 = .ok (.invokevirtual 201, 3) := by decide +kernel
theorem dX7_extend_21 : decode cX7_extend 21 = .ok (.istore_n 2, 1) := by decide +kernel
theorem dX7_extend_22 : decode cX7_extend 22 = .ok (.iload_n 2, 1) := by decide +kernel
theorem dX7_extend_23 : decode cX7_extend 23 = .ok (.ifCond .ne 13, 3) := by decide +kernel
theorem dX7_extend_26 : decode cX7_extend 26 = .ok (.new 77, 3) := by decide +kernel
theorem dX7_extend_29 : decode cX7_extend 29 = .ok (.dup, 1) := by decide +kernel
theorem dX7_extend_30 : decode cX7_extend 30 = .ok (.ldc 204, 2) := by decide +kernel
theorem dX7_extend_32 : decode cX7_extend 32 = .ok (.invokespecial 81, 3) := by decide +kernel
theorem dX7_extend_35 : decode cX7_extend 35 = .ok (.athrow, 1) := by decide +kernel
theorem dX7_extend_36 : decode cX7_extend 36 = .ok (.aload_n 0, 1) := by decide +kernel
theorem dX7_extend_37 : decode cX7_extend 37 = .ok (.getfield 12, 3) := by decide +kernel
theorem dX7_extend_40 : decode cX7_extend 40 = .ok (.invokevirtual 168, 3) := by decide +kernel
theorem dX7_extend_43 : decode cX7_extend 43 = .ok (.ireturn, 1) := by decide +kernel
theorem dX7_grow_0 : decode cX7_grow 0 = .ok (.aload_n 0, 1) := by decide +kernel
theorem dX7_grow_1 : decode cX7_grow 1 = .ok (.getfield 12, 3) := by decide +kernel
theorem dX7_grow_4 : decode cX7_grow 4 = .ok (.invokevirtual 206, 3) := by decide +kernel
theorem dX7_grow_7 : decode cX7_grow 7 = .ok (.ifCond .ne 13, 3) := by decide +kernel
theorem dX7_grow_10 : decode cX7_grow 10 = .ok (.new 77, 3) := by decide +kernel
theorem dX7_grow_13 : decode cX7_grow 13 = .ok (.dup, 1) := by decide +kernel
theorem dX7_grow_14 : decode cX7_grow 14 = .ok (.ldc 209, 2) := by decide +kernel
theorem dX7_grow_16 : decode cX7_grow 16 = .ok (.invokespecial 81, 3) := by decide +kernel
theorem dX7_grow_19 : decode cX7_grow 19 = .ok (.athrow, 1) := by decide +kernel
theorem dX7_grow_20 : decode cX7_grow 20 = .ok (.aload_n 0, 1) := by decide +kernel
theorem dX7_grow_21 : decode cX7_grow 21 = .ok (.getfield 12, 3) := by decide +kernel
theorem dX7_grow_24 : decode cX7_grow 24 = .ok (.invokevirtual 168, 3) := by decide +kernel
theorem dX7_grow_27 : decode cX7_grow 27 = .ok (.ireturn, 1) := by decide +kernel
theorem dX7_copy_0 : decode cX7_copy 0 = .ok (.aload_n 0, 1) := by decide +kernel
theorem dX7_copy_1 : decode cX7_copy 1 = .ok (.getfield 12, 3) := by decide +kernel
theorem dX7_copy_4 : decode cX7_copy 4 = .ok (.invokevirtual 211, 3) := by decide +kernel
theorem dX7_copy_7 : decode cX7_copy 7 = .ok (.ifCond .ne 13, 3) := by decide +kernel
theorem dX7_copy_10 : decode cX7_copy 10 = .ok (.new 77, 3) := by decide +kernel
theorem dX7_copy_13 : decode cX7_copy 13 = .ok (.dup, 1) := by decide +kernel
theorem dX7_copy_14 : decode cX7_copy 14 = .ok (.ldc 214, 2) := by decide +kernel
theorem dX7_copy_16 : decode cX7_copy 16 = .ok (.invokespecial 81, 3) := by decide +kernel
theorem dX7_copy_19 : decode cX7_copy 19 = .ok (.athrow, 1) := by decide +kernel
theorem dX7_copy_20 : decode cX7_copy 20 = .ok (.aload_n 0, 1) := by decide +kernel
theorem dX7_copy_21 : decode cX7_copy 21 = .ok (.getfield 41, 3) := by decide +kernel
theorem dX7_copy_24 : decode cX7_copy 24 = .ok (.aload_n 0, 1) := by decide +kernel
theorem dX7_copy_25 : decode cX7_copy 25 = .ok (.getfield 12, 3) := by decide +kernel
theorem dX7_copy_28 : decode cX7_copy 28 = .ok (.aload_n 0, 1) := by decide +kernel
theorem dX7_copy_29 : decode cX7_copy 29 = .ok (.getfield 12, 3) := by decide +kernel
theorem dX7_copy_32 : decode cX7_copy 32 = .ok (.getfield 174, 3) := by decide +kernel
theorem dX7_copy_35 : decode cX7_copy 35 = .ok (.aload_n 0, 1) := by decide +kernel
theorem dX7_copy_36 : decode cX7_copy 36 = .ok (.getfield 12, 3) := by decide +kernel
theorem dX7_copy_39 : decode cX7_copy 39 = .ok (.getfield 128, 3) := by decide +kernel
theorem dX7_copy_42 : decode cX7_copy 42 = .ok (.invokevirtual 216, 3) := by decide +kernel
theorem dX7_copy_45 : decode cX7_copy 45 = .ok (.aload_n 0, 1) := by decide +kernel
theorem dX7_copy_46 : decode cX7_copy 46 = .ok (.getfield 41, 3) := by decide +kernel
theorem dX7_copy_49 : decode cX7_copy 49 = .ok (.iconst 0, 1) := by decide +kernel
theorem dX7_copy_50 : decode cX7_copy 50 = .ok (.aload_n 0, 1) := by decide +kernel
theorem dX7_copy_51 : decode cX7_copy 51 = .ok (.getfield 41, 3) := by decide +kernel
theorem dX7_copy_54 : decode cX7_copy 54 = .ok (.getfield 98, 3) := by decide +kernel
theorem dX7_copy_57 : decode cX7_copy 57 = .ok (.invokevirtual 101, 3) := by decide +kernel
theorem dX7_copy_60 : decode cX7_copy 60 = .ok (.ireturn, 1) := by decide +kernel
theorem dX7_type_0 : decode cX7_type 0 = .ok (.iload_n 1, 1) := by decide +kernel
theorem dX7_type_1 : decode cX7_type 1 = .ok (.invokestatic 217, 3) := by decide +kernel
theorem dX7_type_4 : decode cX7_type 4 = .ok (.ifCond .ne 13, 3) := by decide +kernel
theorem dX7_type_7 : decode cX7_type 7 = .ok (.new 66, 3) := by decide +kernel
theorem dX7_type_10 : decode cX7_type 10 = .ok (.dup, 1) := by decide +kernel
theorem dX7_type_11 : decode cX7_type 11 = .ok (.ldc 220, 2) := by decide +kernel
theorem dX7_type_13 : decode cX7_type 13 = .ok (.invokespecial 70, 3) := by decide +kernel
theorem dX7_type_16 : decode cX7_type 16 = .ok (.athrow, 1) := by decide +kernel
theorem dX7_type_17 : decode cX7_type 17 = .ok (.aload_n 0, 1) := by decide +kernel
theorem dX7_type_18 : decode cX7_type 18 = .ok (.getfield 12, 3) := by decide +kernel
theorem dX7_type_21 : decode cX7_type 21 = .ok (.invokevirtual 222, 3) := by decide +kernel
theorem dX7_type_24 : decode cX7_type 24 = .ok (.ifCond .ne 13, 3) := by decide +kernel
theorem dX7_type_27 : decode cX7_type 27 = .ok (.new 77, 3) := by decide +kernel
theorem dX7_type_30 : decode cX7_type 30 = .ok (.dup, 1) := by decide +kernel
theorem dX7_type_31 : decode cX7_type 31 = .ok (.ldc 108, 2) := by decide +kernel
theorem dX7_type_33 : decode cX7_type 33 = .ok (.invokespecial 81, 3) := by decide +kernel
theorem dX7_type_36 : decode cX7_type 36 = .ok (.athrow, 1) := by decide +kernel
theorem dX7_type_37 : decode cX7_type 37 = .ok (.aload_n 0, 1) := by decide +kernel
theorem dX7_type_38 : decode cX7_type 38 = .ok (.getfield 32, 3) := by decide +kernel
theorem dX7_type_41 : decode cX7_type 41 = .ok (.aload_n 0, 1) := by decide +kernel
theorem dX7_type_42 : decode cX7_type 42 = .ok (.getfield 12, 3) := by decide +kernel
theorem dX7_type_45 : decode cX7_type 45 = .ok (.invokevirtual 225, 3) := by decide +kernel
theorem dX7_type_48 : decode cX7_type 48 = .ok (.aload_n 0, 1) := by decide +kernel
theorem dX7_type_49 : decode cX7_type 49 = .ok (.getfield 12, 3) := by decide +kernel
theorem dX7_type_52 : decode cX7_type 52 = .ok (.iload_n 1, 1) := by decide +kernel
theorem dX7_type_53 : decode cX7_type 53 = .ok (.invokevirtual 229, 3) := by decide +kernel
theorem dX7_type_56 : decode cX7_type 56 = .ok (.aload_n 0, 1) := by decide +kernel
theorem dX7_type_57 : decode cX7_type 57 = .ok (.getfield 12, 3) := by decide +kernel
theorem dX7_type_60 : decode cX7_type 60 = .ok (.invokevirtual 124, 3) := by decide +kernel
theorem dX7_type_63 : decode cX7_type 63 = .ok (.ireturn, 1) := by decide +kernel
theorem dX7_wrap_0 : decode cX7_wrap 0 = .ok (.iload_n 1, 1) := by decide +kernel
theorem dX7_wrap_1 : decode cX7_wrap 1 = .ok (.invokestatic 232, 3) := by decide +kernel
theorem dX7_wrap_4 : decode cX7_wrap 4 = .ok (.ifCond .ne 13, 3) := by decide +kernel
theorem dX7_wrap_7 : decode cX7_wrap 7 = .ok (.new 66, 3) := by decide +kernel
theorem dX7_wrap_10 : decode cX7_wrap 10 = .ok (.dup, 1) := by decide +kernel
theorem dX7_wrap_11 : decode cX7_wrap 11 = .ok (.ldc 235, 2) := by decide +kernel
theorem dX7_wrap_13 : decode cX7_wrap 13 = .ok (.invokespecial 70, 3) := by decide +kernel
theorem dX7_wrap_16 : decode cX7_wrap 16 = .ok (.athrow, 1) := by decide +kernel
theorem dX7_wrap_17 : decode cX7_wrap 17 = .ok (.aload_n 0, 1) := by decide +kernel
theorem dX7_wrap_18 : decode cX7_wrap 18 = .ok (.getfield 12, 3) := by decide +kernel
theorem dX7_wrap_21 : decode cX7_wrap 21 = .ok (.invokevirtual 237, 3) := by decide +kernel
theorem dX7_wrap_24 : decode cX7_wrap 24 = .ok (.ifCond .ne 13, 3) := by decide +kernel
theorem dX7_wrap_27 : decode cX7_wrap 27 = .ok (.new 77, 3) := by decide +kernel
theorem dX7_wrap_30 : decode cX7_wrap 30 = .ok (.dup, 1) := by decide +kernel
theorem dX7_wrap_31 : decode cX7_wrap 31 = .ok (.ldc 108, 2) := by decide +kernel
theorem dX7_wrap_33 : decode cX7_wrap 33 = .ok (.invokespecial 81, 3) := by decide +kernel
theorem dX7_wrap_36 : decode cX7_wrap 36 = .ok (.athrow, 1) := by decide +kernel
theorem dX7_wrap_37 : decode cX7_wrap 37 = .ok (.aload_n 0, 1) := by decide +kernel
theorem dX7_wrap_38 : decode cX7_wrap 38 = .ok (.getfield 32, 3) := by decide +kernel
theorem dX7_wrap_41 : decode cX7_wrap 41 = .ok (.aload_n 0, 1) := by decide +kernel
theorem dX7_wrap_42 : decode cX7_wrap 42 = .ok (.getfield 12, 3) := by decide +kernel
theorem dX7_wrap_45 : decode cX7_wrap 45 = .ok (.invokevirtual 225, 3) := by decide +kernel
theorem dX7_wrap_48 : decode cX7_wrap 48 = .ok (.aload_n 0, 1) := by decide +kernel
theorem dX7_wrap_49 : decode cX7_wrap 49 = .ok (.getfield 12, 3) := by decide +kernel
theorem dX7_wrap_52 : decode cX7_wrap 52 = .ok (.iload_n 1, 1) := by decide +kernel
theorem dX7_wrap_53 : decode cX7_wrap 53 = .ok (.invokevirtual 240, 3) := by decide +kernel
theorem dX7_wrap_56 : decode cX7_wrap 56 = .ok (.aload_n 0, 1) := by decide +kernel
theorem dX7_wrap_57 : decode cX7_wrap 57 = .ok (.getfield 12, 3) := by decide +kernel
theorem dX7_wrap_60 : decode cX7_wrap 60 = .ok (.getfield 128, 3) := by decide +kernel
theorem dX7_wrap_63 : decode cX7_wrap 63 = .ok (.ireturn, 1) := by decide +kernel
theorem dX7_backspace_0 : decode cX7_backspace 0 = .ok (.aload_n 0, 1) := by decide +kernel
theorem dX7_backspace_1 : decode cX7_backspace 1 = .ok (.getfield 12, 3) := by decide +kernel
theorem dX7_backspace_4 : decode cX7_backspace 4 = .ok (.invokevirtual 243, 3) := by decide +kernel
theorem dX7_backspace_7 : decode cX7_backspace 7 = .ok (.ifCond .ne 13, 3) := by decide +kernel
theorem dX7_backspace_10 : decode cX7_backspace 10 = .ok (.new 77, 3) := by decide +kernel
theorem dX7_backspace_13 : decode cX7_backspace 13 = .ok (.dup, 1) := by decide +kernel
theorem dX7_backspace_14 : decode cX7_backspace 14 = .ok (.ldc 246, 2) := by decide +kernel
theorem dX7_backspace_16 : decode cX7_backspace 16 = .ok (.invokespecial 81, 3) := by decide +kernel
theorem dX7_backspace_19 : decode cX7_backspace 19 = .ok (.athrow, 1) := by decide +kernel
theorem dX7_backspace_20 : decode cX7_backspace 20 = .ok (.aload_n 0, 1) := by decide +kernel
theorem dX7_backspace_21 : decode cX7_backspace 21 = .ok (.getfield 32, 3) := by decide +kernel
theorem dX7_backspace_24 : decode cX7_backspace 24 = .ok (.aload_n 0, 1) := by decide +kernel
theorem dX7_backspace_25 : decode cX7_backspace 25 = .ok (.getfield 12, 3) := by decide +kernel
theorem dX7_backspace_28 : decode cX7_backspace 28 = .ok (.invokevirtual 225, 3) := by decide +kernel
theorem dX7_backspace_31 : decode cX7_backspace 31 = .ok (.aload_n 0, 1) := by decide +kernel
theorem dX7_backspace_32 : decode cX7_backspace 32 = .ok (.getfield 12, 3) := by decide +kernel
theorem dX7_backspace_35 : decode cX7_backspace 35 = .ok (.invokevirtual 124, 3) := by decide +kernel
theorem dX7_backspace_38 : decode cX7_backspace 38 = .ok (.istore_n 1, 1) := by decide +kernel
theorem dX7_backspace_39 : decode cX7_backspace 39 = .ok (.aload_n 0, 1) := by decide +kernel
theorem dX7_backspace_40 : decode cX7_backspace 40 = .ok (.getfield 12, 3) := by decide +kernel
theorem dX7_backspace_43 : decode cX7_backspace 43 = .ok (.invokevirtual 248, 3) := by decide +kernel
theorem dX7_backspace_46 : decode cX7_backspace 46 = .ok (.iload_n 1, 1) := by decide +kernel
theorem dX7_backspace_47 : decode cX7_backspace 47 = .ok (.aload_n 0, 1) := by decide +kernel
theorem dX7_backspace_48 : decode cX7_backspace 48 = .ok (.getfield 12, 3) := by decide +kernel
theorem dX7_backspace_51 : decode cX7_backspace 51 = .ok (.invokevirtual 124, 3) := by decide +kernel
theorem dX7_backspace_54 : decode cX7_backspace 54 = .ok (.isub, 1) := by decide +kernel
theorem dX7_backspace_55 : decode cX7_backspace 55 = .ok (.ireturn, 1) := by decide +kernel
theorem dX7_paste_0 : decode cX7_paste 0 = .ok (.aload_n 0, 1) := by decide +kernel
theorem dX7_paste_1 : decode cX7_paste 1 = .ok (.getfield 41, 3) := by decide +kernel
theorem dX7_paste_4 : decode cX7_paste 4 = .ok (.getfield 98, 3) := by decide +kernel
theorem dX7_paste_7 : decode cX7_paste 7 = .ok (.ifCond .ne 13, 3) := by decide +kernel
theorem dX7_paste_10 : decode cX7_paste 10 = .ok (.new 77, 3) := by decide +kernel
theorem dX7_paste_13 : decode cX7_paste 13 = .ok (.dup, 1) := by decide +kernel
theorem dX7_paste_14 : decode cX7_paste 14 = .ok (.ldc 251, 2) := by decide +kernel
theorem dX7_paste_16 : decode cX7_paste 16 = .ok (.invokespecial 81, 3) := by decide +kernel
theorem dX7_paste_19 : decode cX7_paste 19 = .ok (.athrow, 1) := by decide +kernel
theorem dX7_paste_20 : decode cX7_paste 20 = .ok (.aload_n 0, 1) := by decide +kernel
theorem dX7_paste_21 : decode cX7_paste 21 = .ok (.getfield 12, 3) := by decide +kernel
theorem dX7_paste_24 : decode cX7_paste 24 = .ok (.aload_n 0, 1) := by decide +kernel
theorem dX7_paste_25 : decode cX7_paste 25 = .ok (.getfield 41, 3) := by decide +kernel
theorem dX7_paste_28 : decode cX7_paste 28 = .ok (.invokevirtual 253, 3) := by decide +kernel
theorem dX7_paste_31 : decode cX7_paste 31 = .ok (.ifCond .ne 13, 3) := by decide +kernel
theorem dX7_paste_34 : decode cX7_paste 34 = .ok (.new 77, 3) := by decide +kernel
theorem dX7_paste_37 : decode cX7_paste 37 = .ok (.dup, 1) := by decide +kernel
theorem dX7_paste_38 : decode cX7_paste 38 = .ok (.ldc 108, 2) := by decide +kernel
theorem dX7_paste_40 : decode cX7_paste 40 = .ok (.invokespecial 81, 3) := by decide +kernel
theorem dX7_paste_43 : decode cX7_paste 43 = .ok (.athrow, 1) := by decide +kernel
theorem dX7_paste_44 : decode cX7_paste 44 = .ok (.aload_n 0, 1) := by decide +kernel
theorem dX7_paste_45 : decode cX7_paste 45 = .ok (.getfield 32, 3) := by decide +kernel
theorem dX7_paste_48 : decode cX7_paste 48 = .ok (.aload_n 0, 1) := by decide +kernel
theorem dX7_paste_49 : decode cX7_paste 49 = .ok (.getfield 12, 3) := by decide +kernel
theorem dX7_paste_52 : decode cX7_paste 52 = .ok (.invokevirtual 225, 3) := by decide +kernel
theorem dX7_paste_55 : decode cX7_paste 55 = .ok (.aload_n 0, 1) := by decide +kernel
theorem dX7_paste_56 : decode cX7_paste 56 = .ok (.getfield 12, 3) := by decide +kernel
theorem dX7_paste_59 : decode cX7_paste 59 = .ok (.aload_n 0, 1) := by decide +kernel
theorem dX7_paste_60 : decode cX7_paste 60 = .ok (.getfield 41, 3) := by decide +kernel
theorem dX7_paste_63 : decode cX7_paste 63 = .ok (.invokevirtual 257, 3) := by decide +kernel
theorem dX7_paste_66 : decode cX7_paste 66 = .ok (.aload_n 0, 1) := by decide +kernel
theorem dX7_paste_67 : decode cX7_paste 67 = .ok (.getfield 12, 3) := by decide +kernel
theorem dX7_paste_70 : decode cX7_paste 70 = .ok (.invokevirtual 124, 3) := by decide +kernel
theorem dX7_paste_73 : decode cX7_paste 73 = .ok (.ireturn, 1) := by decide +kernel
theorem dX7_replace_0 : decode cX7_replace 0 = .ok (.iload_n 1, 1) := by decide +kernel
theorem dX7_replace_1 : decode cX7_replace 1 = .ok (.invokestatic 217, 3) := by decide +kernel
theorem dX7_replace_4 : decode cX7_replace 4 = .ok (.ifCond .eq 10, 3) := by decide +kernel
theorem dX7_replace_7 : decode cX7_replace 7 = .ok (.iload_n 2, 1) := by decide +kernel
theorem dX7_replace_8 : decode cX7_replace 8 = .ok (.invokestatic 217, 3) := by decide +kernel
theorem dX7_replace_11 : decode cX7_replace 11 = .ok (.ifCond .ne 13, 3) := by decide +kernel
theorem dX7_replace_14 : decode cX7_replace 14 = .ok (.new 66, 3) := by decide +kernel
theorem dX7_replace_17 : decode cX7_replace 17 = .ok (.dup, 1) := by decide +kernel
theorem dX7_replace_18 : decode cX7_replace 18 = .ok (.ldc 220, 2) := by decide +kernel
theorem dX7_replace_20 : decode cX7_replace 20 = .ok (.invokespecial 70, 3) := by decide +kernel
theorem dX7_replace_23 : decode cX7_replace 23 = .ok (.athrow, 1) := by decide +kernel
theorem dX7_replace_24 : decode cX7_replace 24 = .ok (.aload_n 0, 1) := by decide +kernel
theorem dX7_replace_25 : decode cX7_replace 25 = .ok (.getfield 32, 3) := by decide +kernel
theorem dX7_replace_28 : decode cX7_replace 28 = .ok (.aload_n 0, 1) := by decide +kernel
theorem dX7_replace_29 : decode cX7_replace 29 = .ok (.getfield 12, 3) := by decide +kernel
theorem dX7_replace_32 : decode cX7_replace 32 = .ok (.invokevirtual 225, 3) := by decide +kernel
theorem dX7_replace_35 : decode cX7_replace 35 = .ok (.aload_n 0, 1) := by decide +kernel
theorem dX7_replace_36 : decode cX7_replace 36 = .ok (.getfield 12, 3) := by decide +kernel
theorem dX7_replace_39 : decode cX7_replace 39 = .ok (.iload_n 1, 1) := by decide +kernel
theorem dX7_replace_40 : decode cX7_replace 40 = .ok (.iload_n 2, 1) := by decide +kernel
theorem dX7_replace_41 : decode cX7_replace 41 = .ok (.invokevirtual 260, 3) := by decide +kernel
theorem dX7_replace_44 : decode cX7_replace 44 = .ok (.ireturn, 1) := by decide +kernel
theorem dX7_undo_0 : decode cX7_undo 0 = .ok (.aload_n 0, 1) := by decide +kernel
theorem dX7_undo_1 : decode cX7_undo 1 = .ok (.getfield 32, 3) := by decide +kernel
theorem dX7_undo_4 : decode cX7_undo 4 = .ok (.getfield 263, 3) := by decide +kernel
theorem dX7_undo_7 : decode cX7_undo 7 = .ok (.ifCond .ne 14, 3) := by decide +kernel
theorem dX7_undo_10 : decode cX7_undo 10 = .ok (.new 77, 3) := by decide +kernel
theorem dX7_undo_13 : decode cX7_undo 13 = .ok (.dup, 1) := by decide +kernel
theorem dX7_undo_14 : decode cX7_undo 14 = .ok (.ldc_w 266, 3) := by decide +kernel
theorem dX7_undo_17 : decode cX7_undo 17 = .ok (.invokespecial 81, 3) := by decide +kernel
theorem dX7_undo_20 : decode cX7_undo 20 = .ok (.athrow, 1) := by decide +kernel
theorem dX7_undo_21 : decode cX7_undo 21 = .ok (.aload_n 0, 1) := by decide +kernel
theorem dX7_undo_22 : decode cX7_undo 22 = .ok (.getfield 32, 3) := by decide +kernel
theorem dX7_undo_25 : decode cX7_undo 25 = .ok (.aload_n 0, 1) := by decide +kernel
theorem dX7_undo_26 : decode cX7_undo 26 = .ok (.getfield 12, 3) := by decide +kernel
theorem dX7_undo_29 : decode cX7_undo 29 = .ok (.invokevirtual 268, 3) := by decide +kernel
theorem dX7_undo_32 : decode cX7_undo 32 = .ok (.aload_n 0, 1) := by decide +kernel
theorem dX7_undo_33 : decode cX7_undo 33 = .ok (.getfield 32, 3) := by decide +kernel
theorem dX7_undo_36 : decode cX7_undo 36 = .ok (.getfield 263, 3) := by decide +kernel
theorem dX7_undo_39 : decode cX7_undo 39 = .ok (.ireturn, 1) := by decide +kernel
theorem dX7_drawing_0 : decode cX7_drawing 0 = .ok (.aload_n 0, 1) := by decide +kernel
theorem dX7_drawing_1 : decode cX7_drawing 1 = .ok (.getfield 62, 3) := by decide +kernel
theorem dX7_drawing_4 : decode cX7_drawing 4 = .ok (.aload_n 0, 1) := by decide +kernel
theorem dX7_drawing_5 : decode cX7_drawing 5 = .ok (.getfield 12, 3) := by decide +kernel
theorem dX7_drawing_8 : decode cX7_drawing 8 = .ok (.invokevirtual 271, 3) := by decide +kernel
theorem dX7_drawing_11 : decode cX7_drawing 11 = .ok (.iload_n 1, 1) := by decide +kernel
theorem dX7_drawing_12 : decode cX7_drawing 12 = .ok (.tableswitch 55 0 2 #[28, 37, 46], 28) := by decide +kernel
theorem dX7_drawing_40 : decode cX7_drawing 40 = .ok (.aload_n 0, 1) := by decide +kernel
theorem dX7_drawing_41 : decode cX7_drawing 41 = .ok (.getfield 62, 3) := by decide +kernel
theorem dX7_drawing_44 : decode cX7_drawing 44 = .ok (.iconst 0, 1) := by decide +kernel
theorem dX7_drawing_45 : decode cX7_drawing 45 = .ok (.invokevirtual 274, 3) := by decide +kernel
theorem dX7_drawing_48 : decode cX7_drawing 48 = .ok (.ireturn, 1) := by decide +kernel
theorem dX7_drawing_49 : decode cX7_drawing 49 = .ok (.aload_n 0, 1) := by decide +kernel
theorem dX7_drawing_50 : decode cX7_drawing 50 = .ok (.getfield 62, 3) := by decide +kernel
theorem dX7_drawing_53 : decode cX7_drawing 53 = .ok (.iconst 0, 1) := by decide +kernel
theorem dX7_drawing_54 : decode cX7_drawing 54 = .ok (.invokevirtual 277, 3) := by decide +kernel
theorem dX7_drawing_57 : decode cX7_drawing 57 = .ok (.ireturn, 1) := by decide +kernel
theorem dX7_drawing_58 : decode cX7_drawing 58 = .ok (.aload_n 0, 1) := by decide +kernel
theorem dX7_drawing_59 : decode cX7_drawing 59 = .ok (.getfield 62, 3) := by decide +kernel
theorem dX7_drawing_62 : decode cX7_drawing 62 = .ok (.iconst 0, 1) := by decide +kernel
theorem dX7_drawing_63 : decode cX7_drawing 63 = .ok (.invokevirtual 280, 3) := by decide +kernel
theorem dX7_drawing_66 : decode cX7_drawing 66 = .ok (.ireturn, 1) := by decide +kernel
theorem dX7_drawing_67 : decode cX7_drawing 67 = .ok (.new 66, 3) := by decide +kernel
theorem dX7_drawing_70 : decode cX7_drawing 70 = .ok (.dup, 1) := by decide +kernel
theorem dX7_drawing_71 : decode cX7_drawing 71 = .ok (.ldc 177, 2) := by decide +kernel
theorem dX7_drawing_73 : decode cX7_drawing 73 = .ok (.invokespecial 70, 3) := by decide +kernel
theorem dX7_drawing_76 : decode cX7_drawing 76 = .ok (.athrow, 1) := by decide +kernel
theorem dX7_drawn_0 : decode cX7_drawn 0 = .ok (.aload_n 0, 1) := by decide +kernel
theorem dX7_drawn_1 : decode cX7_drawn 1 = .ok (.getfield 62, 3) := by decide +kernel
theorem dX7_drawn_4 : decode cX7_drawn 4 = .ok (.aload_n 0, 1) := by decide +kernel
theorem dX7_drawn_5 : decode cX7_drawn 5 = .ok (.getfield 12, 3) := by decide +kernel
theorem dX7_drawn_8 : decode cX7_drawn 8 = .ok (.invokevirtual 271, 3) := by decide +kernel
theorem dX7_drawn_11 : decode cX7_drawn 11 = .ok (.iload_n 1, 1) := by decide +kernel
theorem dX7_drawn_12 : decode cX7_drawn 12 = .ok (.ifCond .lt 31, 3) := by decide +kernel
theorem dX7_drawn_15 : decode cX7_drawn 15 = .ok (.iload_n 1, 1) := by decide +kernel
theorem dX7_drawn_16 : decode cX7_drawn 16 = .ok (.aload_n 0, 1) := by decide +kernel
theorem dX7_drawn_17 : decode cX7_drawn 17 = .ok (.getfield 62, 3) := by decide +kernel
theorem dX7_drawn_20 : decode cX7_drawn 20 = .ok (.iconst 0, 1) := by decide +kernel
theorem dX7_drawn_21 : decode cX7_drawn 21 = .ok (.invokevirtual 274, 3) := by decide +kernel
theorem dX7_drawn_24 : decode cX7_drawn 24 = .ok (.if_icmp .ge 19, 3) := by decide +kernel
theorem dX7_drawn_27 : decode cX7_drawn 27 = .ok (.iload_n 2, 1) := by decide +kernel
theorem dX7_drawn_28 : decode cX7_drawn 28 = .ok (.ifCond .lt 15, 3) := by decide +kernel
theorem dX7_drawn_31 : decode cX7_drawn 31 = .ok (.iload_n 2, 1) := by decide +kernel
theorem dX7_drawn_32 : decode cX7_drawn 32 = .ok (.aload_n 0, 1) := by decide +kernel
theorem dX7_drawn_33 : decode cX7_drawn 33 = .ok (.getfield 62, 3) := by decide +kernel
theorem dX7_drawn_36 : decode cX7_drawn 36 = .ok (.iconst 0, 1) := by decide +kernel
theorem dX7_drawn_37 : decode cX7_drawn 37 = .ok (.invokevirtual 277, 3) := by decide +kernel
theorem dX7_drawn_40 : decode cX7_drawn 40 = .ok (.if_icmp .lt 14, 3) := by decide +kernel
theorem dX7_drawn_43 : decode cX7_drawn 43 = .ok (.new 141, 3) := by decide +kernel
theorem dX7_drawn_46 : decode cX7_drawn 46 = .ok (.dup, 1) := by decide +kernel
theorem dX7_drawn_47 : decode cX7_drawn 47 = .ok (.ldc_w 283, 3) := by decide +kernel
theorem dX7_drawn_50 : decode cX7_drawn 50 = .ok (.invokespecial 145, 3) := by decide +kernel
theorem dX7_drawn_53 : decode cX7_drawn 53 = .ok (.athrow, 1) := by decide +kernel
theorem dX7_drawn_54 : decode cX7_drawn 54 = .ok (.aload_n 0, 1) := by decide +kernel
theorem dX7_drawn_55 : decode cX7_drawn 55 = .ok (.getfield 62, 3) := by decide +kernel
theorem dX7_drawn_58 : decode cX7_drawn 58 = .ok (.aload_n 0, 1) := by decide +kernel
theorem dX7_drawn_59 : decode cX7_drawn 59 = .ok (.getfield 12, 3) := by decide +kernel
theorem dX7_drawn_62 : decode cX7_drawn 62 = .ok (.iload_n 1, 1) := by decide +kernel
theorem dX7_drawn_63 : decode cX7_drawn 63 = .ok (.iload_n 2, 1) := by decide +kernel
theorem dX7_drawn_64 : decode cX7_drawn 64 = .ok (.invokevirtual 285, 3) := by decide +kernel
theorem dX7_drawn_67 : decode cX7_drawn 67 = .ok (.ireturn, 1) := by decide +kernel
theorem dX7_runScript_0 : decode cX7_runScript 0 = .ok (.iload_n 1, 1) := by decide +kernel
theorem dX7_runScript_1 : decode cX7_runScript 1 = .ok (.iconst 1, 1) := by decide +kernel
theorem dX7_runScript_2 : decode cX7_runScript 2 = .ok (.if_icmp .lt 8, 3) := by decide +kernel
theorem dX7_runScript_5 : decode cX7_runScript 5 = .ok (.iload_n 1, 1) := by decide +kernel
theorem dX7_runScript_6 : decode cX7_runScript 6 = .ok (.iconst 4, 1) := by decide +kernel
theorem dX7_runScript_7 : decode cX7_runScript 7 = .ok (.if_icmp .le 14, 3) := by decide +kernel
theorem dX7_runScript_10 : decode cX7_runScript 10 = .ok (.new 66, 3) := by decide +kernel
theorem dX7_runScript_13 : decode cX7_runScript 13 = .ok (.dup, 1) := by decide +kernel
theorem dX7_runScript_14 : decode cX7_runScript 14 = .ok (.ldc_w 288, 3) := by decide +kernel
theorem dX7_runScript_17 : decode cX7_runScript 17 = .ok (.invokespecial 70, 3) := by decide +kernel
theorem dX7_runScript_20 : decode cX7_runScript 20 = .ok (.athrow, 1) := by decide +kernel
theorem dX7_runScript_21 : decode cX7_runScript 21 = .ok (.lload_n 2, 1) := by decide +kernel
theorem dX7_runScript_22 : decode cX7_runScript 22 = .ok (.lconst 0, 1) := by decide +kernel
theorem dX7_runScript_23 : decode cX7_runScript 23 = .ok (.lcmp, 1) := by decide +kernel
theorem dX7_runScript_24 : decode cX7_runScript 24 = .ok (.ifCond .lt 13, 3) := by decide +kernel
theorem dX7_runScript_27 : decode cX7_runScript 27 = .ok (.lload_n 2, 1) := by decide +kernel
theorem dX7_runScript_28 : decode cX7_runScript 28 = .ok (.iload_n 1, 1) := by decide +kernel
theorem dX7_runScript_29 : decode cX7_runScript 29 = .ok (.invokestatic 290, 3) := by decide +kernel
theorem dX7_runScript_32 : decode cX7_runScript 32 = .ok (.lconst 0, 1) := by decide +kernel
theorem dX7_runScript_33 : decode cX7_runScript 33 = .ok (.lcmp, 1) := by decide +kernel
theorem dX7_runScript_34 : decode cX7_runScript 34 = .ok (.ifCond .le 14, 3) := by decide +kernel
theorem dX7_runScript_37 : decode cX7_runScript 37 = .ok (.new 66, 3) := by decide +kernel
theorem dX7_runScript_40 : decode cX7_runScript 40 = .ok (.dup, 1) := by decide +kernel
theorem dX7_runScript_41 : decode cX7_runScript 41 = .ok (.ldc_w 294, 3) := by decide +kernel
theorem dX7_runScript_44 : decode cX7_runScript 44 = .ok (.invokespecial 70, 3) := by decide +kernel
theorem dX7_runScript_47 : decode cX7_runScript 47 = .ok (.athrow, 1) := by decide +kernel
theorem dX7_runScript_48 : decode cX7_runScript 48 = .ok (.aload_n 0, 1) := by decide +kernel
theorem dX7_runScript_49 : decode cX7_runScript 49 = .ok (.getfield 16, 3) := by decide +kernel
theorem dX7_runScript_52 : decode cX7_runScript 52 = .ok (.aload_n 0, 1) := by decide +kernel
theorem dX7_runScript_53 : decode cX7_runScript 53 = .ok (.getfield 12, 3) := by decide +kernel
theorem dX7_runScript_56 : decode cX7_runScript 56 = .ok (.invokevirtual 296, 3) := by decide +kernel
theorem dX7_runScript_59 : decode cX7_runScript 59 = .ok (.iconst 0, 1) := by decide +kernel
theorem dX7_runScript_60 : decode cX7_runScript 60 = .ok (.istore 4, 2) := by decide +kernel
theorem dX7_runScript_62 : decode cX7_runScript 62 = .ok (.iload 4, 2) := by decide +kernel
theorem dX7_runScript_64 : decode cX7_runScript 64 = .ok (.iload_n 1, 1) := by decide +kernel
theorem dX7_runScript_65 : decode cX7_runScript 65 = .ok (.if_icmp .ge 34, 3) := by decide +kernel
theorem dX7_runScript_68 : decode cX7_runScript 68 = .ok (.aload_n 0, 1) := by decide +kernel
theorem dX7_runScript_69 : decode cX7_runScript 69 = .ok (.lload_n 2, 1) := by decide +kernel
theorem dX7_runScript_70 : decode cX7_runScript 70 = .ok (.iload_n 1, 1) := by decide +kernel
theorem dX7_runScript_71 : decode cX7_runScript 71 = .ok (.iconst 1, 1) := by decide +kernel
theorem dX7_runScript_72 : decode cX7_runScript 72 = .ok (.isub, 1) := by decide +kernel
theorem dX7_runScript_73 : decode cX7_runScript 73 = .ok (.iload 4, 2) := by decide +kernel
theorem dX7_runScript_75 : decode cX7_runScript 75 = .ok (.isub, 1) := by decide +kernel
theorem dX7_runScript_76 : decode cX7_runScript 76 = .ok (.invokestatic 290, 3) := by decide +kernel
theorem dX7_runScript_79 : decode cX7_runScript 79 = .ok (.ldc2_w 299, 3) := by decide +kernel
theorem dX7_runScript_82 : decode cX7_runScript 82 = .ok (.lrem, 1) := by decide +kernel
theorem dX7_runScript_83 : decode cX7_runScript 83 = .ok (.l2i, 1) := by decide +kernel
theorem dX7_runScript_84 : decode cX7_runScript 84 = .ok (.invokevirtual 301, 3) := by decide +kernel
theorem dX7_runScript_87 : decode cX7_runScript 87 = .ok (.ifCond .ne 6, 3) := by decide +kernel
theorem dX7_runScript_90 : decode cX7_runScript 90 = .ok (.iload 4, 2) := by decide +kernel
theorem dX7_runScript_92 : decode cX7_runScript 92 = .ok (.ireturn, 1) := by decide +kernel
theorem dX7_runScript_93 : decode cX7_runScript 93 = .ok (.iinc 4 1, 3) := by decide +kernel
theorem dX7_runScript_96 : decode cX7_runScript 96 = .ok (.goto (-34), 3) := by decide +kernel
theorem dX7_runScript_99 : decode cX7_runScript 99 = .ok (.bipush (-9), 2) := by decide +kernel
theorem dX7_runScript_101 : decode cX7_runScript 101 = .ok (.ireturn, 1) := by decide +kernel
theorem dX7_withoutGroups_0 : decode cX7_withoutGroups 0 = .ok (.lload_n 0, 1) := by decide +kernel
theorem dX7_withoutGroups_1 : decode cX7_withoutGroups 1 = .ok (.lstore_n 3, 1) := by decide +kernel
theorem dX7_withoutGroups_2 : decode cX7_withoutGroups 2 = .ok (.iconst 0, 1) := by decide +kernel
theorem dX7_withoutGroups_3 : decode cX7_withoutGroups 3 = .ok (.istore 5, 2) := by decide +kernel
theorem dX7_withoutGroups_5 : decode cX7_withoutGroups 5 = .ok (.iload 5, 2) := by decide +kernel
theorem dX7_withoutGroups_7 : decode cX7_withoutGroups 7 = .ok (.iload_n 2, 1) := by decide +kernel
theorem dX7_withoutGroups_8 : decode cX7_withoutGroups 8 = .ok (.if_icmp .ge 15, 3) := by decide +kernel
theorem dX7_withoutGroups_11 : decode cX7_withoutGroups 11 = .ok (.lload_n 3, 1) := by decide +kernel
theorem dX7_withoutGroups_12 : decode cX7_withoutGroups 12 = .ok (.ldc2_w 299, 3) := by decide +kernel
theorem dX7_withoutGroups_15 : decode cX7_withoutGroups 15 = .ok (.ldiv, 1) := by decide +kernel
theorem dX7_withoutGroups_16 : decode cX7_withoutGroups 16 = .ok (.lstore_n 3, 1) := by decide +kernel
theorem dX7_withoutGroups_17 : decode cX7_withoutGroups 17 = .ok (.iinc 5 1, 3) := by decide +kernel
theorem dX7_withoutGroups_20 : decode cX7_withoutGroups 20 = .ok (.goto (-15), 3) := by decide +kernel
theorem dX7_withoutGroups_23 : decode cX7_withoutGroups 23 = .ok (.lload_n 3, 1) := by decide +kernel
theorem dX7_withoutGroups_24 : decode cX7_withoutGroups 24 = .ok (.lreturn, 1) := by decide +kernel
theorem dX7_obeys_0 : decode cX7_obeys 0 = .ok (.iload_n 1, 1) := by decide +kernel
theorem dX7_obeys_1 : decode cX7_obeys 1 = .ok (.sipush 1000, 3) := by decide +kernel
theorem dX7_obeys_4 : decode cX7_obeys 4 = .ok (.idiv, 1) := by decide +kernel
theorem dX7_obeys_5 : decode cX7_obeys 5 = .ok (.istore_n 2, 1) := by decide +kernel
theorem dX7_obeys_6 : decode cX7_obeys 6 = .ok (.iload_n 1, 1) := by decide +kernel
theorem dX7_obeys_7 : decode cX7_obeys 7 = .ok (.sipush 1000, 3) := by decide +kernel
theorem dX7_obeys_10 : decode cX7_obeys 10 = .ok (.irem, 1) := by decide +kernel
theorem dX7_obeys_11 : decode cX7_obeys 11 = .ok (.istore_n 3, 1) := by decide +kernel
theorem dX7_obeys_12 : decode cX7_obeys 12 = .ok (.iload_n 2, 1) := by decide +kernel
theorem dX7_obeys_13 : decode cX7_obeys 13 = .ok (.iconst 1, 1) := by decide +kernel
theorem dX7_obeys_14 : decode cX7_obeys 14 = .ok (.if_icmp .ne 9, 3) := by decide +kernel
theorem dX7_obeys_17 : decode cX7_obeys 17 = .ok (.aload_n 0, 1) := by decide +kernel
theorem dX7_obeys_18 : decode cX7_obeys 18 = .ok (.iload_n 3, 1) := by decide +kernel
theorem dX7_obeys_19 : decode cX7_obeys 19 = .ok (.invokevirtual 304, 3) := by decide +kernel
theorem dX7_obeys_22 : decode cX7_obeys 22 = .ok (.ireturn, 1) := by decide +kernel
theorem dX7_obeys_23 : decode cX7_obeys 23 = .ok (.iload_n 3, 1) := by decide +kernel
theorem dX7_obeys_24 : decode cX7_obeys 24 = .ok (.bipush 100, 2) := by decide +kernel
theorem dX7_obeys_26 : decode cX7_obeys 26 = .ok (.if_icmp .lt 5, 3) := by decide +kernel
theorem dX7_obeys_29 : decode cX7_obeys 29 = .ok (.iconst 0, 1) := by decide +kernel
theorem dX7_obeys_30 : decode cX7_obeys 30 = .ok (.ireturn, 1) := by decide +kernel
theorem dX7_obeys_31 : decode cX7_obeys 31 = .ok (.iload_n 2, 1) := by decide +kernel
theorem dX7_obeys_32 : decode cX7_obeys 32 = .ok (.tableswitch 175 2 9 #[48, 54, 64, 75, 92, 112, 129, 146], 48) := by decide +kernel
theorem dX7_obeys_80 : decode cX7_obeys 80 = .ok (.aload_n 0, 1) := by decide +kernel
theorem dX7_obeys_81 : decode cX7_obeys 81 = .ok (.iload_n 3, 1) := by decide +kernel
theorem dX7_obeys_82 : decode cX7_obeys 82 = .ok (.invokevirtual 307, 3) := by decide +kernel
theorem dX7_obeys_85 : decode cX7_obeys 85 = .ok (.ireturn, 1) := by decide +kernel
theorem dX7_obeys_86 : decode cX7_obeys 86 = .ok (.aload_n 0, 1) := by decide +kernel
theorem dX7_obeys_87 : decode cX7_obeys 87 = .ok (.getfield 16, 3) := by decide +kernel
theorem dX7_obeys_90 : decode cX7_obeys 90 = .ok (.iload_n 3, 1) := by decide +kernel
theorem dX7_obeys_91 : decode cX7_obeys 91 = .ok (.invokevirtual 191, 3) := by decide +kernel
theorem dX7_obeys_94 : decode cX7_obeys 94 = .ok (.iconst 1, 1) := by decide +kernel
theorem dX7_obeys_95 : decode cX7_obeys 95 = .ok (.ireturn, 1) := by decide +kernel
theorem dX7_obeys_96 : decode cX7_obeys 96 = .ok (.aload_n 0, 1) := by decide +kernel
theorem dX7_obeys_97 : decode cX7_obeys 97 = .ok (.getfield 16, 3) := by decide +kernel
theorem dX7_obeys_100 : decode cX7_obeys 100 = .ok (.iload_n 3, 1) := by decide +kernel
theorem dX7_obeys_101 : decode cX7_obeys 101 = .ok (.ineg, 1) := by decide +kernel
theorem dX7_obeys_102 : decode cX7_obeys 102 = .ok (.invokevirtual 191, 3) := by decide +kernel
theorem dX7_obeys_105 : decode cX7_obeys 105 = .ok (.iconst 1, 1) := by decide +kernel
theorem dX7_obeys_106 : decode cX7_obeys 106 = .ok (.ireturn, 1) := by decide +kernel
theorem dX7_obeys_107 : decode cX7_obeys 107 = .ok (.iload_n 3, 1) := by decide +kernel
theorem dX7_obeys_108 : decode cX7_obeys 108 = .ok (.ifCond .ne 14, 3) := by decide +kernel
theorem dX7_obeys_111 : decode cX7_obeys 111 = .ok (.aload_n 0, 1) := by decide +kernel
theorem dX7_obeys_112 : decode cX7_obeys 112 = .ok (.invokevirtual 310, 3) := by decide +kernel
theorem dX7_obeys_115 : decode cX7_obeys 115 = .ok (.ifCond .eq 7, 3) := by decide +kernel
theorem dX7_obeys_118 : decode cX7_obeys 118 = .ok (.iconst 1, 1) := by decide +kernel
theorem dX7_obeys_119 : decode cX7_obeys 119 = .ok (.goto 4, 3) := by decide +kernel
theorem dX7_obeys_122 : decode cX7_obeys 122 = .ok (.iconst 0, 1) := by decide +kernel
theorem dX7_obeys_123 : decode cX7_obeys 123 = .ok (.ireturn, 1) := by decide +kernel
theorem dX7_obeys_124 : decode cX7_obeys 124 = .ok (.iload_n 3, 1) := by decide +kernel
theorem dX7_obeys_125 : decode cX7_obeys 125 = .ok (.ifCond .ne 17, 3) := by decide +kernel
theorem dX7_obeys_128 : decode cX7_obeys 128 = .ok (.aload_n 0, 1) := by decide +kernel
theorem dX7_obeys_129 : decode cX7_obeys 129 = .ok (.getfield 16, 3) := by decide +kernel
theorem dX7_obeys_132 : decode cX7_obeys 132 = .ok (.invokevirtual 206, 3) := by decide +kernel
theorem dX7_obeys_135 : decode cX7_obeys 135 = .ok (.ifCond .eq 7, 3) := by decide +kernel
theorem dX7_obeys_138 : decode cX7_obeys 138 = .ok (.iconst 1, 1) := by decide +kernel
theorem dX7_obeys_139 : decode cX7_obeys 139 = .ok (.goto 4, 3) := by decide +kernel
theorem dX7_obeys_142 : decode cX7_obeys 142 = .ok (.iconst 0, 1) := by decide +kernel
theorem dX7_obeys_143 : decode cX7_obeys 143 = .ok (.ireturn, 1) := by decide +kernel
theorem dX7_obeys_144 : decode cX7_obeys 144 = .ok (.aload_n 0, 1) := by decide +kernel
theorem dX7_obeys_145 : decode cX7_obeys 145 = .ok (.getfield 16, 3) := by decide +kernel
theorem dX7_obeys_148 : decode cX7_obeys 148 = .ok (.invokevirtual 124, 3) := by decide +kernel
theorem dX7_obeys_151 : decode cX7_obeys 151 = .ok (.iload_n 3, 1) := by decide +kernel
theorem dX7_obeys_152 : decode cX7_obeys 152 = .ok (.if_icmp .ne 7, 3) := by decide +kernel
theorem dX7_obeys_155 : decode cX7_obeys 155 = .ok (.iconst 1, 1) := by decide +kernel
theorem dX7_obeys_156 : decode cX7_obeys 156 = .ok (.goto 4, 3) := by decide +kernel
theorem dX7_obeys_159 : decode cX7_obeys 159 = .ok (.iconst 0, 1) := by decide +kernel
theorem dX7_obeys_160 : decode cX7_obeys 160 = .ok (.ireturn, 1) := by decide +kernel
theorem dX7_obeys_161 : decode cX7_obeys 161 = .ok (.aload_n 0, 1) := by decide +kernel
theorem dX7_obeys_162 : decode cX7_obeys 162 = .ok (.getfield 16, 3) := by decide +kernel
theorem dX7_obeys_165 : decode cX7_obeys 165 = .ok (.getfield 128, 3) := by decide +kernel
theorem dX7_obeys_168 : decode cX7_obeys 168 = .ok (.iload_n 3, 1) := by decide +kernel
theorem dX7_obeys_169 : decode cX7_obeys 169 = .ok (.if_icmp .ne 7, 3) := by decide +kernel
theorem dX7_obeys_172 : decode cX7_obeys 172 = .ok (.iconst 1, 1) := by decide +kernel
theorem dX7_obeys_173 : decode cX7_obeys 173 = .ok (.goto 4, 3) := by decide +kernel
theorem dX7_obeys_176 : decode cX7_obeys 176 = .ok (.iconst 0, 1) := by decide +kernel
theorem dX7_obeys_177 : decode cX7_obeys 177 = .ok (.ireturn, 1) := by decide +kernel
theorem dX7_obeys_178 : decode cX7_obeys 178 = .ok (.aload_n 0, 1) := by decide +kernel
theorem dX7_obeys_179 : decode cX7_obeys 179 = .ok (.getfield 62, 3) := by decide +kernel
theorem dX7_obeys_182 : decode cX7_obeys 182 = .ok (.aload_n 0, 1) := by decide +kernel
theorem dX7_obeys_183 : decode cX7_obeys 183 = .ok (.getfield 16, 3) := by decide +kernel
theorem dX7_obeys_186 : decode cX7_obeys 186 = .ok (.invokevirtual 271, 3) := by decide +kernel
theorem dX7_obeys_189 : decode cX7_obeys 189 = .ok (.aload_n 0, 1) := by decide +kernel
theorem dX7_obeys_190 : decode cX7_obeys 190 = .ok (.getfield 62, 3) := by decide +kernel
theorem dX7_obeys_193 : decode cX7_obeys 193 = .ok (.iconst 0, 1) := by decide +kernel
theorem dX7_obeys_194 : decode cX7_obeys 194 = .ok (.invokevirtual 274, 3) := by decide +kernel
theorem dX7_obeys_197 : decode cX7_obeys 197 = .ok (.iload_n 3, 1) := by decide +kernel
theorem dX7_obeys_198 : decode cX7_obeys 198 = .ok (.if_icmp .ne 7, 3) := by decide +kernel
theorem dX7_obeys_201 : decode cX7_obeys 201 = .ok (.iconst 1, 1) := by decide +kernel
theorem dX7_obeys_202 : decode cX7_obeys 202 = .ok (.goto 4, 3) := by decide +kernel
theorem dX7_obeys_205 : decode cX7_obeys 205 = .ok (.iconst 0, 1) := by decide +kernel
theorem dX7_obeys_206 : decode cX7_obeys 206 = .ok (.ireturn, 1) := by decide +kernel
theorem dX7_obeys_207 : decode cX7_obeys 207 = .ok (.iconst 0, 1) := by decide +kernel
theorem dX7_obeys_208 : decode cX7_obeys 208 = .ok (.ireturn, 1) := by decide +kernel
theorem dX7_simulate_0 : decode cX7_simulate 0 = .ok (.iload_n 3, 1) := by decide +kernel
theorem dX7_simulate_1 : decode cX7_simulate 1 = .ok (.iconst 1, 1) := by decide +kernel
theorem dX7_simulate_2 : decode cX7_simulate 2 = .ok (.if_icmp .lt 9, 3) := by decide +kernel
theorem dX7_simulate_5 : decode cX7_simulate 5 = .ok (.iload_n 3, 1) := by decide +kernel
theorem dX7_simulate_6 : decode cX7_simulate 6 = .ok (.bipush 60, 2) := by decide +kernel
theorem dX7_simulate_8 : decode cX7_simulate 8 = .ok (.if_icmp .le 14, 3) := by decide +kernel
theorem dX7_simulate_11 : decode cX7_simulate 11 = .ok (.new 66, 3) := by decide +kernel
theorem dX7_simulate_14 : decode cX7_simulate 14 = .ok (.dup, 1) := by decide +kernel
theorem dX7_simulate_15 : decode cX7_simulate 15 = .ok (.ldc_w 313, 3) := by decide +kernel
theorem dX7_simulate_18 : decode cX7_simulate 18 = .ok (.invokespecial 70, 3) := by decide +kernel
theorem dX7_simulate_21 : decode cX7_simulate 21 = .ok (.athrow, 1) := by decide +kernel
theorem dX7_simulate_22 : decode cX7_simulate 22 = .ok (.aload_n 0, 1) := by decide +kernel
theorem dX7_simulate_23 : decode cX7_simulate 23 = .ok (.getfield 16, 3) := by decide +kernel
theorem dX7_simulate_26 : decode cX7_simulate 26 = .ok (.aload_n 0, 1) := by decide +kernel
theorem dX7_simulate_27 : decode cX7_simulate 27 = .ok (.getfield 12, 3) := by decide +kernel
theorem dX7_simulate_30 : decode cX7_simulate 30 = .ok (.invokevirtual 296, 3) := by decide +kernel
theorem dX7_simulate_33 : decode cX7_simulate 33 = .ok (.lload_n 1, 1) := by decide +kernel
theorem dX7_simulate_34 : decode cX7_simulate 34 = .ok (.lstore 4, 2) := by decide +kernel
theorem dX7_simulate_36 : decode cX7_simulate 36 = .ok (.iconst 0, 1) := by decide +kernel
theorem dX7_simulate_37 : decode cX7_simulate 37 = .ok (.istore 6, 2) := by decide +kernel
theorem dX7_simulate_39 : decode cX7_simulate 39 = .ok (.iload 6, 2) := by decide +kernel
theorem dX7_simulate_41 : decode cX7_simulate 41 = .ok (.iload_n 3, 1) := by decide +kernel
theorem dX7_simulate_42 : decode cX7_simulate 42 = .ok (.if_icmp .ge 31, 3) := by decide +kernel
theorem dX7_simulate_45 : decode cX7_simulate 45 = .ok (.lload 4, 2) := by decide +kernel
theorem dX7_simulate_47 : decode cX7_simulate 47 = .ok (.ldc2_w 315, 3) := by decide +kernel
theorem dX7_simulate_50 : decode cX7_simulate 50 = .ok (.lmul, 1) := by decide +kernel
theorem dX7_simulate_51 : decode cX7_simulate 51 = .ok (.ldc2_w 317, 3) := by decide +kernel
theorem dX7_simulate_54 : decode cX7_simulate 54 = .ok (.ladd, 1) := by decide +kernel
theorem dX7_simulate_55 : decode cX7_simulate 55 = .ok (.lstore 4, 2) := by decide +kernel
theorem dX7_simulate_57 : decode cX7_simulate 57 = .ok (.aload_n 0, 1) := by decide +kernel
theorem dX7_simulate_58 : decode cX7_simulate 58 = .ok (.lload 4, 2) := by decide +kernel
theorem dX7_simulate_60 : decode cX7_simulate 60 = .ok (.bipush 33, 2) := by decide +kernel
theorem dX7_simulate_62 : decode cX7_simulate 62 = .ok (.lushr, 1) := by decide +kernel
theorem dX7_simulate_63 : decode cX7_simulate 63 = .ok (.l2i, 1) := by decide +kernel
theorem dX7_simulate_64 : decode cX7_simulate 64 = .ok (.invokevirtual 319, 3) := by decide +kernel
theorem dX7_simulate_67 : decode cX7_simulate 67 = .ok (.iinc 6 1, 3) := by decide +kernel
theorem dX7_simulate_70 : decode cX7_simulate 70 = .ok (.goto (-31), 3) := by decide +kernel
theorem dX7_simulate_73 : decode cX7_simulate 73 = .ok (.aload_n 0, 1) := by decide +kernel
theorem dX7_simulate_74 : decode cX7_simulate 74 = .ok (.getfield 55, 3) := by decide +kernel
theorem dX7_simulate_77 : decode cX7_simulate 77 = .ok (.aload_n 0, 1) := by decide +kernel
theorem dX7_simulate_78 : decode cX7_simulate 78 = .ok (.getfield 16, 3) := by decide +kernel
theorem dX7_simulate_81 : decode cX7_simulate 81 = .ok (.invokevirtual 179, 3) := by decide +kernel
theorem dX7_simulate_84 : decode cX7_simulate 84 = .ok (.sipush 1000, 3) := by decide +kernel
theorem dX7_simulate_87 : decode cX7_simulate 87 = .ok (.aload_n 0, 1) := by decide +kernel
theorem dX7_simulate_88 : decode cX7_simulate 88 = .ok (.getfield 16, 3) := by decide +kernel
theorem dX7_simulate_91 : decode cX7_simulate 91 = .ok (.invokevirtual 124, 3) := by decide +kernel
theorem dX7_simulate_94 : decode cX7_simulate 94 = .ok (.imul, 1) := by decide +kernel
theorem dX7_simulate_95 : decode cX7_simulate 95 = .ok (.aload_n 0, 1) := by decide +kernel
theorem dX7_simulate_96 : decode cX7_simulate 96 = .ok (.getfield 55, 3) := by decide +kernel
theorem dX7_simulate_99 : decode cX7_simulate 99 = .ok (.getfield 183, 3) := by decide +kernel
theorem dX7_simulate_102 : decode cX7_simulate 102 = .ok (.iadd, 1) := by decide +kernel
theorem dX7_simulate_103 : decode cX7_simulate 103 = .ok (.ireturn, 1) := by decide +kernel
theorem dX7_playRound_0 : decode cX7_playRound 0 = .ok (.iload_n 1, 1) := by decide +kernel
theorem dX7_playRound_1 : decode cX7_playRound 1 = .ok (.bipush 8, 2) := by decide +kernel
theorem dX7_playRound_3 : decode cX7_playRound 3 = .ok (.idiv, 1) := by decide +kernel
theorem dX7_playRound_4 : decode cX7_playRound 4 = .ok (.bipush 64, 2) := by decide +kernel
theorem dX7_playRound_6 : decode cX7_playRound 6 = .ok (.irem, 1) := by decide +kernel
theorem dX7_playRound_7 : decode cX7_playRound 7 = .ok (.istore_n 2, 1) := by decide +kernel
theorem dX7_playRound_8 : decode cX7_playRound 8 = .ok (.iload_n 1, 1) := by decide +kernel
theorem dX7_playRound_9 : decode cX7_playRound 9 = .ok (.bipush 8, 2) := by decide +kernel
theorem dX7_playRound_11 : decode cX7_playRound 11 = .ok (.irem, 1) := by decide +kernel
theorem dX7_playRound_12 : decode cX7_playRound 12 = .ok (.tableswitch 94 0 6 #[44, 44, 44, 59, 59, 72, 86], 44) := by decide +kernel
theorem dX7_playRound_56 : decode cX7_playRound 56 = .ok (.aload_n 0, 1) := by decide +kernel
theorem dX7_playRound_57 : decode cX7_playRound 57 = .ok (.bipush 97, 2) := by decide +kernel
theorem dX7_playRound_59 : decode cX7_playRound 59 = .ok (.iload_n 2, 1) := by decide +kernel
theorem dX7_playRound_60 : decode cX7_playRound 60 = .ok (.bipush 17, 2) := by decide +kernel
theorem dX7_playRound_62 : decode cX7_playRound 62 = .ok (.irem, 1) := by decide +kernel
theorem dX7_playRound_63 : decode cX7_playRound 63 = .ok (.iadd, 1) := by decide +kernel
theorem dX7_playRound_64 : decode cX7_playRound 64 = .ok (.invokevirtual 304, 3) := by decide +kernel
theorem dX7_playRound_67 : decode cX7_playRound 67 = .ok (.pop, 1) := by decide +kernel
theorem dX7_playRound_68 : decode cX7_playRound 68 = .ok (.goto 46, 3) := by decide +kernel
theorem dX7_playRound_71 : decode cX7_playRound 71 = .ok (.aload_n 0, 1) := by decide +kernel
theorem dX7_playRound_72 : decode cX7_playRound 72 = .ok (.iconst 1, 1) := by decide +kernel
theorem dX7_playRound_73 : decode cX7_playRound 73 = .ok (.iload_n 2, 1) := by decide +kernel
theorem dX7_playRound_74 : decode cX7_playRound 74 = .ok (.iconst 5, 1) := by decide +kernel
theorem dX7_playRound_75 : decode cX7_playRound 75 = .ok (.irem, 1) := by decide +kernel
theorem dX7_playRound_76 : decode cX7_playRound 76 = .ok (.iadd, 1) := by decide +kernel
theorem dX7_playRound_77 : decode cX7_playRound 77 = .ok (.invokevirtual 307, 3) := by decide +kernel
theorem dX7_playRound_80 : decode cX7_playRound 80 = .ok (.pop, 1) := by decide +kernel
theorem dX7_playRound_81 : decode cX7_playRound 81 = .ok (.goto 33, 3) := by decide +kernel
theorem dX7_playRound_84 : decode cX7_playRound 84 = .ok (.aload_n 0, 1) := by decide +kernel
theorem dX7_playRound_85 : decode cX7_playRound 85 = .ok (.getfield 16, 3) := by decide +kernel
theorem dX7_playRound_88 : decode cX7_playRound 88 = .ok (.iload_n 2, 1) := by decide +kernel
theorem dX7_playRound_89 : decode cX7_playRound 89 = .ok (.bipush 32, 2) := by decide +kernel
theorem dX7_playRound_91 : decode cX7_playRound 91 = .ok (.isub, 1) := by decide +kernel
theorem dX7_playRound_92 : decode cX7_playRound 92 = .ok (.invokevirtual 191, 3) := by decide +kernel
theorem dX7_playRound_95 : decode cX7_playRound 95 = .ok (.goto 19, 3) := by decide +kernel
theorem dX7_playRound_98 : decode cX7_playRound 98 = .ok (.aload_n 0, 1) := by decide +kernel
theorem dX7_playRound_99 : decode cX7_playRound 99 = .ok (.invokevirtual 310, 3) := by decide +kernel
theorem dX7_playRound_102 : decode cX7_playRound 102 = .ok (.pop, 1) := by decide +kernel
theorem dX7_playRound_103 : decode cX7_playRound 103 = .ok (.goto 11, 3) := by decide +kernel
theorem dX7_playRound_106 : decode cX7_playRound 106 = .ok (.aload_n 0, 1) := by decide +kernel
theorem dX7_playRound_107 : decode cX7_playRound 107 = .ok (.getfield 16, 3) := by decide +kernel
theorem dX7_playRound_110 : decode cX7_playRound 110 = .ok (.invokevirtual 206, 3) := by decide +kernel
theorem dX7_playRound_113 : decode cX7_playRound 113 = .ok (.pop, 1) := by decide +kernel
theorem dX7_playRound_114 : decode cX7_playRound 114 = .ok (.return_, 1) := by decide +kernel
theorem dX7_typesInTrial_0 : decode cX7_typesInTrial 0 = .ok (.iload_n 1, 1) := by decide +kernel
theorem dX7_typesInTrial_1 : decode cX7_typesInTrial 1 = .ok (.invokestatic 217, 3) := by decide +kernel
theorem dX7_typesInTrial_4 : decode cX7_typesInTrial 4 = .ok (.ifCond .eq 13, 3) := by decide +kernel
theorem dX7_typesInTrial_7 : decode cX7_typesInTrial 7 = .ok (.aload_n 0, 1) := by decide +kernel
theorem dX7_typesInTrial_8 : decode cX7_typesInTrial 8 = .ok (.getfield 16, 3) := by decide +kernel
theorem dX7_typesInTrial_11 : decode cX7_typesInTrial 11 = .ok (.invokevirtual 222, 3) := by decide +kernel
theorem dX7_typesInTrial_14 : decode cX7_typesInTrial 14 = .ok (.ifCond .ne 5, 3) := by decide +kernel
theorem dX7_typesInTrial_17 : decode cX7_typesInTrial 17 = .ok (.iconst 0, 1) := by decide +kernel
theorem dX7_typesInTrial_18 : decode cX7_typesInTrial 18 = .ok (.ireturn, 1) := by decide +kernel
theorem dX7_typesInTrial_19 : decode cX7_typesInTrial 19 = .ok (.aload_n 0, 1) := by decide +kernel
theorem dX7_typesInTrial_20 : decode cX7_typesInTrial 20 = .ok (.getfield 16, 3) := by decide +kernel
theorem dX7_typesInTrial_23 : decode cX7_typesInTrial 23 = .ok (.iload_n 1, 1) := by decide +kernel
theorem dX7_typesInTrial_24 : decode cX7_typesInTrial 24 = .ok (.invokevirtual 229, 3) := by decide +kernel
theorem dX7_typesInTrial_27 : decode cX7_typesInTrial 27 = .ok (.iconst 1, 1) := by decide +kernel
theorem dX7_typesInTrial_28 : decode cX7_typesInTrial 28 = .ok (.ireturn, 1) := by decide +kernel
theorem dX7_wrapsInTrial_0 : decode cX7_wrapsInTrial 0 = .ok (.iload_n 1, 1) := by decide +kernel
theorem dX7_wrapsInTrial_1 : decode cX7_wrapsInTrial 1 = .ok (.invokestatic 232, 3) := by decide +kernel
theorem dX7_wrapsInTrial_4 : decode cX7_wrapsInTrial 4 = .ok (.ifCond .eq 13, 3) := by decide +kernel
theorem dX7_wrapsInTrial_7 : decode cX7_wrapsInTrial 7 = .ok (.aload_n 0, 1) := by decide +kernel
theorem dX7_wrapsInTrial_8 : decode cX7_wrapsInTrial 8 = .ok (.getfield 16, 3) := by decide +kernel
theorem dX7_wrapsInTrial_11 : decode cX7_wrapsInTrial 11 = .ok (.invokevirtual 237, 3) := by decide +kernel
theorem dX7_wrapsInTrial_14 : decode cX7_wrapsInTrial 14 = .ok (.ifCond .ne 5, 3) := by decide +kernel
theorem dX7_wrapsInTrial_17 : decode cX7_wrapsInTrial 17 = .ok (.iconst 0, 1) := by decide +kernel
theorem dX7_wrapsInTrial_18 : decode cX7_wrapsInTrial 18 = .ok (.ireturn, 1) := by decide +kernel
theorem dX7_wrapsInTrial_19 : decode cX7_wrapsInTrial 19 = .ok (.aload_n 0, 1) := by decide +kernel
theorem dX7_wrapsInTrial_20 : decode cX7_wrapsInTrial 20 = .ok (.getfield 16, 3) := by decide +kernel
theorem dX7_wrapsInTrial_23 : decode cX7_wrapsInTrial 23 = .ok (.iload_n 1, 1) := by decide +kernel
theorem dX7_wrapsInTrial_24 : decode cX7_wrapsInTrial 24 = .ok (.invokevirtual 240, 3) := by decide +kernel
theorem dX7_wrapsInTrial_27 : decode cX7_wrapsInTrial 27 = .ok (.iconst 1, 1) := by decide +kernel
theorem dX7_wrapsInTrial_28 : decode cX7_wrapsInTrial 28 = .ok (.ireturn, 1) := by decide +kernel
theorem dX7_deletesInTrial_0 : decode cX7_deletesInTrial 0 = .ok (.aload_n 0, 1) := by decide +kernel
theorem dX7_deletesInTrial_1 : decode cX7_deletesInTrial 1 = .ok (.getfield 16, 3) := by decide +kernel
theorem dX7_deletesInTrial_4 : decode cX7_deletesInTrial 4 = .ok (.invokevirtual 243, 3) := by decide +kernel
theorem dX7_deletesInTrial_7 : decode cX7_deletesInTrial 7 = .ok (.ifCond .ne 5, 3) := by decide +kernel
theorem dX7_deletesInTrial_10 : decode cX7_deletesInTrial 10 = .ok (.iconst 0, 1) := by decide +kernel
theorem dX7_deletesInTrial_11 : decode cX7_deletesInTrial 11 = .ok (.ireturn, 1) := by decide +kernel
theorem dX7_deletesInTrial_12 : decode cX7_deletesInTrial 12 = .ok (.aload_n 0, 1) := by decide +kernel
theorem dX7_deletesInTrial_13 : decode cX7_deletesInTrial 13 = .ok (.getfield 16, 3) := by decide +kernel
theorem dX7_deletesInTrial_16 : decode cX7_deletesInTrial 16 = .ok (.invokevirtual 248, 3) := by decide +kernel
theorem dX7_deletesInTrial_19 : decode cX7_deletesInTrial 19 = .ok (.iconst 1, 1) := by decide +kernel
theorem dX7_deletesInTrial_20 : decode cX7_deletesInTrial 20 = .ok (.ireturn, 1) := by decide +kernel
theorem dX7_save_0 : decode cX7_save 0 = .ok (.iload_n 1, 1) := by decide +kernel
theorem dX7_save_1 : decode cX7_save 1 = .ok (.ifCond .lt 8, 3) := by decide +kernel
theorem dX7_save_4 : decode cX7_save 4 = .ok (.iload_n 1, 1) := by decide +kernel
theorem dX7_save_5 : decode cX7_save 5 = .ok (.iconst 1, 1) := by decide +kernel
theorem dX7_save_6 : decode cX7_save 6 = .ok (.if_icmp .le 14, 3) := by decide +kernel
theorem dX7_save_9 : decode cX7_save 9 = .ok (.new 141, 3) := by decide +kernel
theorem dX7_save_12 : decode cX7_save 12 = .ok (.dup, 1) := by decide +kernel
theorem dX7_save_13 : decode cX7_save 13 = .ok (.ldc_w 322, 3) := by decide +kernel
theorem dX7_save_16 : decode cX7_save 16 = .ok (.invokespecial 145, 3) := by decide +kernel
theorem dX7_save_19 : decode cX7_save 19 = .ok (.athrow, 1) := by decide +kernel
theorem dX7_save_20 : decode cX7_save 20 = .ok (.iload_n 1, 1) := by decide +kernel
theorem dX7_save_21 : decode cX7_save 21 = .ok (.ifCond .ne 10, 3) := by decide +kernel
theorem dX7_save_24 : decode cX7_save 24 = .ok (.aload_n 0, 1) := by decide +kernel
theorem dX7_save_25 : decode cX7_save 25 = .ok (.getfield 22, 3) := by decide +kernel
theorem dX7_save_28 : decode cX7_save 28 = .ok (.goto 7, 3) := by decide +kernel
theorem dX7_save_31 : decode cX7_save 31 = .ok (.aload_n 0, 1) := by decide +kernel
theorem dX7_save_32 : decode cX7_save 32 = .ok (.getfield 26, 3) := by decide +kernel
theorem dX7_save_35 : decode cX7_save 35 = .ok (.astore_n 2, 1) := by decide +kernel
theorem dX7_save_36 : decode cX7_save 36 = .ok (.aload_n 2, 1) := by decide +kernel
theorem dX7_save_37 : decode cX7_save 37 = .ok (.getfield 324, 3) := by decide +kernel
theorem dX7_save_40 : decode cX7_save 40 = .ok (.aload_n 0, 1) := by decide +kernel
theorem dX7_save_41 : decode cX7_save 41 = .ok (.getfield 12, 3) := by decide +kernel
theorem dX7_save_44 : decode cX7_save 44 = .ok (.invokevirtual 296, 3) := by decide +kernel
theorem dX7_save_47 : decode cX7_save 47 = .ok (.aload_n 2, 1) := by decide +kernel
theorem dX7_save_48 : decode cX7_save 48 = .ok (.iconst 1, 1) := by decide +kernel
theorem dX7_save_49 : decode cX7_save 49 = .ok (.putfield 120, 3) := by decide +kernel
theorem dX7_save_52 : decode cX7_save 52 = .ok (.aload_n 0, 1) := by decide +kernel
theorem dX7_save_53 : decode cX7_save 53 = .ok (.getfield 12, 3) := by decide +kernel
theorem dX7_save_56 : decode cX7_save 56 = .ok (.invokevirtual 124, 3) := by decide +kernel
theorem dX7_save_59 : decode cX7_save 59 = .ok (.ireturn, 1) := by decide +kernel
theorem dX7_restore_0 : decode cX7_restore 0 = .ok (.iload_n 1, 1) := by decide +kernel
theorem dX7_restore_1 : decode cX7_restore 1 = .ok (.ifCond .lt 8, 3) := by decide +kernel
theorem dX7_restore_4 : decode cX7_restore 4 = .ok (.iload_n 1, 1) := by decide +kernel
theorem dX7_restore_5 : decode cX7_restore 5 = .ok (.iconst 1, 1) := by decide +kernel
theorem dX7_restore_6 : decode cX7_restore 6 = .ok (.if_icmp .le 14, 3) := by decide +kernel
theorem dX7_restore_9 : decode cX7_restore 9 = .ok (.new 141, 3) := by decide +kernel
theorem dX7_restore_12 : decode cX7_restore 12 = .ok (.dup, 1) := by decide +kernel
theorem dX7_restore_13 : decode cX7_restore 13 = .ok (.ldc_w 322, 3) := by decide +kernel
theorem dX7_restore_16 : decode cX7_restore 16 = .ok (.invokespecial 145, 3) := by decide +kernel
theorem dX7_restore_19 : decode cX7_restore 19 = .ok (.athrow, 1) := by decide +kernel
theorem dX7_restore_20 : decode cX7_restore 20 = .ok (.iload_n 1, 1) := by decide +kernel
theorem dX7_restore_21 : decode cX7_restore 21 = .ok (.ifCond .ne 10, 3) := by decide +kernel
theorem dX7_restore_24 : decode cX7_restore 24 = .ok (.aload_n 0, 1) := by decide +kernel
theorem dX7_restore_25 : decode cX7_restore 25 = .ok (.getfield 22, 3) := by decide +kernel
theorem dX7_restore_28 : decode cX7_restore 28 = .ok (.goto 7, 3) := by decide +kernel
theorem dX7_restore_31 : decode cX7_restore 31 = .ok (.aload_n 0, 1) := by decide +kernel
theorem dX7_restore_32 : decode cX7_restore 32 = .ok (.getfield 26, 3) := by decide +kernel
theorem dX7_restore_35 : decode cX7_restore 35 = .ok (.astore_n 2, 1) := by decide +kernel
theorem dX7_restore_36 : decode cX7_restore 36 = .ok (.aload_n 2, 1) := by decide +kernel
theorem dX7_restore_37 : decode cX7_restore 37 = .ok (.getfield 120, 3) := by decide +kernel
theorem dX7_restore_40 : decode cX7_restore 40 = .ok (.ifCond .ne 14, 3) := by decide +kernel
theorem dX7_restore_43 : decode cX7_restore 43 = .ok (.new 77, 3) := by decide +kernel
theorem dX7_restore_46 : decode cX7_restore 46 = .ok (.dup, 1) := by decide +kernel
theorem dX7_restore_47 : decode cX7_restore 47 = .ok (.ldc_w 327, 3) := by decide +kernel
theorem dX7_restore_50 : decode cX7_restore 50 = .ok (.invokespecial 81, 3) := by decide +kernel
theorem dX7_restore_53 : decode cX7_restore 53 = .ok (.athrow, 1) := by decide +kernel
theorem dX7_restore_54 : decode cX7_restore 54 = .ok (.aload_n 0, 1) := by decide +kernel
theorem dX7_restore_55 : decode cX7_restore 55 = .ok (.getfield 12, 3) := by decide +kernel
theorem dX7_restore_58 : decode cX7_restore 58 = .ok (.aload_n 2, 1) := by decide +kernel
theorem dX7_restore_59 : decode cX7_restore 59 = .ok (.getfield 324, 3) := by decide +kernel
theorem dX7_restore_62 : decode cX7_restore 62 = .ok (.invokevirtual 296, 3) := by decide +kernel
theorem dX7_restore_65 : decode cX7_restore 65 = .ok (.aload_n 0, 1) := by decide +kernel
theorem dX7_restore_66 : decode cX7_restore 66 = .ok (.getfield 32, 3) := by decide +kernel
theorem dX7_restore_69 : decode cX7_restore 69 = .ok (.invokevirtual 117, 3) := by decide +kernel
theorem dX7_restore_72 : decode cX7_restore 72 = .ok (.aload_n 0, 1) := by decide +kernel
theorem dX7_restore_73 : decode cX7_restore 73 = .ok (.getfield 12, 3) := by decide +kernel
theorem dX7_restore_76 : decode cX7_restore 76 = .ok (.invokevirtual 124, 3) := by decide +kernel
theorem dX7_restore_79 : decode cX7_restore 79 = .ok (.ireturn, 1) := by decide +kernel
theorem dX7_isLetter_0 : decode cX7_isLetter 0 = .ok (.iload_n 0, 1) := by decide +kernel
theorem dX7_isLetter_1 : decode cX7_isLetter 1 = .ok (.bipush 97, 2) := by decide +kernel
theorem dX7_isLetter_3 : decode cX7_isLetter 3 = .ok (.if_icmp .lt 19, 3) := by decide +kernel
theorem dX7_isLetter_6 : decode cX7_isLetter 6 = .ok (.iload_n 0, 1) := by decide +kernel
theorem dX7_isLetter_7 : decode cX7_isLetter 7 = .ok (.bipush 122, 2) := by decide +kernel
theorem dX7_isLetter_9 : decode cX7_isLetter 9 = .ok (.if_icmp .gt 13, 3) := by decide +kernel
theorem dX7_isLetter_12 : decode cX7_isLetter 12 = .ok (.iload_n 0, 1) := by decide +kernel
theorem dX7_isLetter_13 : decode cX7_isLetter 13 = .ok (.bipush 114, 2) := by decide +kernel
theorem dX7_isLetter_15 : decode cX7_isLetter 15 = .ok (.if_icmp .eq 7, 3) := by decide +kernel
theorem dX7_isLetter_18 : decode cX7_isLetter 18 = .ok (.iconst 1, 1) := by decide +kernel
theorem dX7_isLetter_19 : decode cX7_isLetter 19 = .ok (.goto 4, 3) := by decide +kernel
theorem dX7_isLetter_22 : decode cX7_isLetter 22 = .ok (.iconst 0, 1) := by decide +kernel
theorem dX7_isLetter_23 : decode cX7_isLetter 23 = .ok (.ireturn, 1) := by decide +kernel
theorem dX7_isDigit_0 : decode cX7_isDigit 0 = .ok (.iload_n 0, 1) := by decide +kernel
theorem dX7_isDigit_1 : decode cX7_isDigit 1 = .ok (.bipush 48, 2) := by decide +kernel
theorem dX7_isDigit_3 : decode cX7_isDigit 3 = .ok (.if_icmp .lt 13, 3) := by decide +kernel
theorem dX7_isDigit_6 : decode cX7_isDigit 6 = .ok (.iload_n 0, 1) := by decide +kernel
theorem dX7_isDigit_7 : decode cX7_isDigit 7 = .ok (.bipush 57, 2) := by decide +kernel
theorem dX7_isDigit_9 : decode cX7_isDigit 9 = .ok (.if_icmp .gt 7, 3) := by decide +kernel
theorem dX7_isDigit_12 : decode cX7_isDigit 12 = .ok (.iconst 1, 1) := by decide +kernel
theorem dX7_isDigit_13 : decode cX7_isDigit 13 = .ok (.goto 4, 3) := by decide +kernel
theorem dX7_isDigit_16 : decode cX7_isDigit 16 = .ok (.iconst 0, 1) := by decide +kernel
theorem dX7_isDigit_17 : decode cX7_isDigit 17 = .ok (.ireturn, 1) := by decide +kernel
theorem dX7_isOperator_0 : decode cX7_isOperator 0 = .ok (.iload_n 0, 1) := by decide +kernel
theorem dX7_isOperator_1 : decode cX7_isOperator 1 = .ok (.bipush 43, 2) := by decide +kernel
theorem dX7_isOperator_3 : decode cX7_isOperator 3 = .ok (.if_icmp .eq 33, 3) := by decide +kernel
theorem dX7_isOperator_6 : decode cX7_isOperator 6 = .ok (.iload_n 0, 1) := by decide +kernel
theorem dX7_isOperator_7 : decode cX7_isOperator 7 = .ok (.bipush 45, 2) := by decide +kernel
theorem dX7_isOperator_9 : decode cX7_isOperator 9 = .ok (.if_icmp .eq 27, 3) := by decide +kernel
theorem dX7_isOperator_12 : decode cX7_isOperator 12 = .ok (.iload_n 0, 1) := by decide +kernel
theorem dX7_isOperator_13 : decode cX7_isOperator 13 = .ok (.bipush 42, 2) := by decide +kernel
theorem dX7_isOperator_15 : decode cX7_isOperator 15 = .ok (.if_icmp .eq 21, 3) := by decide +kernel
theorem dX7_isOperator_18 : decode cX7_isOperator 18 = .ok (.iload_n 0, 1) := by decide +kernel
theorem dX7_isOperator_19 : decode cX7_isOperator 19 = .ok (.bipush 61, 2) := by decide +kernel
theorem dX7_isOperator_21 : decode cX7_isOperator 21 = .ok (.if_icmp .eq 15, 3) := by decide +kernel
theorem dX7_isOperator_24 : decode cX7_isOperator 24 = .ok (.iload_n 0, 1) := by decide +kernel
theorem dX7_isOperator_25 : decode cX7_isOperator 25 = .ok (.bipush 44, 2) := by decide +kernel
theorem dX7_isOperator_27 : decode cX7_isOperator 27 = .ok (.if_icmp .eq 9, 3) := by decide +kernel
theorem dX7_isOperator_30 : decode cX7_isOperator 30 = .ok (.iload_n 0, 1) := by decide +kernel
theorem dX7_isOperator_31 : decode cX7_isOperator 31 = .ok (.bipush 46, 2) := by decide +kernel
theorem dX7_isOperator_33 : decode cX7_isOperator 33 = .ok (.if_icmp .ne 7, 3) := by decide +kernel
theorem dX7_isOperator_36 : decode cX7_isOperator 36 = .ok (.iconst 1, 1) := by decide +kernel
theorem dX7_isOperator_37 : decode cX7_isOperator 37 = .ok (.goto 4, 3) := by decide +kernel
theorem dX7_isOperator_40 : decode cX7_isOperator 40 = .ok (.iconst 0, 1) := by decide +kernel
theorem dX7_isOperator_41 : decode cX7_isOperator 41 = .ok (.ireturn, 1) := by decide +kernel
theorem dX7_isSymbol_0 : decode cX7_isSymbol 0 = .ok (.iload_n 0, 1) := by decide +kernel
theorem dX7_isSymbol_1 : decode cX7_isSymbol 1 = .ok (.invokestatic 329, 3) := by decide +kernel
theorem dX7_isSymbol_4 : decode cX7_isSymbol 4 = .ok (.ifCond .ne 17, 3) := by decide +kernel
theorem dX7_isSymbol_7 : decode cX7_isSymbol 7 = .ok (.iload_n 0, 1) := by decide +kernel
theorem dX7_isSymbol_8 : decode cX7_isSymbol 8 = .ok (.invokestatic 332, 3) := by decide +kernel
theorem dX7_isSymbol_11 : decode cX7_isSymbol 11 = .ok (.ifCond .ne 10, 3) := by decide +kernel
theorem dX7_isSymbol_14 : decode cX7_isSymbol 14 = .ok (.iload_n 0, 1) := by decide +kernel
theorem dX7_isSymbol_15 : decode cX7_isSymbol 15 = .ok (.invokestatic 335, 3) := by decide +kernel
theorem dX7_isSymbol_18 : decode cX7_isSymbol 18 = .ok (.ifCond .eq 7, 3) := by decide +kernel
theorem dX7_isSymbol_21 : decode cX7_isSymbol 21 = .ok (.iconst 1, 1) := by decide +kernel
theorem dX7_isSymbol_22 : decode cX7_isSymbol 22 = .ok (.goto 4, 3) := by decide +kernel
theorem dX7_isSymbol_25 : decode cX7_isSymbol 25 = .ok (.iconst 0, 1) := by decide +kernel
theorem dX7_isSymbol_26 : decode cX7_isSymbol 26 = .ok (.ireturn, 1) := by decide +kernel
theorem dX7_opens_0 : decode cX7_opens 0 = .ok (.iload_n 0, 1) := by decide +kernel
theorem dX7_opens_1 : decode cX7_opens 1 = .ok (.iconst 1, 1) := by decide +kernel
theorem dX7_opens_2 : decode cX7_opens 2 = .ok (.if_icmp .lt 12, 3) := by decide +kernel
theorem dX7_opens_5 : decode cX7_opens 5 = .ok (.iload_n 0, 1) := by decide +kernel
theorem dX7_opens_6 : decode cX7_opens 6 = .ok (.iconst 5, 1) := by decide +kernel
theorem dX7_opens_7 : decode cX7_opens 7 = .ok (.if_icmp .gt 7, 3) := by decide +kernel
theorem dX7_opens_10 : decode cX7_opens 10 = .ok (.iconst 1, 1) := by decide +kernel
theorem dX7_opens_11 : decode cX7_opens 11 = .ok (.goto 4, 3) := by decide +kernel
theorem dX7_opens_14 : decode cX7_opens 14 = .ok (.iconst 0, 1) := by decide +kernel
theorem dX7_opens_15 : decode cX7_opens 15 = .ok (.ireturn, 1) := by decide +kernel
theorem dX7_closes_0 : decode cX7_closes 0 = .ok (.iload_n 0, 1) := by decide +kernel
theorem dX7_closes_1 : decode cX7_closes 1 = .ok (.bipush 11, 2) := by decide +kernel
theorem dX7_closes_3 : decode cX7_closes 3 = .ok (.if_icmp .lt 13, 3) := by decide +kernel
theorem dX7_closes_6 : decode cX7_closes 6 = .ok (.iload_n 0, 1) := by decide +kernel
theorem dX7_closes_7 : decode cX7_closes 7 = .ok (.bipush 15, 2) := by decide +kernel
theorem dX7_closes_9 : decode cX7_closes 9 = .ok (.if_icmp .gt 7, 3) := by decide +kernel
theorem dX7_closes_12 : decode cX7_closes 12 = .ok (.iconst 1, 1) := by decide +kernel
theorem dX7_closes_13 : decode cX7_closes 13 = .ok (.goto 4, 3) := by decide +kernel
theorem dX7_closes_16 : decode cX7_closes 16 = .ok (.iconst 0, 1) := by decide +kernel
theorem dX7_closes_17 : decode cX7_closes 17 = .ok (.ireturn, 1) := by decide +kernel
theorem dX7_isScript_0 : decode cX7_isScript 0 = .ok (.iload_n 0, 1) := by decide +kernel
theorem dX7_isScript_1 : decode cX7_isScript 1 = .ok (.iconst 2, 1) := by decide +kernel
theorem dX7_isScript_2 : decode cX7_isScript 2 = .ok (.if_icmp .eq 8, 3) := by decide +kernel
theorem dX7_isScript_5 : decode cX7_isScript 5 = .ok (.iload_n 0, 1) := by decide +kernel
theorem dX7_isScript_6 : decode cX7_isScript 6 = .ok (.iconst 3, 1) := by decide +kernel
theorem dX7_isScript_7 : decode cX7_isScript 7 = .ok (.if_icmp .ne 7, 3) := by decide +kernel
theorem dX7_isScript_10 : decode cX7_isScript 10 = .ok (.iconst 1, 1) := by decide +kernel
theorem dX7_isScript_11 : decode cX7_isScript 11 = .ok (.goto 4, 3) := by decide +kernel
theorem dX7_isScript_14 : decode cX7_isScript 14 = .ok (.iconst 0, 1) := by decide +kernel
theorem dX7_isScript_15 : decode cX7_isScript 15 = .ok (.ireturn, 1) := by decide +kernel
theorem dX7_startsItem_0 : decode cX7_startsItem 0 = .ok (.iload_n 0, 1) := by decide +kernel
theorem dX7_startsItem_1 : decode cX7_startsItem 1 = .ok (.iconst 1, 1) := by decide +kernel
theorem dX7_startsItem_2 : decode cX7_startsItem 2 = .ok (.if_icmp .lt 8, 3) := by decide +kernel
theorem dX7_startsItem_5 : decode cX7_startsItem 5 = .ok (.iload_n 0, 1) := by decide +kernel
theorem dX7_startsItem_6 : decode cX7_startsItem 6 = .ok (.iconst 5, 1) := by decide +kernel
theorem dX7_startsItem_7 : decode cX7_startsItem 7 = .ok (.if_icmp .le 9, 3) := by decide +kernel
theorem dX7_startsItem_10 : decode cX7_startsItem 10 = .ok (.iload_n 0, 1) := by decide +kernel
theorem dX7_startsItem_11 : decode cX7_startsItem 11 = .ok (.bipush 42, 2) := by decide +kernel
theorem dX7_startsItem_13 : decode cX7_startsItem 13 = .ok (.if_icmp .lt 7, 3) := by decide +kernel
theorem dX7_startsItem_16 : decode cX7_startsItem 16 = .ok (.iconst 1, 1) := by decide +kernel
theorem dX7_startsItem_17 : decode cX7_startsItem 17 = .ok (.goto 4, 3) := by decide +kernel
theorem dX7_startsItem_20 : decode cX7_startsItem 20 = .ok (.iconst 0, 1) := by decide +kernel
theorem dX7_startsItem_21 : decode cX7_startsItem 21 = .ok (.ireturn, 1) := by decide +kernel
theorem dX7_endsItem_0 : decode cX7_endsItem 0 = .ok (.iload_n 0, 1) := by decide +kernel
theorem dX7_endsItem_1 : decode cX7_endsItem 1 = .ok (.bipush 10, 2) := by decide +kernel
theorem dX7_endsItem_3 : decode cX7_endsItem 3 = .ok (.if_icmp .le 7, 3) := by decide +kernel
theorem dX7_endsItem_6 : decode cX7_endsItem 6 = .ok (.iconst 1, 1) := by decide +kernel
theorem dX7_endsItem_7 : decode cX7_endsItem 7 = .ok (.goto 4, 3) := by decide +kernel
theorem dX7_endsItem_10 : decode cX7_endsItem 10 = .ok (.iconst 0, 1) := by decide +kernel
theorem dX7_endsItem_11 : decode cX7_endsItem 11 = .ok (.ireturn, 1) := by decide +kernel
theorem dL_tryAppend_0 : decode cL_tryAppend 0 = .ok (.aload_n 0, 1) := by decide +kernel
theorem dL_tryAppend_1 : decode cL_tryAppend 1 = .ok (.iload_n 1, 1) := by decide +kernel
theorem dL_tryAppend_2 : decode cL_tryAppend 2 = .ok (.invokevirtual 7, 3) := by decide +kernel
theorem dL_tryAppend_5 : decode cL_tryAppend 5 = .ok (.ireturn, 1) := by decide +kernel
theorem dL_tryAppend_6 : decode cL_tryAppend 6 = .ok (.astore_n 2, 1) := by decide +kernel
theorem dL_tryAppend_7 : decode cL_tryAppend 7 = .ok (.sipush (-1002), 3) := by decide +kernel
theorem dL_tryAppend_10 : decode cL_tryAppend 10 = .ok (.ireturn, 1) := by decide +kernel
theorem dL_tryAppend_11 : decode cL_tryAppend 11 = .ok (.astore_n 2, 1) := by decide +kernel
theorem dL_tryAppend_12 : decode cL_tryAppend 12 = .ok (.sipush (-1003), 3) := by decide +kernel
theorem dL_tryAppend_15 : decode cL_tryAppend 15 = .ok (.ireturn, 1) := by decide +kernel
theorem dL_tryLoad_0 : decode cL_tryLoad 0 = .ok (.aload_n 0, 1) := by decide +kernel
theorem dL_tryLoad_1 : decode cL_tryLoad 1 = .ok (.invokevirtual 17, 3) := by decide +kernel
theorem dL_tryLoad_4 : decode cL_tryLoad 4 = .ok (.ireturn, 1) := by decide +kernel
theorem dL_tryLoad_5 : decode cL_tryLoad 5 = .ok (.astore_n 1, 1) := by decide +kernel
theorem dL_tryLoad_6 : decode cL_tryLoad 6 = .ok (.sipush (-1003), 3) := by decide +kernel
theorem dL_tryLoad_9 : decode cL_tryLoad 9 = .ok (.ireturn, 1) := by decide +kernel
theorem dL_tryAbout_0 : decode cL_tryAbout 0 = .ok (.aload_n 0, 1) := by decide +kernel
theorem dL_tryAbout_1 : decode cL_tryAbout 1 = .ok (.iload_n 1, 1) := by decide +kernel
theorem dL_tryAbout_2 : decode cL_tryAbout 2 = .ok (.invokevirtual 21, 3) := by decide +kernel
theorem dL_tryAbout_5 : decode cL_tryAbout 5 = .ok (.ireturn, 1) := by decide +kernel
theorem dL_tryAbout_6 : decode cL_tryAbout 6 = .ok (.astore_n 2, 1) := by decide +kernel
theorem dL_tryAbout_7 : decode cL_tryAbout 7 = .ok (.sipush (-1002), 3) := by decide +kernel
theorem dL_tryAbout_10 : decode cL_tryAbout 10 = .ok (.ireturn, 1) := by decide +kernel
theorem dL_tryPlace_0 : decode cL_tryPlace 0 = .ok (.aload_n 0, 1) := by decide +kernel
theorem dL_tryPlace_1 : decode cL_tryPlace 1 = .ok (.iload_n 1, 1) := by decide +kernel
theorem dL_tryPlace_2 : decode cL_tryPlace 2 = .ok (.iload_n 2, 1) := by decide +kernel
theorem dL_tryPlace_3 : decode cL_tryPlace 3 = .ok (.invokevirtual 24, 3) := by decide +kernel
theorem dL_tryPlace_6 : decode cL_tryPlace 6 = .ok (.ireturn, 1) := by decide +kernel
theorem dL_tryPlace_7 : decode cL_tryPlace 7 = .ok (.astore_n 3, 1) := by decide +kernel
theorem dL_tryPlace_8 : decode cL_tryPlace 8 = .ok (.sipush (-1001), 3) := by decide +kernel
theorem dL_tryPlace_11 : decode cL_tryPlace 11 = .ok (.ireturn, 1) := by decide +kernel
theorem dL_tryPlace_12 : decode cL_tryPlace 12 = .ok (.astore_n 3, 1) := by decide +kernel
theorem dL_tryPlace_13 : decode cL_tryPlace 13 = .ok (.sipush (-1002), 3) := by decide +kernel
theorem dL_tryPlace_16 : decode cL_tryPlace 16 = .ok (.ireturn, 1) := by decide +kernel
theorem dL_trySelection_0 : decode cL_trySelection 0 = .ok (.aload_n 0, 1) := by decide +kernel
theorem dL_trySelection_1 : decode cL_trySelection 1 = .ok (.iload_n 1, 1) := by decide +kernel
theorem dL_trySelection_2 : decode cL_trySelection 2 = .ok (.invokevirtual 30, 3) := by decide +kernel
theorem dL_trySelection_5 : decode cL_trySelection 5 = .ok (.ireturn, 1) := by decide +kernel
theorem dL_trySelection_6 : decode cL_trySelection 6 = .ok (.astore_n 2, 1) := by decide +kernel
theorem dL_trySelection_7 : decode cL_trySelection 7 = .ok (.sipush (-1002), 3) := by decide +kernel
theorem dL_trySelection_10 : decode cL_trySelection 10 = .ok (.ireturn, 1) := by decide +kernel
theorem dL_tryLinearAt_0 : decode cL_tryLinearAt 0 = .ok (.aload_n 0, 1) := by decide +kernel
theorem dL_tryLinearAt_1 : decode cL_tryLinearAt 1 = .ok (.iload_n 1, 1) := by decide +kernel
theorem dL_tryLinearAt_2 : decode cL_tryLinearAt 2 = .ok (.invokevirtual 33, 3) := by decide +kernel
theorem dL_tryLinearAt_5 : decode cL_tryLinearAt 5 = .ok (.ireturn, 1) := by decide +kernel
theorem dL_tryLinearAt_6 : decode cL_tryLinearAt 6 = .ok (.astore_n 2, 1) := by decide +kernel
theorem dL_tryLinearAt_7 : decode cL_tryLinearAt 7 = .ok (.sipush (-1001), 3) := by decide +kernel
theorem dL_tryLinearAt_10 : decode cL_tryLinearAt 10 = .ok (.ireturn, 1) := by decide +kernel
theorem dL_tryMoveTo_0 : decode cL_tryMoveTo 0 = .ok (.aload_n 0, 1) := by decide +kernel
theorem dL_tryMoveTo_1 : decode cL_tryMoveTo 1 = .ok (.iload_n 1, 1) := by decide +kernel
theorem dL_tryMoveTo_2 : decode cL_tryMoveTo 2 = .ok (.invokevirtual 36, 3) := by decide +kernel
theorem dL_tryMoveTo_5 : decode cL_tryMoveTo 5 = .ok (.ireturn, 1) := by decide +kernel
theorem dL_tryMoveTo_6 : decode cL_tryMoveTo 6 = .ok (.astore_n 2, 1) := by decide +kernel
theorem dL_tryMoveTo_7 : decode cL_tryMoveTo 7 = .ok (.sipush (-1001), 3) := by decide +kernel
theorem dL_tryMoveTo_10 : decode cL_tryMoveTo 10 = .ok (.ireturn, 1) := by decide +kernel
theorem dL_tryMoveBy_0 : decode cL_tryMoveBy 0 = .ok (.aload_n 0, 1) := by decide +kernel
theorem dL_tryMoveBy_1 : decode cL_tryMoveBy 1 = .ok (.iload_n 1, 1) := by decide +kernel
theorem dL_tryMoveBy_2 : decode cL_tryMoveBy 2 = .ok (.invokevirtual 39, 3) := by decide +kernel
theorem dL_tryMoveBy_5 : decode cL_tryMoveBy 5 = .ok (.ireturn, 1) := by decide +kernel
theorem dL_tryMoveBy_6 : decode cL_tryMoveBy 6 = .ok (.astore_n 2, 1) := by decide +kernel
theorem dL_tryMoveBy_7 : decode cL_tryMoveBy 7 = .ok (.sipush (-1002), 3) := by decide +kernel
theorem dL_tryMoveBy_10 : decode cL_tryMoveBy 10 = .ok (.ireturn, 1) := by decide +kernel
theorem dL_tryExtend_0 : decode cL_tryExtend 0 = .ok (.aload_n 0, 1) := by decide +kernel
theorem dL_tryExtend_1 : decode cL_tryExtend 1 = .ok (.iload_n 1, 1) := by decide +kernel
theorem dL_tryExtend_2 : decode cL_tryExtend 2 = .ok (.invokevirtual 42, 3) := by decide +kernel
theorem dL_tryExtend_5 : decode cL_tryExtend 5 = .ok (.ireturn, 1) := by decide +kernel
theorem dL_tryExtend_6 : decode cL_tryExtend 6 = .ok (.astore_n 2, 1) := by decide +kernel
theorem dL_tryExtend_7 : decode cL_tryExtend 7 = .ok (.sipush (-1003), 3) := by decide +kernel
theorem dL_tryExtend_10 : decode cL_tryExtend 10 = .ok (.ireturn, 1) := by decide +kernel
theorem dL_tryGrow_0 : decode cL_tryGrow 0 = .ok (.aload_n 0, 1) := by decide +kernel
theorem dL_tryGrow_1 : decode cL_tryGrow 1 = .ok (.invokevirtual 46, 3) := by decide +kernel
theorem dL_tryGrow_4 : decode cL_tryGrow 4 = .ok (.ireturn, 1) := by decide +kernel
theorem dL_tryGrow_5 : decode cL_tryGrow 5 = .ok (.astore_n 1, 1) := by decide +kernel
theorem dL_tryGrow_6 : decode cL_tryGrow 6 = .ok (.sipush (-1003), 3) := by decide +kernel
theorem dL_tryGrow_9 : decode cL_tryGrow 9 = .ok (.ireturn, 1) := by decide +kernel
theorem dL_tryCopy_0 : decode cL_tryCopy 0 = .ok (.aload_n 0, 1) := by decide +kernel
theorem dL_tryCopy_1 : decode cL_tryCopy 1 = .ok (.invokevirtual 49, 3) := by decide +kernel
theorem dL_tryCopy_4 : decode cL_tryCopy 4 = .ok (.ireturn, 1) := by decide +kernel
theorem dL_tryCopy_5 : decode cL_tryCopy 5 = .ok (.astore_n 1, 1) := by decide +kernel
theorem dL_tryCopy_6 : decode cL_tryCopy 6 = .ok (.sipush (-1003), 3) := by decide +kernel
theorem dL_tryCopy_9 : decode cL_tryCopy 9 = .ok (.ireturn, 1) := by decide +kernel
theorem dL_tryType_0 : decode cL_tryType 0 = .ok (.aload_n 0, 1) := by decide +kernel
theorem dL_tryType_1 : decode cL_tryType 1 = .ok (.iload_n 1, 1) := by decide +kernel
theorem dL_tryType_2 : decode cL_tryType 2 = .ok (.invokevirtual 52, 3) := by decide +kernel
theorem dL_tryType_5 : decode cL_tryType 5 = .ok (.ireturn, 1) := by decide +kernel
theorem dL_tryType_6 : decode cL_tryType 6 = .ok (.astore_n 2, 1) := by decide +kernel
theorem dL_tryType_7 : decode cL_tryType 7 = .ok (.sipush (-1002), 3) := by decide +kernel
theorem dL_tryType_10 : decode cL_tryType 10 = .ok (.ireturn, 1) := by decide +kernel
theorem dL_tryType_11 : decode cL_tryType 11 = .ok (.astore_n 2, 1) := by decide +kernel
theorem dL_tryType_12 : decode cL_tryType 12 = .ok (.sipush (-1003), 3) := by decide +kernel
theorem dL_tryType_15 : decode cL_tryType 15 = .ok (.ireturn, 1) := by decide +kernel
theorem dL_tryWrap_0 : decode cL_tryWrap 0 = .ok (.aload_n 0, 1) := by decide +kernel
theorem dL_tryWrap_1 : decode cL_tryWrap 1 = .ok (.iload_n 1, 1) := by decide +kernel
theorem dL_tryWrap_2 : decode cL_tryWrap 2 = .ok (.invokevirtual 55, 3) := by decide +kernel
theorem dL_tryWrap_5 : decode cL_tryWrap 5 = .ok (.ireturn, 1) := by decide +kernel
theorem dL_tryWrap_6 : decode cL_tryWrap 6 = .ok (.astore_n 2, 1) := by decide +kernel
theorem dL_tryWrap_7 : decode cL_tryWrap 7 = .ok (.sipush (-1002), 3) := by decide +kernel
theorem dL_tryWrap_10 : decode cL_tryWrap 10 = .ok (.ireturn, 1) := by decide +kernel
theorem dL_tryWrap_11 : decode cL_tryWrap 11 = .ok (.astore_n 2, 1) := by decide +kernel
theorem dL_tryWrap_12 : decode cL_tryWrap 12 = .ok (.sipush (-1003), 3) := by decide +kernel
theorem dL_tryWrap_15 : decode cL_tryWrap 15 = .ok (.ireturn, 1) := by decide +kernel
theorem dL_tryBackspace_0 : decode cL_tryBackspace 0 = .ok (.aload_n 0, 1) := by decide +kernel
theorem dL_tryBackspace_1 : decode cL_tryBackspace 1 = .ok (.invokevirtual 58, 3) := by decide +kernel
theorem dL_tryBackspace_4 : decode cL_tryBackspace 4 = .ok (.ireturn, 1) := by decide +kernel
theorem dL_tryBackspace_5 : decode cL_tryBackspace 5 = .ok (.astore_n 1, 1) := by decide +kernel
theorem dL_tryBackspace_6 : decode cL_tryBackspace 6 = .ok (.sipush (-1003), 3) := by decide +kernel
theorem dL_tryBackspace_9 : decode cL_tryBackspace 9 = .ok (.ireturn, 1) := by decide +kernel
theorem dL_tryPaste_0 : decode cL_tryPaste 0 = .ok (.aload_n 0, 1) := by decide +kernel
theorem dL_tryPaste_1 : decode cL_tryPaste 1 = .ok (.invokevirtual 61, 3) := by decide +kernel
theorem dL_tryPaste_4 : decode cL_tryPaste 4 = .ok (.ireturn, 1) := by decide +kernel
theorem dL_tryPaste_5 : decode cL_tryPaste 5 = .ok (.astore_n 1, 1) := by decide +kernel
theorem dL_tryPaste_6 : decode cL_tryPaste 6 = .ok (.sipush (-1003), 3) := by decide +kernel
theorem dL_tryPaste_9 : decode cL_tryPaste 9 = .ok (.ireturn, 1) := by decide +kernel
theorem dL_tryReplace_0 : decode cL_tryReplace 0 = .ok (.aload_n 0, 1) := by decide +kernel
theorem dL_tryReplace_1 : decode cL_tryReplace 1 = .ok (.iload_n 1, 1) := by decide +kernel
theorem dL_tryReplace_2 : decode cL_tryReplace 2 = .ok (.iload_n 2, 1) := by decide +kernel
theorem dL_tryReplace_3 : decode cL_tryReplace 3 = .ok (.invokevirtual 64, 3) := by decide +kernel
theorem dL_tryReplace_6 : decode cL_tryReplace 6 = .ok (.ireturn, 1) := by decide +kernel
theorem dL_tryReplace_7 : decode cL_tryReplace 7 = .ok (.astore_n 3, 1) := by decide +kernel
theorem dL_tryReplace_8 : decode cL_tryReplace 8 = .ok (.sipush (-1002), 3) := by decide +kernel
theorem dL_tryReplace_11 : decode cL_tryReplace 11 = .ok (.ireturn, 1) := by decide +kernel
theorem dL_tryUndo_0 : decode cL_tryUndo 0 = .ok (.aload_n 0, 1) := by decide +kernel
theorem dL_tryUndo_1 : decode cL_tryUndo 1 = .ok (.invokevirtual 67, 3) := by decide +kernel
theorem dL_tryUndo_4 : decode cL_tryUndo 4 = .ok (.ireturn, 1) := by decide +kernel
theorem dL_tryUndo_5 : decode cL_tryUndo 5 = .ok (.astore_n 1, 1) := by decide +kernel
theorem dL_tryUndo_6 : decode cL_tryUndo 6 = .ok (.sipush (-1003), 3) := by decide +kernel
theorem dL_tryUndo_9 : decode cL_tryUndo 9 = .ok (.ireturn, 1) := by decide +kernel
theorem dL_tryDrawing_0 : decode cL_tryDrawing 0 = .ok (.aload_n 0, 1) := by decide +kernel
theorem dL_tryDrawing_1 : decode cL_tryDrawing 1 = .ok (.iload_n 1, 1) := by decide +kernel
theorem dL_tryDrawing_2 : decode cL_tryDrawing 2 = .ok (.invokevirtual 70, 3) := by decide +kernel
theorem dL_tryDrawing_5 : decode cL_tryDrawing 5 = .ok (.ireturn, 1) := by decide +kernel
theorem dL_tryDrawing_6 : decode cL_tryDrawing 6 = .ok (.astore_n 2, 1) := by decide +kernel
theorem dL_tryDrawing_7 : decode cL_tryDrawing 7 = .ok (.sipush (-1002), 3) := by decide +kernel
theorem dL_tryDrawing_10 : decode cL_tryDrawing 10 = .ok (.ireturn, 1) := by decide +kernel
theorem dL_tryDrawn_0 : decode cL_tryDrawn 0 = .ok (.aload_n 0, 1) := by decide +kernel
theorem dL_tryDrawn_1 : decode cL_tryDrawn 1 = .ok (.iload_n 1, 1) := by decide +kernel
theorem dL_tryDrawn_2 : decode cL_tryDrawn 2 = .ok (.iload_n 2, 1) := by decide +kernel
theorem dL_tryDrawn_3 : decode cL_tryDrawn 3 = .ok (.invokevirtual 73, 3) := by decide +kernel
theorem dL_tryDrawn_6 : decode cL_tryDrawn 6 = .ok (.ireturn, 1) := by decide +kernel
theorem dL_tryDrawn_7 : decode cL_tryDrawn 7 = .ok (.astore_n 3, 1) := by decide +kernel
theorem dL_tryDrawn_8 : decode cL_tryDrawn 8 = .ok (.sipush (-1001), 3) := by decide +kernel
theorem dL_tryDrawn_11 : decode cL_tryDrawn 11 = .ok (.ireturn, 1) := by decide +kernel
theorem dL_tryScript_0 : decode cL_tryScript 0 = .ok (.aload_n 0, 1) := by decide +kernel
theorem dL_tryScript_1 : decode cL_tryScript 1 = .ok (.iload_n 1, 1) := by decide +kernel
theorem dL_tryScript_2 : decode cL_tryScript 2 = .ok (.lload_n 2, 1) := by decide +kernel
theorem dL_tryScript_3 : decode cL_tryScript 3 = .ok (.invokevirtual 76, 3) := by decide +kernel
theorem dL_tryScript_6 : decode cL_tryScript 6 = .ok (.ireturn, 1) := by decide +kernel
theorem dL_tryScript_7 : decode cL_tryScript 7 = .ok (.astore 4, 2) := by decide +kernel
theorem dL_tryScript_9 : decode cL_tryScript 9 = .ok (.sipush (-1002), 3) := by decide +kernel
theorem dL_tryScript_12 : decode cL_tryScript 12 = .ok (.ireturn, 1) := by decide +kernel
theorem dL_trySimulate_0 : decode cL_trySimulate 0 = .ok (.aload_n 0, 1) := by decide +kernel
theorem dL_trySimulate_1 : decode cL_trySimulate 1 = .ok (.lload_n 1, 1) := by decide +kernel
theorem dL_trySimulate_2 : decode cL_trySimulate 2 = .ok (.iload_n 3, 1) := by decide +kernel
theorem dL_trySimulate_3 : decode cL_trySimulate 3 = .ok (.invokevirtual 80, 3) := by decide +kernel
theorem dL_trySimulate_6 : decode cL_trySimulate 6 = .ok (.ireturn, 1) := by decide +kernel
theorem dL_trySimulate_7 : decode cL_trySimulate 7 = .ok (.astore 4, 2) := by decide +kernel
theorem dL_trySimulate_9 : decode cL_trySimulate 9 = .ok (.sipush (-1002), 3) := by decide +kernel
theorem dL_trySimulate_12 : decode cL_trySimulate 12 = .ok (.ireturn, 1) := by decide +kernel
theorem dL_trySave_0 : decode cL_trySave 0 = .ok (.aload_n 0, 1) := by decide +kernel
theorem dL_trySave_1 : decode cL_trySave 1 = .ok (.iload_n 1, 1) := by decide +kernel
theorem dL_trySave_2 : decode cL_trySave 2 = .ok (.invokevirtual 84, 3) := by decide +kernel
theorem dL_trySave_5 : decode cL_trySave 5 = .ok (.ireturn, 1) := by decide +kernel
theorem dL_trySave_6 : decode cL_trySave 6 = .ok (.astore_n 2, 1) := by decide +kernel
theorem dL_trySave_7 : decode cL_trySave 7 = .ok (.sipush (-1001), 3) := by decide +kernel
theorem dL_trySave_10 : decode cL_trySave 10 = .ok (.ireturn, 1) := by decide +kernel
theorem dL_tryRestore_0 : decode cL_tryRestore 0 = .ok (.aload_n 0, 1) := by decide +kernel
theorem dL_tryRestore_1 : decode cL_tryRestore 1 = .ok (.iload_n 1, 1) := by decide +kernel
theorem dL_tryRestore_2 : decode cL_tryRestore 2 = .ok (.invokevirtual 87, 3) := by decide +kernel
theorem dL_tryRestore_5 : decode cL_tryRestore 5 = .ok (.ireturn, 1) := by decide +kernel
theorem dL_tryRestore_6 : decode cL_tryRestore 6 = .ok (.astore_n 2, 1) := by decide +kernel
theorem dL_tryRestore_7 : decode cL_tryRestore 7 = .ok (.sipush (-1001), 3) := by decide +kernel
theorem dL_tryRestore_10 : decode cL_tryRestore 10 = .ok (.ireturn, 1) := by decide +kernel
theorem dL_tryRestore_11 : decode cL_tryRestore 11 = .ok (.astore_n 2, 1) := by decide +kernel
theorem dL_tryRestore_12 : decode cL_tryRestore 12 = .ok (.sipush (-1003), 3) := by decide +kernel
theorem dL_tryRestore_15 : decode cL_tryRestore 15 = .ok (.ireturn, 1) := by decide +kernel
theorem dL_cell_0 : decode cL_cell 0 = .ok (.iload_n 1, 1) := by decide +kernel
theorem dL_cell_1 : decode cL_cell 1 = .ok (.aload_n 0, 1) := by decide +kernel
theorem dL_cell_2 : decode cL_cell 2 = .ok (.arraylength, 1) := by decide +kernel
theorem dL_cell_3 : decode cL_cell 3 = .ok (.if_icmp .ge 9, 3) := by decide +kernel
theorem dL_cell_6 : decode cL_cell 6 = .ok (.aload_n 0, 1) := by decide +kernel
theorem dL_cell_7 : decode cL_cell 7 = .ok (.iload_n 1, 1) := by decide +kernel
theorem dL_cell_8 : decode cL_cell 8 = .ok (.iaload, 1) := by decide +kernel
theorem dL_cell_9 : decode cL_cell 9 = .ok (.goto 13, 3) := by decide +kernel
theorem dL_cell_12 : decode cL_cell 12 = .ok (.ldc 90, 2) := by decide +kernel
theorem dL_cell_14 : decode cL_cell 14 = .ok (.iload_n 1, 1) := by decide +kernel
theorem dL_cell_15 : decode cL_cell 15 = .ok (.iconst 5, 1) := by decide +kernel
theorem dL_cell_16 : decode cL_cell 16 = .ok (.iadd, 1) := by decide +kernel
theorem dL_cell_17 : decode cL_cell 17 = .ok (.imul, 1) := by decide +kernel
theorem dL_cell_18 : decode cL_cell 18 = .ok (.sipush 9767, 3) := by decide +kernel
theorem dL_cell_21 : decode cL_cell 21 = .ok (.iadd, 1) := by decide +kernel
theorem dL_cell_22 : decode cL_cell 22 = .ok (.ldc 91, 2) := by decide +kernel
theorem dL_cell_24 : decode cL_cell 24 = .ok (.iand, 1) := by decide +kernel
theorem dL_cell_25 : decode cL_cell 25 = .ok (.ireturn, 1) := by decide +kernel
theorem dL_symbol_0 : decode cL_symbol 0 = .ok (.iload_n 0, 1) := by decide +kernel
theorem dL_symbol_1 : decode cL_symbol 1 = .ok (.bipush 24, 2) := by decide +kernel
theorem dL_symbol_3 : decode cL_symbol 3 = .ok (.irem, 1) := by decide +kernel
theorem dL_symbol_4 : decode cL_symbol 4 = .ok (.istore_n 1, 1) := by decide +kernel
theorem dL_symbol_5 : decode cL_symbol 5 = .ok (.iload_n 1, 1) := by decide +kernel
theorem dL_symbol_6 : decode cL_symbol 6 = .ok (.bipush 10, 2) := by decide +kernel
theorem dL_symbol_8 : decode cL_symbol 8 = .ok (.if_icmp .ge 10, 3) := by decide +kernel
theorem dL_symbol_11 : decode cL_symbol 11 = .ok (.bipush 97, 2) := by decide +kernel
theorem dL_symbol_13 : decode cL_symbol 13 = .ok (.iload_n 1, 1) := by decide +kernel
theorem dL_symbol_14 : decode cL_symbol 14 = .ok (.iadd, 1) := by decide +kernel
theorem dL_symbol_15 : decode cL_symbol 15 = .ok (.goto 87, 3) := by decide +kernel
theorem dL_symbol_18 : decode cL_symbol 18 = .ok (.iload_n 1, 1) := by decide +kernel
theorem dL_symbol_19 : decode cL_symbol 19 = .ok (.bipush 16, 2) := by decide +kernel
theorem dL_symbol_21 : decode cL_symbol 21 = .ok (.if_icmp .ge 13, 3) := by decide +kernel
theorem dL_symbol_24 : decode cL_symbol 24 = .ok (.bipush 48, 2) := by decide +kernel
theorem dL_symbol_26 : decode cL_symbol 26 = .ok (.iload_n 1, 1) := by decide +kernel
theorem dL_symbol_27 : decode cL_symbol 27 = .ok (.iadd, 1) := by decide +kernel
theorem dL_symbol_28 : decode cL_symbol 28 = .ok (.bipush 10, 2) := by decide +kernel
theorem dL_symbol_30 : decode cL_symbol 30 = .ok (.isub, 1) := by decide +kernel
theorem dL_symbol_31 : decode cL_symbol 31 = .ok (.goto 71, 3) := by decide +kernel
theorem dL_symbol_34 : decode cL_symbol 34 = .ok (.iload_n 1, 1) := by decide +kernel
theorem dL_symbol_35 : decode cL_symbol 35 = .ok (.bipush 16, 2) := by decide +kernel
theorem dL_symbol_37 : decode cL_symbol 37 = .ok (.if_icmp .ne 8, 3) := by decide +kernel
theorem dL_symbol_40 : decode cL_symbol 40 = .ok (.bipush 43, 2) := by decide +kernel
theorem dL_symbol_42 : decode cL_symbol 42 = .ok (.goto 60, 3) := by decide +kernel
theorem dL_symbol_45 : decode cL_symbol 45 = .ok (.iload_n 1, 1) := by decide +kernel
theorem dL_symbol_46 : decode cL_symbol 46 = .ok (.bipush 17, 2) := by decide +kernel
theorem dL_symbol_48 : decode cL_symbol 48 = .ok (.if_icmp .ne 8, 3) := by decide +kernel
theorem dL_symbol_51 : decode cL_symbol 51 = .ok (.bipush 45, 2) := by decide +kernel
theorem dL_symbol_53 : decode cL_symbol 53 = .ok (.goto 49, 3) := by decide +kernel
theorem dL_symbol_56 : decode cL_symbol 56 = .ok (.iload_n 1, 1) := by decide +kernel
theorem dL_symbol_57 : decode cL_symbol 57 = .ok (.bipush 18, 2) := by decide +kernel
theorem dL_symbol_59 : decode cL_symbol 59 = .ok (.if_icmp .ne 8, 3) := by decide +kernel
theorem dL_symbol_62 : decode cL_symbol 62 = .ok (.bipush 42, 2) := by decide +kernel
theorem dL_symbol_64 : decode cL_symbol 64 = .ok (.goto 38, 3) := by decide +kernel
theorem dL_symbol_67 : decode cL_symbol 67 = .ok (.iload_n 1, 1) := by decide +kernel
theorem dL_symbol_68 : decode cL_symbol 68 = .ok (.bipush 19, 2) := by decide +kernel
theorem dL_symbol_70 : decode cL_symbol 70 = .ok (.if_icmp .ne 8, 3) := by decide +kernel
theorem dL_symbol_73 : decode cL_symbol 73 = .ok (.bipush 61, 2) := by decide +kernel
theorem dL_symbol_75 : decode cL_symbol 75 = .ok (.goto 27, 3) := by decide +kernel
theorem dL_symbol_78 : decode cL_symbol 78 = .ok (.iload_n 1, 1) := by decide +kernel
theorem dL_symbol_79 : decode cL_symbol 79 = .ok (.bipush 20, 2) := by decide +kernel
theorem dL_symbol_81 : decode cL_symbol 81 = .ok (.if_icmp .ne 8, 3) := by decide +kernel
theorem dL_symbol_84 : decode cL_symbol 84 = .ok (.bipush 44, 2) := by decide +kernel
theorem dL_symbol_86 : decode cL_symbol 86 = .ok (.goto 16, 3) := by decide +kernel
theorem dL_symbol_89 : decode cL_symbol 89 = .ok (.iload_n 1, 1) := by decide +kernel
theorem dL_symbol_90 : decode cL_symbol 90 = .ok (.bipush 21, 2) := by decide +kernel
theorem dL_symbol_92 : decode cL_symbol 92 = .ok (.if_icmp .ne 8, 3) := by decide +kernel
theorem dL_symbol_95 : decode cL_symbol 95 = .ok (.bipush 46, 2) := by decide +kernel
theorem dL_symbol_97 : decode cL_symbol 97 = .ok (.goto 5, 3) := by decide +kernel
theorem dL_symbol_100 : decode cL_symbol 100 = .ok (.bipush 120, 2) := by decide +kernel
theorem dL_symbol_102 : decode cL_symbol 102 = .ok (.ireturn, 1) := by decide +kernel
theorem dL_isLetter_0 : decode cL_isLetter 0 = .ok (.iload_n 0, 1) := by decide +kernel
theorem dL_isLetter_1 : decode cL_isLetter 1 = .ok (.bipush 97, 2) := by decide +kernel
theorem dL_isLetter_3 : decode cL_isLetter 3 = .ok (.if_icmp .lt 13, 3) := by decide +kernel
theorem dL_isLetter_6 : decode cL_isLetter 6 = .ok (.iload_n 0, 1) := by decide +kernel
theorem dL_isLetter_7 : decode cL_isLetter 7 = .ok (.bipush 122, 2) := by decide +kernel
theorem dL_isLetter_9 : decode cL_isLetter 9 = .ok (.if_icmp .gt 7, 3) := by decide +kernel
theorem dL_isLetter_12 : decode cL_isLetter 12 = .ok (.iconst 1, 1) := by decide +kernel
theorem dL_isLetter_13 : decode cL_isLetter 13 = .ok (.goto 4, 3) := by decide +kernel
theorem dL_isLetter_16 : decode cL_isLetter 16 = .ok (.iconst 0, 1) := by decide +kernel
theorem dL_isLetter_17 : decode cL_isLetter 17 = .ok (.ireturn, 1) := by decide +kernel
theorem dL_equal_0 : decode cL_equal 0 = .ok (.aload_n 0, 1) := by decide +kernel
theorem dL_equal_1 : decode cL_equal 1 = .ok (.iconst 0, 1) := by decide +kernel
theorem dL_equal_2 : decode cL_equal 2 = .ok (.invokestatic 92, 3) := by decide +kernel
theorem dL_equal_5 : decode cL_equal 5 = .ok (.aload_n 1, 1) := by decide +kernel
theorem dL_equal_6 : decode cL_equal 6 = .ok (.iconst 0, 1) := by decide +kernel
theorem dL_equal_7 : decode cL_equal 7 = .ok (.invokestatic 92, 3) := by decide +kernel
theorem dL_equal_10 : decode cL_equal 10 = .ok (.if_icmp .ne 20, 3) := by decide +kernel
theorem dL_equal_13 : decode cL_equal 13 = .ok (.aload_n 0, 1) := by decide +kernel
theorem dL_equal_14 : decode cL_equal 14 = .ok (.iconst 1, 1) := by decide +kernel
theorem dL_equal_15 : decode cL_equal 15 = .ok (.invokestatic 92, 3) := by decide +kernel
theorem dL_equal_18 : decode cL_equal 18 = .ok (.aload_n 1, 1) := by decide +kernel
theorem dL_equal_19 : decode cL_equal 19 = .ok (.iconst 1, 1) := by decide +kernel
theorem dL_equal_20 : decode cL_equal 20 = .ok (.invokestatic 92, 3) := by decide +kernel
theorem dL_equal_23 : decode cL_equal 23 = .ok (.if_icmp .ne 7, 3) := by decide +kernel
theorem dL_equal_26 : decode cL_equal 26 = .ok (.iconst 1, 1) := by decide +kernel
theorem dL_equal_27 : decode cL_equal 27 = .ok (.goto 4, 3) := by decide +kernel
theorem dL_equal_30 : decode cL_equal 30 = .ok (.iconst 0, 1) := by decide +kernel
theorem dL_equal_31 : decode cL_equal 31 = .ok (.istore_n 2, 1) := by decide +kernel
theorem dL_equal_32 : decode cL_equal 32 = .ok (.iconst 0, 1) := by decide +kernel
theorem dL_equal_33 : decode cL_equal 33 = .ok (.istore_n 3, 1) := by decide +kernel
theorem dL_equal_34 : decode cL_equal 34 = .ok (.iload_n 3, 1) := by decide +kernel
theorem dL_equal_35 : decode cL_equal 35 = .ok (.aload_n 0, 1) := by decide +kernel
theorem dL_equal_36 : decode cL_equal 36 = .ok (.iconst 1, 1) := by decide +kernel
theorem dL_equal_37 : decode cL_equal 37 = .ok (.invokestatic 92, 3) := by decide +kernel
theorem dL_equal_40 : decode cL_equal 40 = .ok (.if_icmp .ge 56, 3) := by decide +kernel
theorem dL_equal_43 : decode cL_equal 43 = .ok (.iload_n 2, 1) := by decide +kernel
theorem dL_equal_44 : decode cL_equal 44 = .ok (.ifCond .eq 52, 3) := by decide +kernel
theorem dL_equal_47 : decode cL_equal 47 = .ok (.iconst 0, 1) := by decide +kernel
theorem dL_equal_48 : decode cL_equal 48 = .ok (.istore 4, 2) := by decide +kernel
theorem dL_equal_50 : decode cL_equal 50 = .ok (.iload 4, 2) := by decide +kernel
theorem dL_equal_52 : decode cL_equal 52 = .ok (.bipush 6, 2) := by decide +kernel
theorem dL_equal_54 : decode cL_equal 54 = .ok (.if_icmp .ge 36, 3) := by decide +kernel
theorem dL_equal_57 : decode cL_equal 57 = .ok (.iload_n 2, 1) := by decide +kernel
theorem dL_equal_58 : decode cL_equal 58 = .ok (.ifCond .eq 24, 3) := by decide +kernel
theorem dL_equal_61 : decode cL_equal 61 = .ok (.aload_n 0, 1) := by decide +kernel
theorem dL_equal_62 : decode cL_equal 62 = .ok (.iload_n 3, 1) := by decide +kernel
theorem dL_equal_63 : decode cL_equal 63 = .ok (.iload 4, 2) := by decide +kernel
theorem dL_equal_65 : decode cL_equal 65 = .ok (.invokestatic 98, 3) := by decide +kernel
theorem dL_equal_68 : decode cL_equal 68 = .ok (.aload_n 1, 1) := by decide +kernel
theorem dL_equal_69 : decode cL_equal 69 = .ok (.iload_n 3, 1) := by decide +kernel
theorem dL_equal_70 : decode cL_equal 70 = .ok (.iload 4, 2) := by decide +kernel
theorem dL_equal_72 : decode cL_equal 72 = .ok (.invokestatic 98, 3) := by decide +kernel
theorem dL_equal_75 : decode cL_equal 75 = .ok (.if_icmp .ne 7, 3) := by decide +kernel
theorem dL_equal_78 : decode cL_equal 78 = .ok (.iconst 1, 1) := by decide +kernel
theorem dL_equal_79 : decode cL_equal 79 = .ok (.goto 4, 3) := by decide +kernel
theorem dL_equal_82 : decode cL_equal 82 = .ok (.iconst 0, 1) := by decide +kernel
theorem dL_equal_83 : decode cL_equal 83 = .ok (.istore_n 2, 1) := by decide +kernel
theorem dL_equal_84 : decode cL_equal 84 = .ok (.iinc 4 1, 3) := by decide +kernel
theorem dL_equal_87 : decode cL_equal 87 = .ok (.goto (-37), 3) := by decide +kernel
theorem dL_equal_90 : decode cL_equal 90 = .ok (.iinc 3 1, 3) := by decide +kernel
theorem dL_equal_93 : decode cL_equal 93 = .ok (.goto (-59), 3) := by decide +kernel
theorem dL_equal_96 : decode cL_equal 96 = .ok (.iload_n 2, 1) := by decide +kernel
theorem dL_equal_97 : decode cL_equal 97 = .ok (.ireturn, 1) := by decide +kernel
theorem dL_alike_0 : decode cL_alike 0 = .ok (.aload_n 0, 1) := by decide +kernel
theorem dL_alike_1 : decode cL_alike 1 = .ok (.aload_n 1, 1) := by decide +kernel
theorem dL_alike_2 : decode cL_alike 2 = .ok (.invokestatic 102, 3) := by decide +kernel
theorem dL_alike_5 : decode cL_alike 5 = .ok (.ifCond .eq 18, 3) := by decide +kernel
theorem dL_alike_8 : decode cL_alike 8 = .ok (.aload_n 0, 1) := by decide +kernel
theorem dL_alike_9 : decode cL_alike 9 = .ok (.invokevirtual 106, 3) := by decide +kernel
theorem dL_alike_12 : decode cL_alike 12 = .ok (.aload_n 1, 1) := by decide +kernel
theorem dL_alike_13 : decode cL_alike 13 = .ok (.invokevirtual 106, 3) := by decide +kernel
theorem dL_alike_16 : decode cL_alike 16 = .ok (.if_icmp .ne 7, 3) := by decide +kernel
theorem dL_alike_19 : decode cL_alike 19 = .ok (.iconst 1, 1) := by decide +kernel
theorem dL_alike_20 : decode cL_alike 20 = .ok (.goto 4, 3) := by decide +kernel
theorem dL_alike_23 : decode cL_alike 23 = .ok (.iconst 0, 1) := by decide +kernel
theorem dL_alike_24 : decode cL_alike 24 = .ok (.istore_n 2, 1) := by decide +kernel
theorem dL_alike_25 : decode cL_alike 25 = .ok (.iconst 0, 1) := by decide +kernel
theorem dL_alike_26 : decode cL_alike 26 = .ok (.istore_n 3, 1) := by decide +kernel
theorem dL_alike_27 : decode cL_alike 27 = .ok (.iload_n 3, 1) := by decide +kernel
theorem dL_alike_28 : decode cL_alike 28 = .ok (.bipush 6, 2) := by decide +kernel
theorem dL_alike_30 : decode cL_alike 30 = .ok (.if_icmp .ge 66, 3) := by decide +kernel
theorem dL_alike_33 : decode cL_alike 33 = .ok (.iload_n 2, 1) := by decide +kernel
theorem dL_alike_34 : decode cL_alike 34 = .ok (.ifCond .eq 54, 3) := by decide +kernel
theorem dL_alike_37 : decode cL_alike 37 = .ok (.aload_n 0, 1) := by decide +kernel
theorem dL_alike_38 : decode cL_alike 38 = .ok (.iload_n 3, 1) := by decide +kernel
theorem dL_alike_39 : decode cL_alike 39 = .ok (.invokestatic 92, 3) := by decide +kernel
theorem dL_alike_42 : decode cL_alike 42 = .ok (.aload_n 1, 1) := by decide +kernel
theorem dL_alike_43 : decode cL_alike 43 = .ok (.iload_n 3, 1) := by decide +kernel
theorem dL_alike_44 : decode cL_alike 44 = .ok (.invokestatic 92, 3) := by decide +kernel
theorem dL_alike_47 : decode cL_alike 47 = .ok (.if_icmp .ne 41, 3) := by decide +kernel
theorem dL_alike_50 : decode cL_alike 50 = .ok (.aload_n 0, 1) := by decide +kernel
theorem dL_alike_51 : decode cL_alike 51 = .ok (.iload_n 3, 1) := by decide +kernel
theorem dL_alike_52 : decode cL_alike 52 = .ok (.iconst 3, 1) := by decide +kernel
theorem dL_alike_53 : decode cL_alike 53 = .ok (.irem, 1) := by decide +kernel
theorem dL_alike_54 : decode cL_alike 54 = .ok (.invokestatic 109, 3) := by decide +kernel
theorem dL_alike_57 : decode cL_alike 57 = .ok (.aload_n 1, 1) := by decide +kernel
theorem dL_alike_58 : decode cL_alike 58 = .ok (.iload_n 3, 1) := by decide +kernel
theorem dL_alike_59 : decode cL_alike 59 = .ok (.iconst 3, 1) := by decide +kernel
theorem dL_alike_60 : decode cL_alike 60 = .ok (.irem, 1) := by decide +kernel
theorem dL_alike_61 : decode cL_alike 61 = .ok (.invokestatic 109, 3) := by decide +kernel
theorem dL_alike_64 : decode cL_alike 64 = .ok (.if_icmp .ne 24, 3) := by decide +kernel
theorem dL_alike_67 : decode cL_alike 67 = .ok (.aload_n 0, 1) := by decide +kernel
theorem dL_alike_68 : decode cL_alike 68 = .ok (.iload_n 3, 1) := by decide +kernel
theorem dL_alike_69 : decode cL_alike 69 = .ok (.iconst 3, 1) := by decide +kernel
theorem dL_alike_70 : decode cL_alike 70 = .ok (.irem, 1) := by decide +kernel
theorem dL_alike_71 : decode cL_alike 71 = .ok (.invokestatic 112, 3) := by decide +kernel
theorem dL_alike_74 : decode cL_alike 74 = .ok (.aload_n 1, 1) := by decide +kernel
theorem dL_alike_75 : decode cL_alike 75 = .ok (.iload_n 3, 1) := by decide +kernel
theorem dL_alike_76 : decode cL_alike 76 = .ok (.iconst 3, 1) := by decide +kernel
theorem dL_alike_77 : decode cL_alike 77 = .ok (.irem, 1) := by decide +kernel
theorem dL_alike_78 : decode cL_alike 78 = .ok (.invokestatic 112, 3) := by decide +kernel
theorem dL_alike_81 : decode cL_alike 81 = .ok (.if_icmp .ne 7, 3) := by decide +kernel
theorem dL_alike_84 : decode cL_alike 84 = .ok (.iconst 1, 1) := by decide +kernel
theorem dL_alike_85 : decode cL_alike 85 = .ok (.goto 4, 3) := by decide +kernel
theorem dL_alike_88 : decode cL_alike 88 = .ok (.iconst 0, 1) := by decide +kernel
theorem dL_alike_89 : decode cL_alike 89 = .ok (.istore_n 2, 1) := by decide +kernel
theorem dL_alike_90 : decode cL_alike 90 = .ok (.iinc 3 1, 3) := by decide +kernel
theorem dL_alike_93 : decode cL_alike 93 = .ok (.goto (-66), 3) := by decide +kernel
theorem dL_alike_96 : decode cL_alike 96 = .ok (.iload_n 2, 1) := by decide +kernel
theorem dL_alike_97 : decode cL_alike 97 = .ok (.ireturn, 1) := by decide +kernel
theorem dL_refuses_0 : decode cL_refuses 0 = .ok (.aload_n 0, 1) := by decide +kernel
theorem dL_refuses_1 : decode cL_refuses 1 = .ok (.iconst 1, 1) := by decide +kernel
theorem dL_refuses_2 : decode cL_refuses 2 = .ok (.invokestatic 92, 3) := by decide +kernel
theorem dL_refuses_5 : decode cL_refuses 5 = .ok (.istore_n 1, 1) := by decide +kernel
theorem dL_refuses_6 : decode cL_refuses 6 = .ok (.aload_n 0, 1) := by decide +kernel
theorem dL_refuses_7 : decode cL_refuses 7 = .ok (.bipush 6, 2) := by decide +kernel
theorem dL_refuses_9 : decode cL_refuses 9 = .ok (.invokestatic 92, 3) := by decide +kernel
theorem dL_refuses_12 : decode cL_refuses 12 = .ok (.sipush (-1002), 3) := by decide +kernel
theorem dL_refuses_15 : decode cL_refuses 15 = .ok (.if_icmp .ne 221, 3) := by decide +kernel
theorem dL_refuses_18 : decode cL_refuses 18 = .ok (.aload_n 0, 1) := by decide +kernel
theorem dL_refuses_19 : decode cL_refuses 19 = .ok (.iload_n 1, 1) := by decide +kernel
theorem dL_refuses_20 : decode cL_refuses 20 = .ok (.bipush 6, 2) := by decide +kernel
theorem dL_refuses_22 : decode cL_refuses 22 = .ok (.invokestatic 98, 3) := by decide +kernel
theorem dL_refuses_25 : decode cL_refuses 25 = .ok (.sipush (-1001), 3) := by decide +kernel
theorem dL_refuses_28 : decode cL_refuses 28 = .ok (.if_icmp .ne 208, 3) := by decide +kernel
theorem dL_refuses_31 : decode cL_refuses 31 = .ok (.aload_n 0, 1) := by decide +kernel
theorem dL_refuses_32 : decode cL_refuses 32 = .ok (.iconst (-1), 1) := by decide +kernel
theorem dL_refuses_33 : decode cL_refuses 33 = .ok (.iconst 0, 1) := by decide +kernel
theorem dL_refuses_34 : decode cL_refuses 34 = .ok (.invokestatic 98, 3) := by decide +kernel
theorem dL_refuses_37 : decode cL_refuses 37 = .ok (.sipush (-1001), 3) := by decide +kernel
theorem dL_refuses_40 : decode cL_refuses 40 = .ok (.if_icmp .ne 196, 3) := by decide +kernel
theorem dL_refuses_43 : decode cL_refuses 43 = .ok (.aload_n 0, 1) := by decide +kernel
theorem dL_refuses_44 : decode cL_refuses 44 = .ok (.iconst 0, 1) := by decide +kernel
theorem dL_refuses_45 : decode cL_refuses 45 = .ok (.bipush 6, 2) := by decide +kernel
theorem dL_refuses_47 : decode cL_refuses 47 = .ok (.invokestatic 98, 3) := by decide +kernel
theorem dL_refuses_50 : decode cL_refuses 50 = .ok (.sipush (-1002), 3) := by decide +kernel
theorem dL_refuses_53 : decode cL_refuses 53 = .ok (.if_icmp .ne 183, 3) := by decide +kernel
theorem dL_refuses_56 : decode cL_refuses 56 = .ok (.aload_n 0, 1) := by decide +kernel
theorem dL_refuses_57 : decode cL_refuses 57 = .ok (.iconst 3, 1) := by decide +kernel
theorem dL_refuses_58 : decode cL_refuses 58 = .ok (.invokestatic 109, 3) := by decide +kernel
theorem dL_refuses_61 : decode cL_refuses 61 = .ok (.sipush (-1002), 3) := by decide +kernel
theorem dL_refuses_64 : decode cL_refuses 64 = .ok (.if_icmp .ne 172, 3) := by decide +kernel
theorem dL_refuses_67 : decode cL_refuses 67 = .ok (.aload_n 0, 1) := by decide +kernel
theorem dL_refuses_68 : decode cL_refuses 68 = .ok (.aload_n 0, 1) := by decide +kernel
theorem dL_refuses_69 : decode cL_refuses 69 = .ok (.invokevirtual 106, 3) := by decide +kernel
theorem dL_refuses_72 : decode cL_refuses 72 = .ok (.invokestatic 115, 3) := by decide +kernel
theorem dL_refuses_75 : decode cL_refuses 75 = .ok (.sipush (-1001), 3) := by decide +kernel
theorem dL_refuses_78 : decode cL_refuses 78 = .ok (.if_icmp .ne 158, 3) := by decide +kernel
theorem dL_refuses_81 : decode cL_refuses 81 = .ok (.aload_n 0, 1) := by decide +kernel
theorem dL_refuses_82 : decode cL_refuses 82 = .ok (.iconst (-1), 1) := by decide +kernel
theorem dL_refuses_83 : decode cL_refuses 83 = .ok (.invokestatic 115, 3) := by decide +kernel
theorem dL_refuses_86 : decode cL_refuses 86 = .ok (.sipush (-1001), 3) := by decide +kernel
theorem dL_refuses_89 : decode cL_refuses 89 = .ok (.if_icmp .ne 147, 3) := by decide +kernel
theorem dL_refuses_92 : decode cL_refuses 92 = .ok (.aload_n 0, 1) := by decide +kernel
theorem dL_refuses_93 : decode cL_refuses 93 = .ok (.iload_n 1, 1) := by decide +kernel
theorem dL_refuses_94 : decode cL_refuses 94 = .ok (.invokestatic 118, 3) := by decide +kernel
theorem dL_refuses_97 : decode cL_refuses 97 = .ok (.sipush (-1001), 3) := by decide +kernel
theorem dL_refuses_100 : decode cL_refuses 100 = .ok (.if_icmp .ne 136, 3) := by decide +kernel
theorem dL_refuses_103 : decode cL_refuses 103 = .ok (.aload_n 0, 1) := by decide +kernel
theorem dL_refuses_104 : decode cL_refuses 104 = .ok (.sipush 201, 3) := by decide +kernel
theorem dL_refuses_107 : decode cL_refuses 107 = .ok (.invokestatic 121, 3) := by decide +kernel
theorem dL_refuses_110 : decode cL_refuses 110 = .ok (.sipush (-1002), 3) := by decide +kernel
theorem dL_refuses_113 : decode cL_refuses 113 = .ok (.if_icmp .ne 123, 3) := by decide +kernel
theorem dL_refuses_116 : decode cL_refuses 116 = .ok (.aload_n 0, 1) := by decide +kernel
theorem dL_refuses_117 : decode cL_refuses 117 = .ok (.bipush 114, 2) := by decide +kernel
theorem dL_refuses_119 : decode cL_refuses 119 = .ok (.invokestatic 124, 3) := by decide +kernel
theorem dL_refuses_122 : decode cL_refuses 122 = .ok (.sipush (-1002), 3) := by decide +kernel
theorem dL_refuses_125 : decode cL_refuses 125 = .ok (.if_icmp .ne 111, 3) := by decide +kernel
theorem dL_refuses_128 : decode cL_refuses 128 = .ok (.aload_n 0, 1) := by decide +kernel
theorem dL_refuses_129 : decode cL_refuses 129 = .ok (.bipush 40, 2) := by decide +kernel
theorem dL_refuses_131 : decode cL_refuses 131 = .ok (.invokestatic 124, 3) := by decide +kernel
theorem dL_refuses_134 : decode cL_refuses 134 = .ok (.sipush (-1002), 3) := by decide +kernel
theorem dL_refuses_137 : decode cL_refuses 137 = .ok (.if_icmp .ne 99, 3) := by decide +kernel
theorem dL_refuses_140 : decode cL_refuses 140 = .ok (.aload_n 0, 1) := by decide +kernel
theorem dL_refuses_141 : decode cL_refuses 141 = .ok (.bipush 65, 2) := by decide +kernel
theorem dL_refuses_143 : decode cL_refuses 143 = .ok (.invokestatic 124, 3) := by decide +kernel
theorem dL_refuses_146 : decode cL_refuses 146 = .ok (.sipush (-1002), 3) := by decide +kernel
theorem dL_refuses_149 : decode cL_refuses 149 = .ok (.if_icmp .ne 87, 3) := by decide +kernel
theorem dL_refuses_152 : decode cL_refuses 152 = .ok (.aload_n 0, 1) := by decide +kernel
theorem dL_refuses_153 : decode cL_refuses 153 = .ok (.iconst 0, 1) := by decide +kernel
theorem dL_refuses_154 : decode cL_refuses 154 = .ok (.invokestatic 127, 3) := by decide +kernel
theorem dL_refuses_157 : decode cL_refuses 157 = .ok (.sipush (-1002), 3) := by decide +kernel
theorem dL_refuses_160 : decode cL_refuses 160 = .ok (.if_icmp .ne 76, 3) := by decide +kernel
theorem dL_refuses_163 : decode cL_refuses 163 = .ok (.aload_n 0, 1) := by decide +kernel
theorem dL_refuses_164 : decode cL_refuses 164 = .ok (.bipush 6, 2) := by decide +kernel
theorem dL_refuses_166 : decode cL_refuses 166 = .ok (.invokestatic 127, 3) := by decide +kernel
theorem dL_refuses_169 : decode cL_refuses 169 = .ok (.sipush (-1002), 3) := by decide +kernel
theorem dL_refuses_172 : decode cL_refuses 172 = .ok (.if_icmp .ne 64, 3) := by decide +kernel
theorem dL_refuses_175 : decode cL_refuses 175 = .ok (.aload_n 0, 1) := by decide +kernel
theorem dL_refuses_176 : decode cL_refuses 176 = .ok (.bipush 97, 2) := by decide +kernel
theorem dL_refuses_178 : decode cL_refuses 178 = .ok (.bipush 114, 2) := by decide +kernel
theorem dL_refuses_180 : decode cL_refuses 180 = .ok (.invokestatic 130, 3) := by decide +kernel
theorem dL_refuses_183 : decode cL_refuses 183 = .ok (.sipush (-1002), 3) := by decide +kernel
theorem dL_refuses_186 : decode cL_refuses 186 = .ok (.if_icmp .ne 50, 3) := by decide +kernel
theorem dL_refuses_189 : decode cL_refuses 189 = .ok (.aload_n 0, 1) := by decide +kernel
theorem dL_refuses_190 : decode cL_refuses 190 = .ok (.iconst 3, 1) := by decide +kernel
theorem dL_refuses_191 : decode cL_refuses 191 = .ok (.invokestatic 112, 3) := by decide +kernel
theorem dL_refuses_194 : decode cL_refuses 194 = .ok (.sipush (-1002), 3) := by decide +kernel
theorem dL_refuses_197 : decode cL_refuses 197 = .ok (.if_icmp .ne 39, 3) := by decide +kernel
theorem dL_refuses_200 : decode cL_refuses 200 = .ok (.aload_n 0, 1) := by decide +kernel
theorem dL_refuses_201 : decode cL_refuses 201 = .ok (.aload_n 0, 1) := by decide +kernel
theorem dL_refuses_202 : decode cL_refuses 202 = .ok (.iconst 0, 1) := by decide +kernel
theorem dL_refuses_203 : decode cL_refuses 203 = .ok (.invokestatic 112, 3) := by decide +kernel
theorem dL_refuses_206 : decode cL_refuses 206 = .ok (.iconst 0, 1) := by decide +kernel
theorem dL_refuses_207 : decode cL_refuses 207 = .ok (.invokestatic 133, 3) := by decide +kernel
theorem dL_refuses_210 : decode cL_refuses 210 = .ok (.sipush (-1001), 3) := by decide +kernel
theorem dL_refuses_213 : decode cL_refuses 213 = .ok (.if_icmp .ne 23, 3) := by decide +kernel
theorem dL_refuses_216 : decode cL_refuses 216 = .ok (.aload_n 0, 1) := by decide +kernel
theorem dL_refuses_217 : decode cL_refuses 217 = .ok (.iconst 0, 1) := by decide +kernel
theorem dL_refuses_218 : decode cL_refuses 218 = .ok (.aload_n 0, 1) := by decide +kernel
theorem dL_refuses_219 : decode cL_refuses 219 = .ok (.iconst 1, 1) := by decide +kernel
theorem dL_refuses_220 : decode cL_refuses 220 = .ok (.invokestatic 112, 3) := by decide +kernel
theorem dL_refuses_223 : decode cL_refuses 223 = .ok (.invokestatic 133, 3) := by decide +kernel
theorem dL_refuses_226 : decode cL_refuses 226 = .ok (.sipush (-1001), 3) := by decide +kernel
theorem dL_refuses_229 : decode cL_refuses 229 = .ok (.if_icmp .ne 7, 3) := by decide +kernel
theorem dL_refuses_232 : decode cL_refuses 232 = .ok (.iconst 1, 1) := by decide +kernel
theorem dL_refuses_233 : decode cL_refuses 233 = .ok (.goto 4, 3) := by decide +kernel
theorem dL_refuses_236 : decode cL_refuses 236 = .ok (.iconst 0, 1) := by decide +kernel
theorem dL_refuses_237 : decode cL_refuses 237 = .ok (.istore_n 2, 1) := by decide +kernel
theorem dL_refuses_238 : decode cL_refuses 238 = .ok (.iload_n 2, 1) := by decide +kernel
theorem dL_refuses_239 : decode cL_refuses 239 = .ok (.ifCond .eq 117, 3) := by decide +kernel
theorem dL_refuses_242 : decode cL_refuses 242 = .ok (.aload_n 0, 1) := by decide +kernel
theorem dL_refuses_243 : decode cL_refuses 243 = .ok (.iconst 0, 1) := by decide +kernel
theorem dL_refuses_244 : decode cL_refuses 244 = .ok (.invokestatic 109, 3) := by decide +kernel
theorem dL_refuses_247 : decode cL_refuses 247 = .ok (.ifCond .gt 13, 3) := by decide +kernel
theorem dL_refuses_250 : decode cL_refuses 250 = .ok (.aload_n 0, 1) := by decide +kernel
theorem dL_refuses_251 : decode cL_refuses 251 = .ok (.invokestatic 136, 3) := by decide +kernel
theorem dL_refuses_254 : decode cL_refuses 254 = .ok (.sipush (-1003), 3) := by decide +kernel
theorem dL_refuses_257 : decode cL_refuses 257 = .ok (.if_icmp .ne 99, 3) := by decide +kernel
theorem dL_refuses_260 : decode cL_refuses 260 = .ok (.aload_n 0, 1) := by decide +kernel
theorem dL_refuses_261 : decode cL_refuses 261 = .ok (.iconst 5, 1) := by decide +kernel
theorem dL_refuses_262 : decode cL_refuses 262 = .ok (.invokestatic 92, 3) := by decide +kernel
theorem dL_refuses_265 : decode cL_refuses 265 = .ok (.ifCond .gt 13, 3) := by decide +kernel
theorem dL_refuses_268 : decode cL_refuses 268 = .ok (.aload_n 0, 1) := by decide +kernel
theorem dL_refuses_269 : decode cL_refuses 269 = .ok (.invokestatic 140, 3) := by decide +kernel
theorem dL_refuses_272 : decode cL_refuses 272 = .ok (.sipush (-1003), 3) := by decide +kernel
theorem dL_refuses_275 : decode cL_refuses 275 = .ok (.if_icmp .ne 81, 3) := by decide +kernel
theorem dL_refuses_278 : decode cL_refuses 278 = .ok (.aload_n 0, 1) := by decide +kernel
theorem dL_refuses_279 : decode cL_refuses 279 = .ok (.iconst 5, 1) := by decide +kernel
theorem dL_refuses_280 : decode cL_refuses 280 = .ok (.lconst 0, 1) := by decide +kernel
theorem dL_refuses_281 : decode cL_refuses 281 = .ok (.invokestatic 143, 3) := by decide +kernel
theorem dL_refuses_284 : decode cL_refuses 284 = .ok (.sipush (-1002), 3) := by decide +kernel
theorem dL_refuses_287 : decode cL_refuses 287 = .ok (.if_icmp .ne 69, 3) := by decide +kernel
theorem dL_refuses_290 : decode cL_refuses 290 = .ok (.aload_n 0, 1) := by decide +kernel
theorem dL_refuses_291 : decode cL_refuses 291 = .ok (.iconst 1, 1) := by decide +kernel
theorem dL_refuses_292 : decode cL_refuses 292 = .ok (.ldc2_w 147, 3) := by decide +kernel
theorem dL_refuses_295 : decode cL_refuses 295 = .ok (.invokestatic 143, 3) := by decide +kernel
theorem dL_refuses_298 : decode cL_refuses 298 = .ok (.sipush (-1002), 3) := by decide +kernel
theorem dL_refuses_301 : decode cL_refuses 301 = .ok (.if_icmp .ne 55, 3) := by decide +kernel
theorem dL_refuses_304 : decode cL_refuses 304 = .ok (.aload_n 0, 1) := by decide +kernel
theorem dL_refuses_305 : decode cL_refuses 305 = .ok (.lconst 1, 1) := by decide +kernel
theorem dL_refuses_306 : decode cL_refuses 306 = .ok (.bipush 61, 2) := by decide +kernel
theorem dL_refuses_308 : decode cL_refuses 308 = .ok (.invokestatic 149, 3) := by decide +kernel
theorem dL_refuses_311 : decode cL_refuses 311 = .ok (.sipush (-1002), 3) := by decide +kernel
theorem dL_refuses_314 : decode cL_refuses 314 = .ok (.if_icmp .ne 42, 3) := by decide +kernel
theorem dL_refuses_317 : decode cL_refuses 317 = .ok (.aload_n 0, 1) := by decide +kernel
theorem dL_refuses_318 : decode cL_refuses 318 = .ok (.iconst 2, 1) := by decide +kernel
theorem dL_refuses_319 : decode cL_refuses 319 = .ok (.invokestatic 153, 3) := by decide +kernel
theorem dL_refuses_322 : decode cL_refuses 322 = .ok (.sipush (-1001), 3) := by decide +kernel
theorem dL_refuses_325 : decode cL_refuses 325 = .ok (.if_icmp .ne 31, 3) := by decide +kernel
theorem dL_refuses_328 : decode cL_refuses 328 = .ok (.aload_n 0, 1) := by decide +kernel
theorem dL_refuses_329 : decode cL_refuses 329 = .ok (.iconst (-1), 1) := by decide +kernel
theorem dL_refuses_330 : decode cL_refuses 330 = .ok (.invokestatic 156, 3) := by decide +kernel
theorem dL_refuses_333 : decode cL_refuses 333 = .ok (.sipush (-1001), 3) := by decide +kernel
theorem dL_refuses_336 : decode cL_refuses 336 = .ok (.if_icmp .ne 20, 3) := by decide +kernel
theorem dL_refuses_339 : decode cL_refuses 339 = .ok (.aload_n 0, 1) := by decide +kernel
theorem dL_refuses_340 : decode cL_refuses 340 = .ok (.sipush 256, 3) := by decide +kernel
theorem dL_refuses_343 : decode cL_refuses 343 = .ok (.invokestatic 159, 3) := by decide +kernel
theorem dL_refuses_346 : decode cL_refuses 346 = .ok (.sipush (-1002), 3) := by decide +kernel
theorem dL_refuses_349 : decode cL_refuses 349 = .ok (.if_icmp .ne 7, 3) := by decide +kernel
theorem dL_refuses_352 : decode cL_refuses 352 = .ok (.iconst 1, 1) := by decide +kernel
theorem dL_refuses_353 : decode cL_refuses 353 = .ok (.goto 4, 3) := by decide +kernel
theorem dL_refuses_356 : decode cL_refuses 356 = .ok (.iconst 0, 1) := by decide +kernel
theorem dL_refuses_357 : decode cL_refuses 357 = .ok (.ireturn, 1) := by decide +kernel
theorem dL_places_0 : decode cL_places 0 = .ok (.aload_n 0, 1) := by decide +kernel
theorem dL_places_1 : decode cL_places 1 = .ok (.iconst 1, 1) := by decide +kernel
theorem dL_places_2 : decode cL_places 2 = .ok (.invokestatic 92, 3) := by decide +kernel
theorem dL_places_5 : decode cL_places 5 = .ok (.istore_n 1, 1) := by decide +kernel
theorem dL_places_6 : decode cL_places 6 = .ok (.iconst 0, 1) := by decide +kernel
theorem dL_places_7 : decode cL_places 7 = .ok (.istore_n 2, 1) := by decide +kernel
theorem dL_places_8 : decode cL_places 8 = .ok (.iconst 0, 1) := by decide +kernel
theorem dL_places_9 : decode cL_places 9 = .ok (.istore_n 3, 1) := by decide +kernel
theorem dL_places_10 : decode cL_places 10 = .ok (.iconst 0, 1) := by decide +kernel
theorem dL_places_11 : decode cL_places 11 = .ok (.istore 4, 2) := by decide +kernel
theorem dL_places_13 : decode cL_places 13 = .ok (.aload_n 0, 1) := by decide +kernel
theorem dL_places_14 : decode cL_places 14 = .ok (.iconst 0, 1) := by decide +kernel
theorem dL_places_15 : decode cL_places 15 = .ok (.iconst 0, 1) := by decide +kernel
theorem dL_places_16 : decode cL_places 16 = .ok (.invokestatic 98, 3) := by decide +kernel
theorem dL_places_19 : decode cL_places 19 = .ok (.ifCond .ne 40, 3) := by decide +kernel
theorem dL_places_22 : decode cL_places 22 = .ok (.aload_n 0, 1) := by decide +kernel
theorem dL_places_23 : decode cL_places 23 = .ok (.iload_n 1, 1) := by decide +kernel
theorem dL_places_24 : decode cL_places 24 = .ok (.iconst 1, 1) := by decide +kernel
theorem dL_places_25 : decode cL_places 25 = .ok (.isub, 1) := by decide +kernel
theorem dL_places_26 : decode cL_places 26 = .ok (.iconst 0, 1) := by decide +kernel
theorem dL_places_27 : decode cL_places 27 = .ok (.invokestatic 98, 3) := by decide +kernel
theorem dL_places_30 : decode cL_places 30 = .ok (.ifCond .ne 29, 3) := by decide +kernel
theorem dL_places_33 : decode cL_places 33 = .ok (.aload_n 0, 1) := by decide +kernel
theorem dL_places_34 : decode cL_places 34 = .ok (.iload_n 1, 1) := by decide +kernel
theorem dL_places_35 : decode cL_places 35 = .ok (.iconst 1, 1) := by decide +kernel
theorem dL_places_36 : decode cL_places 36 = .ok (.isub, 1) := by decide +kernel
theorem dL_places_37 : decode cL_places 37 = .ok (.iconst 5, 1) := by decide +kernel
theorem dL_places_38 : decode cL_places 38 = .ok (.invokestatic 98, 3) := by decide +kernel
theorem dL_places_41 : decode cL_places 41 = .ok (.bipush (-9), 2) := by decide +kernel
theorem dL_places_43 : decode cL_places 43 = .ok (.if_icmp .ne 16, 3) := by decide +kernel
theorem dL_places_46 : decode cL_places 46 = .ok (.aload_n 0, 1) := by decide +kernel
theorem dL_places_47 : decode cL_places 47 = .ok (.iconst 0, 1) := by decide +kernel
theorem dL_places_48 : decode cL_places 48 = .ok (.iconst 1, 1) := by decide +kernel
theorem dL_places_49 : decode cL_places 49 = .ok (.invokestatic 98, 3) := by decide +kernel
theorem dL_places_52 : decode cL_places 52 = .ok (.ifCond .ne 7, 3) := by decide +kernel
theorem dL_places_55 : decode cL_places 55 = .ok (.iconst 1, 1) := by decide +kernel
theorem dL_places_56 : decode cL_places 56 = .ok (.goto 4, 3) := by decide +kernel
theorem dL_places_59 : decode cL_places 59 = .ok (.iconst 0, 1) := by decide +kernel
theorem dL_places_60 : decode cL_places 60 = .ok (.istore 5, 2) := by decide +kernel
theorem dL_places_62 : decode cL_places 62 = .ok (.iconst 0, 1) := by decide +kernel
theorem dL_places_63 : decode cL_places 63 = .ok (.istore 6, 2) := by decide +kernel
theorem dL_places_65 : decode cL_places 65 = .ok (.iload 6, 2) := by decide +kernel
theorem dL_places_67 : decode cL_places 67 = .ok (.iload_n 1, 1) := by decide +kernel
theorem dL_places_68 : decode cL_places 68 = .ok (.if_icmp .ge 406, 3) := by decide +kernel
theorem dL_places_71 : decode cL_places 71 = .ok (.iload 5, 2) := by decide +kernel
theorem dL_places_73 : decode cL_places 73 = .ok (.ifCond .eq 401, 3) := by decide +kernel
theorem dL_places_76 : decode cL_places 76 = .ok (.aload_n 0, 1) := by decide +kernel
theorem dL_places_77 : decode cL_places 77 = .ok (.iload 6, 2) := by decide +kernel
theorem dL_places_79 : decode cL_places 79 = .ok (.iconst 0, 1) := by decide +kernel
theorem dL_places_80 : decode cL_places 80 = .ok (.invokestatic 98, 3) := by decide +kernel
theorem dL_places_83 : decode cL_places 83 = .ok (.istore 7, 2) := by decide +kernel
theorem dL_places_85 : decode cL_places 85 = .ok (.aload_n 0, 1) := by decide +kernel
theorem dL_places_86 : decode cL_places 86 = .ok (.iload 6, 2) := by decide +kernel
theorem dL_places_88 : decode cL_places 88 = .ok (.iconst 1, 1) := by decide +kernel
theorem dL_places_89 : decode cL_places 89 = .ok (.invokestatic 98, 3) := by decide +kernel
theorem dL_places_92 : decode cL_places 92 = .ok (.istore 8, 2) := by decide +kernel
theorem dL_places_94 : decode cL_places 94 = .ok (.aload_n 0, 1) := by decide +kernel
theorem dL_places_95 : decode cL_places 95 = .ok (.iload 6, 2) := by decide +kernel
theorem dL_places_97 : decode cL_places 97 = .ok (.iconst 2, 1) := by decide +kernel
theorem dL_places_98 : decode cL_places 98 = .ok (.invokestatic 98, 3) := by decide +kernel
theorem dL_places_101 : decode cL_places 101 = .ok (.istore 9, 2) := by decide +kernel
theorem dL_places_103 : decode cL_places 103 = .ok (.aload_n 0, 1) := by decide +kernel
theorem dL_places_104 : decode cL_places 104 = .ok (.iload 6, 2) := by decide +kernel
theorem dL_places_106 : decode cL_places 106 = .ok (.iconst 3, 1) := by decide +kernel
theorem dL_places_107 : decode cL_places 107 = .ok (.invokestatic 98, 3) := by decide +kernel
theorem dL_places_110 : decode cL_places 110 = .ok (.istore 10, 2) := by decide +kernel
theorem dL_places_112 : decode cL_places 112 = .ok (.aload_n 0, 1) := by decide +kernel
theorem dL_places_113 : decode cL_places 113 = .ok (.iload 6, 2) := by decide +kernel
theorem dL_places_115 : decode cL_places 115 = .ok (.iconst 4, 1) := by decide +kernel
theorem dL_places_116 : decode cL_places 116 = .ok (.invokestatic 98, 3) := by decide +kernel
theorem dL_places_119 : decode cL_places 119 = .ok (.istore 11, 2) := by decide +kernel
theorem dL_places_121 : decode cL_places 121 = .ok (.aload_n 0, 1) := by decide +kernel
theorem dL_places_122 : decode cL_places 122 = .ok (.iload 6, 2) := by decide +kernel
theorem dL_places_124 : decode cL_places 124 = .ok (.iconst 5, 1) := by decide +kernel
theorem dL_places_125 : decode cL_places 125 = .ok (.invokestatic 98, 3) := by decide +kernel
theorem dL_places_128 : decode cL_places 128 = .ok (.istore 12, 2) := by decide +kernel
theorem dL_places_130 : decode cL_places 130 = .ok (.iload 7, 2) := by decide +kernel
theorem dL_places_132 : decode cL_places 132 = .ok (.iload_n 3, 1) := by decide +kernel
theorem dL_places_133 : decode cL_places 133 = .ok (.if_icmp .le 8, 3) := by decide +kernel
theorem dL_places_136 : decode cL_places 136 = .ok (.iload 7, 2) := by decide +kernel
theorem dL_places_138 : decode cL_places 138 = .ok (.goto 4, 3) := by decide +kernel
theorem dL_places_141 : decode cL_places 141 = .ok (.iload_n 3, 1) := by decide +kernel
theorem dL_places_142 : decode cL_places 142 = .ok (.istore_n 3, 1) := by decide +kernel
theorem dL_places_143 : decode cL_places 143 = .ok (.iload_n 2, 1) := by decide +kernel
theorem dL_places_144 : decode cL_places 144 = .ok (.iload 12, 2) := by decide +kernel
theorem dL_places_146 : decode cL_places 146 = .ok (.bipush (-9), 2) := by decide +kernel
theorem dL_places_148 : decode cL_places 148 = .ok (.if_icmp .ne 7, 3) := by decide +kernel
theorem dL_places_151 : decode cL_places 151 = .ok (.iconst 0, 1) := by decide +kernel
theorem dL_places_152 : decode cL_places 152 = .ok (.goto 4, 3) := by decide +kernel
theorem dL_places_155 : decode cL_places 155 = .ok (.iconst 1, 1) := by decide +kernel
theorem dL_places_156 : decode cL_places 156 = .ok (.iadd, 1) := by decide +kernel
theorem dL_places_157 : decode cL_places 157 = .ok (.istore_n 2, 1) := by decide +kernel
theorem dL_places_158 : decode cL_places 158 = .ok (.iload 4, 2) := by decide +kernel
theorem dL_places_160 : decode cL_places 160 = .ok (.iload 7, 2) := by decide +kernel
theorem dL_places_162 : decode cL_places 162 = .ok (.ifCond .le 12, 3) := by decide +kernel
theorem dL_places_165 : decode cL_places 165 = .ok (.iload 9, 2) := by decide +kernel
theorem dL_places_167 : decode cL_places 167 = .ok (.ifCond .ne 7, 3) := by decide +kernel
theorem dL_places_170 : decode cL_places 170 = .ok (.iconst 1, 1) := by decide +kernel
theorem dL_places_171 : decode cL_places 171 = .ok (.goto 4, 3) := by decide +kernel
theorem dL_places_174 : decode cL_places 174 = .ok (.iconst 0, 1) := by decide +kernel
theorem dL_places_175 : decode cL_places 175 = .ok (.iadd, 1) := by decide +kernel
theorem dL_places_176 : decode cL_places 176 = .ok (.istore 4, 2) := by decide +kernel
theorem dL_places_178 : decode cL_places 178 = .ok (.iload 7, 2) := by decide +kernel
theorem dL_places_180 : decode cL_places 180 = .ok (.ifCond .lt 95, 3) := by decide +kernel
theorem dL_places_183 : decode cL_places 183 = .ok (.iload 7, 2) := by decide +kernel
theorem dL_places_185 : decode cL_places 185 = .ok (.bipush 6, 2) := by decide +kernel
theorem dL_places_187 : decode cL_places 187 = .ok (.if_icmp .ge 88, 3) := by decide +kernel
theorem dL_places_190 : decode cL_places 190 = .ok (.iload 7, 2) := by decide +kernel
theorem dL_places_192 : decode cL_places 192 = .ok (.ifCond .ne 7, 3) := by decide +kernel
theorem dL_places_195 : decode cL_places 195 = .ok (.iconst 1, 1) := by decide +kernel
theorem dL_places_196 : decode cL_places 196 = .ok (.goto 4, 3) := by decide +kernel
theorem dL_places_199 : decode cL_places 199 = .ok (.iconst 0, 1) := by decide +kernel
theorem dL_places_200 : decode cL_places 200 = .ok (.iload 10, 2) := by decide +kernel
theorem dL_places_202 : decode cL_places 202 = .ok (.ifCond .ne 7, 3) := by decide +kernel
theorem dL_places_205 : decode cL_places 205 = .ok (.iconst 1, 1) := by decide +kernel
theorem dL_places_206 : decode cL_places 206 = .ok (.goto 4, 3) := by decide +kernel
theorem dL_places_209 : decode cL_places 209 = .ok (.iconst 0, 1) := by decide +kernel
theorem dL_places_210 : decode cL_places 210 = .ok (.if_icmp .ne 65, 3) := by decide +kernel
theorem dL_places_213 : decode cL_places 213 = .ok (.iload 10, 2) := by decide +kernel
theorem dL_places_215 : decode cL_places 215 = .ok (.bipush 6, 2) := by decide +kernel
theorem dL_places_217 : decode cL_places 217 = .ok (.if_icmp .ge 58, 3) := by decide +kernel
theorem dL_places_220 : decode cL_places 220 = .ok (.iload 11, 2) := by decide +kernel
theorem dL_places_222 : decode cL_places 222 = .ok (.ifCond .eq 15, 3) := by decide +kernel
theorem dL_places_225 : decode cL_places 225 = .ok (.iload 11, 2) := by decide +kernel
theorem dL_places_227 : decode cL_places 227 = .ok (.iconst 1, 1) := by decide +kernel
theorem dL_places_228 : decode cL_places 228 = .ok (.if_icmp .ne 47, 3) := by decide +kernel
theorem dL_places_231 : decode cL_places 231 = .ok (.iload 10, 2) := by decide +kernel
theorem dL_places_233 : decode cL_places 233 = .ok (.iconst 1, 1) := by decide +kernel
theorem dL_places_234 : decode cL_places 234 = .ok (.if_icmp .ne 41, 3) := by decide +kernel
theorem dL_places_237 : decode cL_places 237 = .ok (.iload 8, 2) := by decide +kernel
theorem dL_places_239 : decode cL_places 239 = .ok (.iload 9, 2) := by decide +kernel
theorem dL_places_241 : decode cL_places 241 = .ok (.if_icmp .gt 34, 3) := by decide +kernel
theorem dL_places_244 : decode cL_places 244 = .ok (.iload 8, 2) := by decide +kernel
theorem dL_places_246 : decode cL_places 246 = .ok (.iload 9, 2) := by decide +kernel
theorem dL_places_248 : decode cL_places 248 = .ok (.if_icmp .ne 7, 3) := by decide +kernel
theorem dL_places_251 : decode cL_places 251 = .ok (.iconst 1, 1) := by decide +kernel
theorem dL_places_252 : decode cL_places 252 = .ok (.goto 4, 3) := by decide +kernel
theorem dL_places_255 : decode cL_places 255 = .ok (.iconst 0, 1) := by decide +kernel
theorem dL_places_256 : decode cL_places 256 = .ok (.iload 12, 2) := by decide +kernel
theorem dL_places_258 : decode cL_places 258 = .ok (.bipush (-9), 2) := by decide +kernel
theorem dL_places_260 : decode cL_places 260 = .ok (.if_icmp .ne 7, 3) := by decide +kernel
theorem dL_places_263 : decode cL_places 263 = .ok (.iconst 1, 1) := by decide +kernel
theorem dL_places_264 : decode cL_places 264 = .ok (.goto 4, 3) := by decide +kernel
theorem dL_places_267 : decode cL_places 267 = .ok (.iconst 0, 1) := by decide +kernel
theorem dL_places_268 : decode cL_places 268 = .ok (.if_icmp .ne 7, 3) := by decide +kernel
theorem dL_places_271 : decode cL_places 271 = .ok (.iconst 1, 1) := by decide +kernel
theorem dL_places_272 : decode cL_places 272 = .ok (.goto 4, 3) := by decide +kernel
theorem dL_places_275 : decode cL_places 275 = .ok (.iconst 0, 1) := by decide +kernel
theorem dL_places_276 : decode cL_places 276 = .ok (.istore 5, 2) := by decide +kernel
theorem dL_places_278 : decode cL_places 278 = .ok (.iload 6, 2) := by decide +kernel
theorem dL_places_280 : decode cL_places 280 = .ok (.iconst 1, 1) := by decide +kernel
theorem dL_places_281 : decode cL_places 281 = .ok (.iadd, 1) := by decide +kernel
theorem dL_places_282 : decode cL_places 282 = .ok (.iload_n 1, 1) := by decide +kernel
theorem dL_places_283 : decode cL_places 283 = .ok (.if_icmp .ge 185, 3) := by decide +kernel
theorem dL_places_286 : decode cL_places 286 = .ok (.iload 5, 2) := by decide +kernel
theorem dL_places_288 : decode cL_places 288 = .ok (.ifCond .eq 180, 3) := by decide +kernel
theorem dL_places_291 : decode cL_places 291 = .ok (.aload_n 0, 1) := by decide +kernel
theorem dL_places_292 : decode cL_places 292 = .ok (.iload 6, 2) := by decide +kernel
theorem dL_places_294 : decode cL_places 294 = .ok (.iconst 1, 1) := by decide +kernel
theorem dL_places_295 : decode cL_places 295 = .ok (.iadd, 1) := by decide +kernel
theorem dL_places_296 : decode cL_places 296 = .ok (.iconst 0, 1) := by decide +kernel
theorem dL_places_297 : decode cL_places 297 = .ok (.invokestatic 98, 3) := by decide +kernel
theorem dL_places_300 : decode cL_places 300 = .ok (.istore 13, 2) := by decide +kernel
theorem dL_places_302 : decode cL_places 302 = .ok (.iload 12, 2) := by decide +kernel
theorem dL_places_304 : decode cL_places 304 = .ok (.iconst 5, 1) := by decide +kernel
theorem dL_places_305 : decode cL_places 305 = .ok (.if_icmp .le 34, 3) := by decide +kernel
theorem dL_places_308 : decode cL_places 308 = .ok (.iload 13, 2) := by decide +kernel
theorem dL_places_310 : decode cL_places 310 = .ok (.iload 7, 2) := by decide +kernel
theorem dL_places_312 : decode cL_places 312 = .ok (.if_icmp .ne 23, 3) := by decide +kernel
theorem dL_places_315 : decode cL_places 315 = .ok (.aload_n 0, 1) := by decide +kernel
theorem dL_places_316 : decode cL_places 316 = .ok (.iload 6, 2) := by decide +kernel
theorem dL_places_318 : decode cL_places 318 = .ok (.iconst 1, 1) := by decide +kernel
theorem dL_places_319 : decode cL_places 319 = .ok (.iadd, 1) := by decide +kernel
theorem dL_places_320 : decode cL_places 320 = .ok (.iconst 1, 1) := by decide +kernel
theorem dL_places_321 : decode cL_places 321 = .ok (.invokestatic 98, 3) := by decide +kernel
theorem dL_places_324 : decode cL_places 324 = .ok (.iload 8, 2) := by decide +kernel
theorem dL_places_326 : decode cL_places 326 = .ok (.iconst 1, 1) := by decide +kernel
theorem dL_places_327 : decode cL_places 327 = .ok (.iadd, 1) := by decide +kernel
theorem dL_places_328 : decode cL_places 328 = .ok (.if_icmp .ne 7, 3) := by decide +kernel
theorem dL_places_331 : decode cL_places 331 = .ok (.iconst 1, 1) := by decide +kernel
theorem dL_places_332 : decode cL_places 332 = .ok (.goto 134, 3) := by decide +kernel
theorem dL_places_335 : decode cL_places 335 = .ok (.iconst 0, 1) := by decide +kernel
theorem dL_places_336 : decode cL_places 336 = .ok (.goto 130, 3) := by decide +kernel
theorem dL_places_339 : decode cL_places 339 = .ok (.iload 12, 2) := by decide +kernel
theorem dL_places_341 : decode cL_places 341 = .ok (.bipush (-9), 2) := by decide +kernel
theorem dL_places_343 : decode cL_places 343 = .ok (.if_icmp .eq 58, 3) := by decide +kernel
theorem dL_places_346 : decode cL_places 346 = .ok (.iload 13, 2) := by decide +kernel
theorem dL_places_348 : decode cL_places 348 = .ok (.iload 7, 2) := by decide +kernel
theorem dL_places_350 : decode cL_places 350 = .ok (.iconst 1, 1) := by decide +kernel
theorem dL_places_351 : decode cL_places 351 = .ok (.iadd, 1) := by decide +kernel
theorem dL_places_352 : decode cL_places 352 = .ok (.if_icmp .ne 45, 3) := by decide +kernel
theorem dL_places_355 : decode cL_places 355 = .ok (.aload_n 0, 1) := by decide +kernel
theorem dL_places_356 : decode cL_places 356 = .ok (.iload 6, 2) := by decide +kernel
theorem dL_places_358 : decode cL_places 358 = .ok (.iconst 1, 1) := by decide +kernel
theorem dL_places_359 : decode cL_places 359 = .ok (.iadd, 1) := by decide +kernel
theorem dL_places_360 : decode cL_places 360 = .ok (.iconst 3, 1) := by decide +kernel
theorem dL_places_361 : decode cL_places 361 = .ok (.invokestatic 98, 3) := by decide +kernel
theorem dL_places_364 : decode cL_places 364 = .ok (.iload 12, 2) := by decide +kernel
theorem dL_places_366 : decode cL_places 366 = .ok (.if_icmp .ne 31, 3) := by decide +kernel
theorem dL_places_369 : decode cL_places 369 = .ok (.aload_n 0, 1) := by decide +kernel
theorem dL_places_370 : decode cL_places 370 = .ok (.iload 6, 2) := by decide +kernel
theorem dL_places_372 : decode cL_places 372 = .ok (.iconst 1, 1) := by decide +kernel
theorem dL_places_373 : decode cL_places 373 = .ok (.iadd, 1) := by decide +kernel
theorem dL_places_374 : decode cL_places 374 = .ok (.iconst 4, 1) := by decide +kernel
theorem dL_places_375 : decode cL_places 375 = .ok (.invokestatic 98, 3) := by decide +kernel
theorem dL_places_378 : decode cL_places 378 = .ok (.ifCond .ne 19, 3) := by decide +kernel
theorem dL_places_381 : decode cL_places 381 = .ok (.aload_n 0, 1) := by decide +kernel
theorem dL_places_382 : decode cL_places 382 = .ok (.iload 6, 2) := by decide +kernel
theorem dL_places_384 : decode cL_places 384 = .ok (.iconst 1, 1) := by decide +kernel
theorem dL_places_385 : decode cL_places 385 = .ok (.iadd, 1) := by decide +kernel
theorem dL_places_386 : decode cL_places 386 = .ok (.iconst 1, 1) := by decide +kernel
theorem dL_places_387 : decode cL_places 387 = .ok (.invokestatic 98, 3) := by decide +kernel
theorem dL_places_390 : decode cL_places 390 = .ok (.ifCond .ne 7, 3) := by decide +kernel
theorem dL_places_393 : decode cL_places 393 = .ok (.iconst 1, 1) := by decide +kernel
theorem dL_places_394 : decode cL_places 394 = .ok (.goto 72, 3) := by decide +kernel
theorem dL_places_397 : decode cL_places 397 = .ok (.iconst 0, 1) := by decide +kernel
theorem dL_places_398 : decode cL_places 398 = .ok (.goto 68, 3) := by decide +kernel
theorem dL_places_401 : decode cL_places 401 = .ok (.iload 10, 2) := by decide +kernel
theorem dL_places_403 : decode cL_places 403 = .ok (.iconst 1, 1) := by decide +kernel
theorem dL_places_404 : decode cL_places 404 = .ok (.if_icmp .ne 48, 3) := by decide +kernel
theorem dL_places_407 : decode cL_places 407 = .ok (.iload 11, 2) := by decide +kernel
theorem dL_places_409 : decode cL_places 409 = .ok (.ifCond .ne 43, 3) := by decide +kernel
theorem dL_places_412 : decode cL_places 412 = .ok (.iload 13, 2) := by decide +kernel
theorem dL_places_414 : decode cL_places 414 = .ok (.iload 7, 2) := by decide +kernel
theorem dL_places_416 : decode cL_places 416 = .ok (.if_icmp .ne 32, 3) := by decide +kernel
theorem dL_places_419 : decode cL_places 419 = .ok (.aload_n 0, 1) := by decide +kernel
theorem dL_places_420 : decode cL_places 420 = .ok (.iload 6, 2) := by decide +kernel
theorem dL_places_422 : decode cL_places 422 = .ok (.iconst 1, 1) := by decide +kernel
theorem dL_places_423 : decode cL_places 423 = .ok (.iadd, 1) := by decide +kernel
theorem dL_places_424 : decode cL_places 424 = .ok (.iconst 4, 1) := by decide +kernel
theorem dL_places_425 : decode cL_places 425 = .ok (.invokestatic 98, 3) := by decide +kernel
theorem dL_places_428 : decode cL_places 428 = .ok (.iconst 1, 1) := by decide +kernel
theorem dL_places_429 : decode cL_places 429 = .ok (.if_icmp .ne 19, 3) := by decide +kernel
theorem dL_places_432 : decode cL_places 432 = .ok (.aload_n 0, 1) := by decide +kernel
theorem dL_places_433 : decode cL_places 433 = .ok (.iload 6, 2) := by decide +kernel
theorem dL_places_435 : decode cL_places 435 = .ok (.iconst 1, 1) := by decide +kernel
theorem dL_places_436 : decode cL_places 436 = .ok (.iadd, 1) := by decide +kernel
theorem dL_places_437 : decode cL_places 437 = .ok (.iconst 1, 1) := by decide +kernel
theorem dL_places_438 : decode cL_places 438 = .ok (.invokestatic 98, 3) := by decide +kernel
theorem dL_places_441 : decode cL_places 441 = .ok (.ifCond .ne 7, 3) := by decide +kernel
theorem dL_places_444 : decode cL_places 444 = .ok (.iconst 1, 1) := by decide +kernel
theorem dL_places_445 : decode cL_places 445 = .ok (.goto 21, 3) := by decide +kernel
theorem dL_places_448 : decode cL_places 448 = .ok (.iconst 0, 1) := by decide +kernel
theorem dL_places_449 : decode cL_places 449 = .ok (.goto 17, 3) := by decide +kernel
theorem dL_places_452 : decode cL_places 452 = .ok (.iload 13, 2) := by decide +kernel
theorem dL_places_454 : decode cL_places 454 = .ok (.iload 7, 2) := by decide +kernel
theorem dL_places_456 : decode cL_places 456 = .ok (.iconst 1, 1) := by decide +kernel
theorem dL_places_457 : decode cL_places 457 = .ok (.isub, 1) := by decide +kernel
theorem dL_places_458 : decode cL_places 458 = .ok (.if_icmp .ne 7, 3) := by decide +kernel
theorem dL_places_461 : decode cL_places 461 = .ok (.iconst 1, 1) := by decide +kernel
theorem dL_places_462 : decode cL_places 462 = .ok (.goto 4, 3) := by decide +kernel
theorem dL_places_465 : decode cL_places 465 = .ok (.iconst 0, 1) := by decide +kernel
theorem dL_places_466 : decode cL_places 466 = .ok (.istore 5, 2) := by decide +kernel
theorem dL_places_468 : decode cL_places 468 = .ok (.iinc 6 1, 3) := by decide +kernel
theorem dL_places_471 : decode cL_places 471 = .ok (.goto (-406), 3) := by decide +kernel
theorem dL_places_474 : decode cL_places 474 = .ok (.iload 5, 2) := by decide +kernel
theorem dL_places_476 : decode cL_places 476 = .ok (.ifCond .eq 35, 3) := by decide +kernel
theorem dL_places_479 : decode cL_places 479 = .ok (.iload_n 2, 1) := by decide +kernel
theorem dL_places_480 : decode cL_places 480 = .ok (.aload_n 0, 1) := by decide +kernel
theorem dL_places_481 : decode cL_places 481 = .ok (.iconst 0, 1) := by decide +kernel
theorem dL_places_482 : decode cL_places 482 = .ok (.invokestatic 92, 3) := by decide +kernel
theorem dL_places_485 : decode cL_places 485 = .ok (.if_icmp .ne 26, 3) := by decide +kernel
theorem dL_places_488 : decode cL_places 488 = .ok (.iload_n 3, 1) := by decide +kernel
theorem dL_places_489 : decode cL_places 489 = .ok (.aload_n 0, 1) := by decide +kernel
theorem dL_places_490 : decode cL_places 490 = .ok (.iconst 3, 1) := by decide +kernel
theorem dL_places_491 : decode cL_places 491 = .ok (.invokestatic 92, 3) := by decide +kernel
theorem dL_places_494 : decode cL_places 494 = .ok (.if_icmp .ne 17, 3) := by decide +kernel
theorem dL_places_497 : decode cL_places 497 = .ok (.iload 4, 2) := by decide +kernel
theorem dL_places_499 : decode cL_places 499 = .ok (.aload_n 0, 1) := by decide +kernel
theorem dL_places_500 : decode cL_places 500 = .ok (.iconst 4, 1) := by decide +kernel
theorem dL_places_501 : decode cL_places 501 = .ok (.invokestatic 92, 3) := by decide +kernel
theorem dL_places_504 : decode cL_places 504 = .ok (.if_icmp .ne 7, 3) := by decide +kernel
theorem dL_places_507 : decode cL_places 507 = .ok (.iconst 1, 1) := by decide +kernel
theorem dL_places_508 : decode cL_places 508 = .ok (.goto 4, 3) := by decide +kernel
theorem dL_places_511 : decode cL_places 511 = .ok (.iconst 0, 1) := by decide +kernel
theorem dL_places_512 : decode cL_places 512 = .ok (.ireturn, 1) := by decide +kernel
theorem dL_drawings_0 : decode cL_drawings 0 = .ok (.aload_n 0, 1) := by decide +kernel
theorem dL_drawings_1 : decode cL_drawings 1 = .ok (.iconst 0, 1) := by decide +kernel
theorem dL_drawings_2 : decode cL_drawings 2 = .ok (.invokestatic 112, 3) := by decide +kernel
theorem dL_drawings_5 : decode cL_drawings 5 = .ok (.istore_n 1, 1) := by decide +kernel
theorem dL_drawings_6 : decode cL_drawings 6 = .ok (.aload_n 0, 1) := by decide +kernel
theorem dL_drawings_7 : decode cL_drawings 7 = .ok (.iconst 1, 1) := by decide +kernel
theorem dL_drawings_8 : decode cL_drawings 8 = .ok (.invokestatic 112, 3) := by decide +kernel
theorem dL_drawings_11 : decode cL_drawings 11 = .ok (.istore_n 2, 1) := by decide +kernel
theorem dL_drawings_12 : decode cL_drawings 12 = .ok (.bipush 64, 2) := by decide +kernel
theorem dL_drawings_14 : decode cL_drawings 14 = .ok (.newarray .int, 2) := by decide +kernel
theorem dL_drawings_16 : decode cL_drawings 16 = .ok (.astore_n 3, 1) := by decide +kernel
theorem dL_drawings_17 : decode cL_drawings 17 = .ok (.bipush 64, 2) := by decide +kernel
theorem dL_drawings_19 : decode cL_drawings 19 = .ok (.newarray .int, 2) := by decide +kernel
theorem dL_drawings_21 : decode cL_drawings 21 = .ok (.astore 4, 2) := by decide +kernel
theorem dL_drawings_23 : decode cL_drawings 23 = .ok (.iconst 0, 1) := by decide +kernel
theorem dL_drawings_24 : decode cL_drawings 24 = .ok (.istore 5, 2) := by decide +kernel
theorem dL_drawings_26 : decode cL_drawings 26 = .ok (.iload 5, 2) := by decide +kernel
theorem dL_drawings_28 : decode cL_drawings 28 = .ok (.iload_n 2, 1) := by decide +kernel
theorem dL_drawings_29 : decode cL_drawings 29 = .ok (.if_icmp .ge 119, 3) := by decide +kernel
theorem dL_drawings_32 : decode cL_drawings 32 = .ok (.iconst 0, 1) := by decide +kernel
theorem dL_drawings_33 : decode cL_drawings 33 = .ok (.istore 6, 2) := by decide +kernel
theorem dL_drawings_35 : decode cL_drawings 35 = .ok (.iload 6, 2) := by decide +kernel
theorem dL_drawings_37 : decode cL_drawings 37 = .ok (.iload_n 1, 1) := by decide +kernel
theorem dL_drawings_38 : decode cL_drawings 38 = .ok (.if_icmp .ge 104, 3) := by decide +kernel
theorem dL_drawings_41 : decode cL_drawings 41 = .ok (.aload_n 0, 1) := by decide +kernel
theorem dL_drawings_42 : decode cL_drawings 42 = .ok (.iload 6, 2) := by decide +kernel
theorem dL_drawings_44 : decode cL_drawings 44 = .ok (.iload 5, 2) := by decide +kernel
theorem dL_drawings_46 : decode cL_drawings 46 = .ok (.invokestatic 133, 3) := by decide +kernel
theorem dL_drawings_49 : decode cL_drawings 49 = .ok (.istore 7, 2) := by decide +kernel
theorem dL_drawings_51 : decode cL_drawings 51 = .ok (.aload_n 3, 1) := by decide +kernel
theorem dL_drawings_52 : decode cL_drawings 52 = .ok (.iload 7, 2) := by decide +kernel
theorem dL_drawings_54 : decode cL_drawings 54 = .ok (.invokestatic 162, 3) := by decide +kernel
theorem dL_drawings_57 : decode cL_drawings 57 = .ok (.ifCond .eq 11, 3) := by decide +kernel
theorem dL_drawings_60 : decode cL_drawings 60 = .ok (.iload 7, 2) := by decide +kernel
theorem dL_drawings_62 : decode cL_drawings 62 = .ok (.bipush 97, 2) := by decide +kernel
theorem dL_drawings_64 : decode cL_drawings 64 = .ok (.isub, 1) := by decide +kernel
theorem dL_drawings_65 : decode cL_drawings 65 = .ok (.goto 66, 3) := by decide +kernel
theorem dL_drawings_68 : decode cL_drawings 68 = .ok (.iload 7, 2) := by decide +kernel
theorem dL_drawings_70 : decode cL_drawings 70 = .ok (.bipush 48, 2) := by decide +kernel
theorem dL_drawings_72 : decode cL_drawings 72 = .ok (.if_icmp .lt 21, 3) := by decide +kernel
theorem dL_drawings_75 : decode cL_drawings 75 = .ok (.iload 7, 2) := by decide +kernel
theorem dL_drawings_77 : decode cL_drawings 77 = .ok (.bipush 57, 2) := by decide +kernel
theorem dL_drawings_79 : decode cL_drawings 79 = .ok (.if_icmp .gt 14, 3) := by decide +kernel
theorem dL_drawings_82 : decode cL_drawings 82 = .ok (.iload 7, 2) := by decide +kernel
theorem dL_drawings_84 : decode cL_drawings 84 = .ok (.bipush 48, 2) := by decide +kernel
theorem dL_drawings_86 : decode cL_drawings 86 = .ok (.isub, 1) := by decide +kernel
theorem dL_drawings_87 : decode cL_drawings 87 = .ok (.bipush 30, 2) := by decide +kernel
theorem dL_drawings_89 : decode cL_drawings 89 = .ok (.iadd, 1) := by decide +kernel
theorem dL_drawings_90 : decode cL_drawings 90 = .ok (.goto 41, 3) := by decide +kernel
theorem dL_drawings_93 : decode cL_drawings 93 = .ok (.iload 7, 2) := by decide +kernel
theorem dL_drawings_95 : decode cL_drawings 95 = .ok (.bipush 63, 2) := by decide +kernel
theorem dL_drawings_97 : decode cL_drawings 97 = .ok (.if_icmp .ne 8, 3) := by decide +kernel
theorem dL_drawings_100 : decode cL_drawings 100 = .ok (.bipush 41, 2) := by decide +kernel
theorem dL_drawings_102 : decode cL_drawings 102 = .ok (.goto 29, 3) := by decide +kernel
theorem dL_drawings_105 : decode cL_drawings 105 = .ok (.iload 7, 2) := by decide +kernel
theorem dL_drawings_107 : decode cL_drawings 107 = .ok (.bipush 86, 2) := by decide +kernel
theorem dL_drawings_109 : decode cL_drawings 109 = .ok (.if_icmp .ne 8, 3) := by decide +kernel
theorem dL_drawings_112 : decode cL_drawings 112 = .ok (.bipush 42, 2) := by decide +kernel
theorem dL_drawings_114 : decode cL_drawings 114 = .ok (.goto 17, 3) := by decide +kernel
theorem dL_drawings_117 : decode cL_drawings 117 = .ok (.iload 7, 2) := by decide +kernel
theorem dL_drawings_119 : decode cL_drawings 119 = .ok (.bipush 61, 2) := by decide +kernel
theorem dL_drawings_121 : decode cL_drawings 121 = .ok (.if_icmp .ne 8, 3) := by decide +kernel
theorem dL_drawings_124 : decode cL_drawings 124 = .ok (.bipush 43, 2) := by decide +kernel
theorem dL_drawings_126 : decode cL_drawings 126 = .ok (.goto 5, 3) := by decide +kernel
theorem dL_drawings_129 : decode cL_drawings 129 = .ok (.bipush 44, 2) := by decide +kernel
theorem dL_drawings_131 : decode cL_drawings 131 = .ok (.dup2, 1) := by decide +kernel
theorem dL_drawings_132 : decode cL_drawings 132 = .ok (.iaload, 1) := by decide +kernel
theorem dL_drawings_133 : decode cL_drawings 133 = .ok (.iconst 1, 1) := by decide +kernel
theorem dL_drawings_134 : decode cL_drawings 134 = .ok (.iadd, 1) := by decide +kernel
theorem dL_drawings_135 : decode cL_drawings 135 = .ok (.iastore, 1) := by decide +kernel
theorem dL_drawings_136 : decode cL_drawings 136 = .ok (.iinc 6 1, 3) := by decide +kernel
theorem dL_drawings_139 : decode cL_drawings 139 = .ok (.goto (-104), 3) := by decide +kernel
theorem dL_drawings_142 : decode cL_drawings 142 = .ok (.iinc 5 1, 3) := by decide +kernel
theorem dL_drawings_145 : decode cL_drawings 145 = .ok (.goto (-119), 3) := by decide +kernel
theorem dL_drawings_148 : decode cL_drawings 148 = .ok (.iconst 0, 1) := by decide +kernel
theorem dL_drawings_149 : decode cL_drawings 149 = .ok (.istore 5, 2) := by decide +kernel
theorem dL_drawings_151 : decode cL_drawings 151 = .ok (.iload 5, 2) := by decide +kernel
theorem dL_drawings_153 : decode cL_drawings 153 = .ok (.aload_n 0, 1) := by decide +kernel
theorem dL_drawings_154 : decode cL_drawings 154 = .ok (.iconst 1, 1) := by decide +kernel
theorem dL_drawings_155 : decode cL_drawings 155 = .ok (.invokestatic 92, 3) := by decide +kernel
theorem dL_drawings_158 : decode cL_drawings 158 = .ok (.if_icmp .ge 80, 3) := by decide +kernel
theorem dL_drawings_161 : decode cL_drawings 161 = .ok (.aload_n 0, 1) := by decide +kernel
theorem dL_drawings_162 : decode cL_drawings 162 = .ok (.iload 5, 2) := by decide +kernel
theorem dL_drawings_164 : decode cL_drawings 164 = .ok (.iconst 5, 1) := by decide +kernel
theorem dL_drawings_165 : decode cL_drawings 165 = .ok (.invokestatic 98, 3) := by decide +kernel
theorem dL_drawings_168 : decode cL_drawings 168 = .ok (.istore 6, 2) := by decide +kernel
theorem dL_drawings_170 : decode cL_drawings 170 = .ok (.aload 4, 2) := by decide +kernel
theorem dL_drawings_172 : decode cL_drawings 172 = .ok (.iload 6, 2) := by decide +kernel
theorem dL_drawings_174 : decode cL_drawings 174 = .ok (.invokestatic 162, 3) := by decide +kernel
theorem dL_drawings_177 : decode cL_drawings 177 = .ok (.ifCond .eq 11, 3) := by decide +kernel
theorem dL_drawings_180 : decode cL_drawings 180 = .ok (.iload 6, 2) := by decide +kernel
theorem dL_drawings_182 : decode cL_drawings 182 = .ok (.bipush 97, 2) := by decide +kernel
theorem dL_drawings_184 : decode cL_drawings 184 = .ok (.isub, 1) := by decide +kernel
theorem dL_drawings_185 : decode cL_drawings 185 = .ok (.goto 42, 3) := by decide +kernel
theorem dL_drawings_188 : decode cL_drawings 188 = .ok (.iload 6, 2) := by decide +kernel
theorem dL_drawings_190 : decode cL_drawings 190 = .ok (.bipush 48, 2) := by decide +kernel
theorem dL_drawings_192 : decode cL_drawings 192 = .ok (.if_icmp .lt 21, 3) := by decide +kernel
theorem dL_drawings_195 : decode cL_drawings 195 = .ok (.iload 6, 2) := by decide +kernel
theorem dL_drawings_197 : decode cL_drawings 197 = .ok (.bipush 57, 2) := by decide +kernel
theorem dL_drawings_199 : decode cL_drawings 199 = .ok (.if_icmp .gt 14, 3) := by decide +kernel
theorem dL_drawings_202 : decode cL_drawings 202 = .ok (.iload 6, 2) := by decide +kernel
theorem dL_drawings_204 : decode cL_drawings 204 = .ok (.bipush 48, 2) := by decide +kernel
theorem dL_drawings_206 : decode cL_drawings 206 = .ok (.isub, 1) := by decide +kernel
theorem dL_drawings_207 : decode cL_drawings 207 = .ok (.bipush 30, 2) := by decide +kernel
theorem dL_drawings_209 : decode cL_drawings 209 = .ok (.iadd, 1) := by decide +kernel
theorem dL_drawings_210 : decode cL_drawings 210 = .ok (.goto 17, 3) := by decide +kernel
theorem dL_drawings_213 : decode cL_drawings 213 = .ok (.iload 6, 2) := by decide +kernel
theorem dL_drawings_215 : decode cL_drawings 215 = .ok (.bipush 61, 2) := by decide +kernel
theorem dL_drawings_217 : decode cL_drawings 217 = .ok (.if_icmp .ne 8, 3) := by decide +kernel
theorem dL_drawings_220 : decode cL_drawings 220 = .ok (.bipush 43, 2) := by decide +kernel
theorem dL_drawings_222 : decode cL_drawings 222 = .ok (.goto 5, 3) := by decide +kernel
theorem dL_drawings_225 : decode cL_drawings 225 = .ok (.bipush 44, 2) := by decide +kernel
theorem dL_drawings_227 : decode cL_drawings 227 = .ok (.dup2, 1) := by decide +kernel
theorem dL_drawings_228 : decode cL_drawings 228 = .ok (.iaload, 1) := by decide +kernel
theorem dL_drawings_229 : decode cL_drawings 229 = .ok (.iconst 1, 1) := by decide +kernel
theorem dL_drawings_230 : decode cL_drawings 230 = .ok (.iadd, 1) := by decide +kernel
theorem dL_drawings_231 : decode cL_drawings 231 = .ok (.iastore, 1) := by decide +kernel
theorem dL_drawings_232 : decode cL_drawings 232 = .ok (.iinc 5 1, 3) := by decide +kernel
theorem dL_drawings_235 : decode cL_drawings 235 = .ok (.goto (-84), 3) := by decide +kernel
theorem dL_drawings_238 : decode cL_drawings 238 = .ok (.aload_n 0, 1) := by decide +kernel
theorem dL_drawings_239 : decode cL_drawings 239 = .ok (.iconst 2, 1) := by decide +kernel
theorem dL_drawings_240 : decode cL_drawings 240 = .ok (.invokestatic 112, 3) := by decide +kernel
theorem dL_drawings_243 : decode cL_drawings 243 = .ok (.iload_n 2, 1) := by decide +kernel
theorem dL_drawings_244 : decode cL_drawings 244 = .ok (.if_icmp .ge 33, 3) := by decide +kernel
theorem dL_drawings_247 : decode cL_drawings 247 = .ok (.aload_n 3, 1) := by decide +kernel
theorem dL_drawings_248 : decode cL_drawings 248 = .ok (.bipush 41, 2) := by decide +kernel
theorem dL_drawings_250 : decode cL_drawings 250 = .ok (.iaload, 1) := by decide +kernel
theorem dL_drawings_251 : decode cL_drawings 251 = .ok (.aload_n 0, 1) := by decide +kernel
theorem dL_drawings_252 : decode cL_drawings 252 = .ok (.iconst 4, 1) := by decide +kernel
theorem dL_drawings_253 : decode cL_drawings 253 = .ok (.invokestatic 92, 3) := by decide +kernel
theorem dL_drawings_256 : decode cL_drawings 256 = .ok (.aload_n 0, 1) := by decide +kernel
theorem dL_drawings_257 : decode cL_drawings 257 = .ok (.iconst 0, 1) := by decide +kernel
theorem dL_drawings_258 : decode cL_drawings 258 = .ok (.invokestatic 92, 3) := by decide +kernel
theorem dL_drawings_261 : decode cL_drawings 261 = .ok (.ifCond .ne 7, 3) := by decide +kernel
theorem dL_drawings_264 : decode cL_drawings 264 = .ok (.iconst 1, 1) := by decide +kernel
theorem dL_drawings_265 : decode cL_drawings 265 = .ok (.goto 4, 3) := by decide +kernel
theorem dL_drawings_268 : decode cL_drawings 268 = .ok (.iconst 0, 1) := by decide +kernel
theorem dL_drawings_269 : decode cL_drawings 269 = .ok (.iadd, 1) := by decide +kernel
theorem dL_drawings_270 : decode cL_drawings 270 = .ok (.if_icmp .ne 7, 3) := by decide +kernel
theorem dL_drawings_273 : decode cL_drawings 273 = .ok (.iconst 1, 1) := by decide +kernel
theorem dL_drawings_274 : decode cL_drawings 274 = .ok (.goto 4, 3) := by decide +kernel
theorem dL_drawings_277 : decode cL_drawings 277 = .ok (.iconst 0, 1) := by decide +kernel
theorem dL_drawings_278 : decode cL_drawings 278 = .ok (.istore 5, 2) := by decide +kernel
theorem dL_drawings_280 : decode cL_drawings 280 = .ok (.iconst 0, 1) := by decide +kernel
theorem dL_drawings_281 : decode cL_drawings 281 = .ok (.istore 6, 2) := by decide +kernel
theorem dL_drawings_283 : decode cL_drawings 283 = .ok (.iload 6, 2) := by decide +kernel
theorem dL_drawings_285 : decode cL_drawings 285 = .ok (.bipush 41, 2) := by decide +kernel
theorem dL_drawings_287 : decode cL_drawings 287 = .ok (.if_icmp .ge 33, 3) := by decide +kernel
theorem dL_drawings_290 : decode cL_drawings 290 = .ok (.iload 5, 2) := by decide +kernel
theorem dL_drawings_292 : decode cL_drawings 292 = .ok (.ifCond .eq 19, 3) := by decide +kernel
theorem dL_drawings_295 : decode cL_drawings 295 = .ok (.aload_n 3, 1) := by decide +kernel
theorem dL_drawings_296 : decode cL_drawings 296 = .ok (.iload 6, 2) := by decide +kernel
theorem dL_drawings_298 : decode cL_drawings 298 = .ok (.iaload, 1) := by decide +kernel
theorem dL_drawings_299 : decode cL_drawings 299 = .ok (.aload 4, 2) := by decide +kernel
theorem dL_drawings_301 : decode cL_drawings 301 = .ok (.iload 6, 2) := by decide +kernel
theorem dL_drawings_303 : decode cL_drawings 303 = .ok (.iaload, 1) := by decide +kernel
theorem dL_drawings_304 : decode cL_drawings 304 = .ok (.if_icmp .ne 7, 3) := by decide +kernel
theorem dL_drawings_307 : decode cL_drawings 307 = .ok (.iconst 1, 1) := by decide +kernel
theorem dL_drawings_308 : decode cL_drawings 308 = .ok (.goto 4, 3) := by decide +kernel
theorem dL_drawings_311 : decode cL_drawings 311 = .ok (.iconst 0, 1) := by decide +kernel
theorem dL_drawings_312 : decode cL_drawings 312 = .ok (.istore 5, 2) := by decide +kernel
theorem dL_drawings_314 : decode cL_drawings 314 = .ok (.iinc 6 1, 3) := by decide +kernel
theorem dL_drawings_317 : decode cL_drawings 317 = .ok (.goto (-34), 3) := by decide +kernel
theorem dL_drawings_320 : decode cL_drawings 320 = .ok (.iload 5, 2) := by decide +kernel
theorem dL_drawings_322 : decode cL_drawings 322 = .ok (.ifCond .eq 19, 3) := by decide +kernel
theorem dL_drawings_325 : decode cL_drawings 325 = .ok (.aload_n 3, 1) := by decide +kernel
theorem dL_drawings_326 : decode cL_drawings 326 = .ok (.bipush 43, 2) := by decide +kernel
theorem dL_drawings_328 : decode cL_drawings 328 = .ok (.iaload, 1) := by decide +kernel
theorem dL_drawings_329 : decode cL_drawings 329 = .ok (.aload 4, 2) := by decide +kernel
theorem dL_drawings_331 : decode cL_drawings 331 = .ok (.bipush 43, 2) := by decide +kernel
theorem dL_drawings_333 : decode cL_drawings 333 = .ok (.iaload, 1) := by decide +kernel
theorem dL_drawings_334 : decode cL_drawings 334 = .ok (.if_icmp .ne 7, 3) := by decide +kernel
theorem dL_drawings_337 : decode cL_drawings 337 = .ok (.iconst 1, 1) := by decide +kernel
theorem dL_drawings_338 : decode cL_drawings 338 = .ok (.goto 4, 3) := by decide +kernel
theorem dL_drawings_341 : decode cL_drawings 341 = .ok (.iconst 0, 1) := by decide +kernel
theorem dL_drawings_342 : decode cL_drawings 342 = .ok (.ireturn, 1) := by decide +kernel
theorem dL_read_0 : decode cL_read 0 = .ok (.aload_n 0, 1) := by decide +kernel
theorem dL_read_1 : decode cL_read 1 = .ok (.invokevirtual 106, 3) := by decide +kernel
theorem dL_read_4 : decode cL_read 4 = .ok (.istore_n 2, 1) := by decide +kernel
theorem dL_read_5 : decode cL_read 5 = .ok (.iload_n 2, 1) := by decide +kernel
theorem dL_read_6 : decode cL_read 6 = .ok (.bipush 120, 2) := by decide +kernel
theorem dL_read_8 : decode cL_read 8 = .ok (.if_icmp .le 5, 3) := by decide +kernel
theorem dL_read_11 : decode cL_read 11 = .ok (.iconst 1, 1) := by decide +kernel
theorem dL_read_12 : decode cL_read 12 = .ok (.ireturn, 1) := by decide +kernel
theorem dL_read_13 : decode cL_read 13 = .ok (.aload_n 1, 1) := by decide +kernel
theorem dL_read_14 : decode cL_read 14 = .ok (.invokevirtual 166, 3) := by decide +kernel
theorem dL_read_17 : decode cL_read 17 = .ok (.ifCond .lt 7, 3) := by decide +kernel
theorem dL_read_20 : decode cL_read 20 = .ok (.iconst 1, 1) := by decide +kernel
theorem dL_read_21 : decode cL_read 21 = .ok (.goto 4, 3) := by decide +kernel
theorem dL_read_24 : decode cL_read 24 = .ok (.iconst 0, 1) := by decide +kernel
theorem dL_read_25 : decode cL_read 25 = .ok (.istore_n 3, 1) := by decide +kernel
theorem dL_read_26 : decode cL_read 26 = .ok (.iconst 0, 1) := by decide +kernel
theorem dL_read_27 : decode cL_read 27 = .ok (.istore 4, 2) := by decide +kernel
theorem dL_read_29 : decode cL_read 29 = .ok (.iload 4, 2) := by decide +kernel
theorem dL_read_31 : decode cL_read 31 = .ok (.iload_n 2, 1) := by decide +kernel
theorem dL_read_32 : decode cL_read 32 = .ok (.if_icmp .ge 36, 3) := by decide +kernel
theorem dL_read_35 : decode cL_read 35 = .ok (.iload_n 3, 1) := by decide +kernel
theorem dL_read_36 : decode cL_read 36 = .ok (.ifCond .eq 32, 3) := by decide +kernel
theorem dL_read_39 : decode cL_read 39 = .ok (.aload_n 1, 1) := by decide +kernel
theorem dL_read_40 : decode cL_read 40 = .ok (.aload_n 0, 1) := by decide +kernel
theorem dL_read_41 : decode cL_read 41 = .ok (.iload 4, 2) := by decide +kernel
theorem dL_read_43 : decode cL_read 43 = .ok (.invokestatic 115, 3) := by decide +kernel
theorem dL_read_46 : decode cL_read 46 = .ok (.invokestatic 159, 3) := by decide +kernel
theorem dL_read_49 : decode cL_read 49 = .ok (.iload 4, 2) := by decide +kernel
theorem dL_read_51 : decode cL_read 51 = .ok (.iconst 1, 1) := by decide +kernel
theorem dL_read_52 : decode cL_read 52 = .ok (.iadd, 1) := by decide +kernel
theorem dL_read_53 : decode cL_read 53 = .ok (.if_icmp .ne 7, 3) := by decide +kernel
theorem dL_read_56 : decode cL_read 56 = .ok (.iconst 1, 1) := by decide +kernel
theorem dL_read_57 : decode cL_read 57 = .ok (.goto 4, 3) := by decide +kernel
theorem dL_read_60 : decode cL_read 60 = .ok (.iconst 0, 1) := by decide +kernel
theorem dL_read_61 : decode cL_read 61 = .ok (.istore_n 3, 1) := by decide +kernel
theorem dL_read_62 : decode cL_read 62 = .ok (.iinc 4 1, 3) := by decide +kernel
theorem dL_read_65 : decode cL_read 65 = .ok (.goto (-36), 3) := by decide +kernel
theorem dL_read_68 : decode cL_read 68 = .ok (.iload_n 3, 1) := by decide +kernel
theorem dL_read_69 : decode cL_read 69 = .ok (.ifCond .eq 70, 3) := by decide +kernel
theorem dL_read_72 : decode cL_read 72 = .ok (.aload_n 1, 1) := by decide +kernel
theorem dL_read_73 : decode cL_read 73 = .ok (.invokevirtual 169, 3) := by decide +kernel
theorem dL_read_76 : decode cL_read 76 = .ok (.bipush (-9), 2) := by decide +kernel
theorem dL_read_78 : decode cL_read 78 = .ok (.if_icmp .ne 61, 3) := by decide +kernel
theorem dL_read_81 : decode cL_read 81 = .ok (.aload_n 1, 1) := by decide +kernel
theorem dL_read_82 : decode cL_read 82 = .ok (.invokestatic 172, 3) := by decide +kernel
theorem dL_read_85 : decode cL_read 85 = .ok (.aload_n 0, 1) := by decide +kernel
theorem dL_read_86 : decode cL_read 86 = .ok (.iconst 0, 1) := by decide +kernel
theorem dL_read_87 : decode cL_read 87 = .ok (.invokestatic 92, 3) := by decide +kernel
theorem dL_read_90 : decode cL_read 90 = .ok (.if_icmp .ne 49, 3) := by decide +kernel
theorem dL_read_93 : decode cL_read 93 = .ok (.aload_n 0, 1) := by decide +kernel
theorem dL_read_94 : decode cL_read 94 = .ok (.aload_n 1, 1) := by decide +kernel
theorem dL_read_95 : decode cL_read 95 = .ok (.invokestatic 102, 3) := by decide +kernel
theorem dL_read_98 : decode cL_read 98 = .ok (.ifCond .eq 41, 3) := by decide +kernel
theorem dL_read_101 : decode cL_read 101 = .ok (.aload_n 1, 1) := by decide +kernel
theorem dL_read_102 : decode cL_read 102 = .ok (.iconst 2, 1) := by decide +kernel
theorem dL_read_103 : decode cL_read 103 = .ok (.invokestatic 92, 3) := by decide +kernel
theorem dL_read_106 : decode cL_read 106 = .ok (.ifCond .ne 33, 3) := by decide +kernel
theorem dL_read_109 : decode cL_read 109 = .ok (.aload_n 1, 1) := by decide +kernel
theorem dL_read_110 : decode cL_read 110 = .ok (.iconst 0, 1) := by decide +kernel
theorem dL_read_111 : decode cL_read 111 = .ok (.invokestatic 109, 3) := by decide +kernel
theorem dL_read_114 : decode cL_read 114 = .ok (.ifCond .ne 25, 3) := by decide +kernel
theorem dL_read_117 : decode cL_read 117 = .ok (.aload_n 1, 1) := by decide +kernel
theorem dL_read_118 : decode cL_read 118 = .ok (.invokestatic 175, 3) := by decide +kernel
theorem dL_read_121 : decode cL_read 121 = .ok (.sipush (-1003), 3) := by decide +kernel
theorem dL_read_124 : decode cL_read 124 = .ok (.if_icmp .ne 15, 3) := by decide +kernel
theorem dL_read_127 : decode cL_read 127 = .ok (.aload_n 1, 1) := by decide +kernel
theorem dL_read_128 : decode cL_read 128 = .ok (.invokevirtual 106, 3) := by decide +kernel
theorem dL_read_131 : decode cL_read 131 = .ok (.iload_n 2, 1) := by decide +kernel
theorem dL_read_132 : decode cL_read 132 = .ok (.if_icmp .ne 7, 3) := by decide +kernel
theorem dL_read_135 : decode cL_read 135 = .ok (.iconst 1, 1) := by decide +kernel
theorem dL_read_136 : decode cL_read 136 = .ok (.goto 4, 3) := by decide +kernel
theorem dL_read_139 : decode cL_read 139 = .ok (.iconst 0, 1) := by decide +kernel
theorem dL_read_140 : decode cL_read 140 = .ok (.istore_n 3, 1) := by decide +kernel
theorem dL_read_141 : decode cL_read 141 = .ok (.iload_n 3, 1) := by decide +kernel
theorem dL_read_142 : decode cL_read 142 = .ok (.ifCond .eq 67, 3) := by decide +kernel
theorem dL_read_145 : decode cL_read 145 = .ok (.iload_n 2, 1) := by decide +kernel
theorem dL_read_146 : decode cL_read 146 = .ok (.bipush 118, 2) := by decide +kernel
theorem dL_read_148 : decode cL_read 148 = .ok (.if_icmp .gt 57, 3) := by decide +kernel
theorem dL_read_151 : decode cL_read 151 = .ok (.aload_n 1, 1) := by decide +kernel
theorem dL_read_152 : decode cL_read 152 = .ok (.bipush 94, 2) := by decide +kernel
theorem dL_read_154 : decode cL_read 154 = .ok (.invokestatic 159, 3) := by decide +kernel
theorem dL_read_157 : decode cL_read 157 = .ok (.iload_n 2, 1) := by decide +kernel
theorem dL_read_158 : decode cL_read 158 = .ok (.iconst 1, 1) := by decide +kernel
theorem dL_read_159 : decode cL_read 159 = .ok (.iadd, 1) := by decide +kernel
theorem dL_read_160 : decode cL_read 160 = .ok (.if_icmp .ne 49, 3) := by decide +kernel
theorem dL_read_163 : decode cL_read 163 = .ok (.aload_n 1, 1) := by decide +kernel
theorem dL_read_164 : decode cL_read 164 = .ok (.invokevirtual 169, 3) := by decide +kernel
theorem dL_read_167 : decode cL_read 167 = .ok (.iload_n 2, 1) := by decide +kernel
theorem dL_read_168 : decode cL_read 168 = .ok (.iconst 1, 1) := by decide +kernel
theorem dL_read_169 : decode cL_read 169 = .ok (.iadd, 1) := by decide +kernel
theorem dL_read_170 : decode cL_read 170 = .ok (.if_icmp .ne 39, 3) := by decide +kernel
theorem dL_read_173 : decode cL_read 173 = .ok (.aload_n 1, 1) := by decide +kernel
theorem dL_read_174 : decode cL_read 174 = .ok (.bipush 41, 2) := by decide +kernel
theorem dL_read_176 : decode cL_read 176 = .ok (.invokestatic 159, 3) := by decide +kernel
theorem dL_read_179 : decode cL_read 179 = .ok (.iload_n 2, 1) := by decide +kernel
theorem dL_read_180 : decode cL_read 180 = .ok (.iconst 2, 1) := by decide +kernel
theorem dL_read_181 : decode cL_read 181 = .ok (.iadd, 1) := by decide +kernel
theorem dL_read_182 : decode cL_read 182 = .ok (.if_icmp .ne 27, 3) := by decide +kernel
theorem dL_read_185 : decode cL_read 185 = .ok (.aload_n 1, 1) := by decide +kernel
theorem dL_read_186 : decode cL_read 186 = .ok (.invokevirtual 169, 3) := by decide +kernel
theorem dL_read_189 : decode cL_read 189 = .ok (.iload_n 2, 1) := by decide +kernel
theorem dL_read_190 : decode cL_read 190 = .ok (.iconst 1, 1) := by decide +kernel
theorem dL_read_191 : decode cL_read 191 = .ok (.iadd, 1) := by decide +kernel
theorem dL_read_192 : decode cL_read 192 = .ok (.if_icmp .ne 17, 3) := by decide +kernel
theorem dL_read_195 : decode cL_read 195 = .ok (.aload_n 1, 1) := by decide +kernel
theorem dL_read_196 : decode cL_read 196 = .ok (.invokestatic 172, 3) := by decide +kernel
theorem dL_read_199 : decode cL_read 199 = .ok (.sipush (-1003), 3) := by decide +kernel
theorem dL_read_202 : decode cL_read 202 = .ok (.if_icmp .ne 7, 3) := by decide +kernel
theorem dL_read_205 : decode cL_read 205 = .ok (.iconst 1, 1) := by decide +kernel
theorem dL_read_206 : decode cL_read 206 = .ok (.goto 4, 3) := by decide +kernel
theorem dL_read_209 : decode cL_read 209 = .ok (.iconst 0, 1) := by decide +kernel
theorem dL_read_210 : decode cL_read 210 = .ok (.ireturn, 1) := by decide +kernel
theorem dL_back_0 : decode cL_back 0 = .ok (.aload_n 0, 1) := by decide +kernel
theorem dL_back_1 : decode cL_back 1 = .ok (.iconst 1, 1) := by decide +kernel
theorem dL_back_2 : decode cL_back 2 = .ok (.invokestatic 92, 3) := by decide +kernel
theorem dL_back_5 : decode cL_back 5 = .ok (.istore_n 3, 1) := by decide +kernel
theorem dL_back_6 : decode cL_back 6 = .ok (.aload_n 0, 1) := by decide +kernel
theorem dL_back_7 : decode cL_back 7 = .ok (.iconst 0, 1) := by decide +kernel
theorem dL_back_8 : decode cL_back 8 = .ok (.invokestatic 92, 3) := by decide +kernel
theorem dL_back_11 : decode cL_back 11 = .ok (.istore 4, 2) := by decide +kernel
theorem dL_back_13 : decode cL_back 13 = .ok (.iload_n 2, 1) := by decide +kernel
theorem dL_back_14 : decode cL_back 14 = .ok (.iload_n 3, 1) := by decide +kernel
theorem dL_back_15 : decode cL_back 15 = .ok (.irem, 1) := by decide +kernel
theorem dL_back_16 : decode cL_back 16 = .ok (.istore 5, 2) := by decide +kernel
theorem dL_back_18 : decode cL_back 18 = .ok (.aload_n 0, 1) := by decide +kernel
theorem dL_back_19 : decode cL_back 19 = .ok (.iload 5, 2) := by decide +kernel
theorem dL_back_21 : decode cL_back 21 = .ok (.invokestatic 118, 3) := by decide +kernel
theorem dL_back_24 : decode cL_back 24 = .ok (.ifCond .lt 35, 3) := by decide +kernel
theorem dL_back_27 : decode cL_back 27 = .ok (.aload_n 0, 1) := by decide +kernel
theorem dL_back_28 : decode cL_back 28 = .ok (.iconst 2, 1) := by decide +kernel
theorem dL_back_29 : decode cL_back 29 = .ok (.invokestatic 92, 3) := by decide +kernel
theorem dL_back_32 : decode cL_back 32 = .ok (.iload 5, 2) := by decide +kernel
theorem dL_back_34 : decode cL_back 34 = .ok (.if_icmp .ne 25, 3) := by decide +kernel
theorem dL_back_37 : decode cL_back 37 = .ok (.aload_n 0, 1) := by decide +kernel
theorem dL_back_38 : decode cL_back 38 = .ok (.iconst 0, 1) := by decide +kernel
theorem dL_back_39 : decode cL_back 39 = .ok (.invokestatic 109, 3) := by decide +kernel
theorem dL_back_42 : decode cL_back 42 = .ok (.ifCond .ne 17, 3) := by decide +kernel
theorem dL_back_45 : decode cL_back 45 = .ok (.aload_n 0, 1) := by decide +kernel
theorem dL_back_46 : decode cL_back 46 = .ok (.iconst 2, 1) := by decide +kernel
theorem dL_back_47 : decode cL_back 47 = .ok (.invokestatic 109, 3) := by decide +kernel
theorem dL_back_50 : decode cL_back 50 = .ok (.iload 5, 2) := by decide +kernel
theorem dL_back_52 : decode cL_back 52 = .ok (.if_icmp .ne 7, 3) := by decide +kernel
theorem dL_back_55 : decode cL_back 55 = .ok (.iconst 1, 1) := by decide +kernel
theorem dL_back_56 : decode cL_back 56 = .ok (.goto 4, 3) := by decide +kernel
theorem dL_back_59 : decode cL_back 59 = .ok (.iconst 0, 1) := by decide +kernel
theorem dL_back_60 : decode cL_back 60 = .ok (.istore 6, 2) := by decide +kernel
theorem dL_back_62 : decode cL_back 62 = .ok (.iload 4, 2) := by decide +kernel
theorem dL_back_64 : decode cL_back 64 = .ok (.bipush 60, 2) := by decide +kernel
theorem dL_back_66 : decode cL_back 66 = .ok (.if_icmp .ge 214, 3) := by decide +kernel
theorem dL_back_69 : decode cL_back 69 = .ok (.iload 6, 2) := by decide +kernel
theorem dL_back_71 : decode cL_back 71 = .ok (.ifCond .eq 209, 3) := by decide +kernel
theorem dL_back_74 : decode cL_back 74 = .ok (.aload_n 0, 1) := by decide +kernel
theorem dL_back_75 : decode cL_back 75 = .ok (.iload_n 2, 1) := by decide +kernel
theorem dL_back_76 : decode cL_back 76 = .ok (.invokestatic 178, 3) := by decide +kernel
theorem dL_back_79 : decode cL_back 79 = .ok (.invokestatic 124, 3) := by decide +kernel
theorem dL_back_82 : decode cL_back 82 = .ok (.iload 4, 2) := by decide +kernel
theorem dL_back_84 : decode cL_back 84 = .ok (.iconst 1, 1) := by decide +kernel
theorem dL_back_85 : decode cL_back 85 = .ok (.iadd, 1) := by decide +kernel
theorem dL_back_86 : decode cL_back 86 = .ok (.if_icmp .ne 59, 3) := by decide +kernel
theorem dL_back_89 : decode cL_back 89 = .ok (.aload_n 0, 1) := by decide +kernel
theorem dL_back_90 : decode cL_back 90 = .ok (.iconst 2, 1) := by decide +kernel
theorem dL_back_91 : decode cL_back 91 = .ok (.invokestatic 92, 3) := by decide +kernel
theorem dL_back_94 : decode cL_back 94 = .ok (.iload 5, 2) := by decide +kernel
theorem dL_back_96 : decode cL_back 96 = .ok (.iconst 1, 1) := by decide +kernel
theorem dL_back_97 : decode cL_back 97 = .ok (.iadd, 1) := by decide +kernel
theorem dL_back_98 : decode cL_back 98 = .ok (.if_icmp .ne 47, 3) := by decide +kernel
theorem dL_back_101 : decode cL_back 101 = .ok (.aload_n 0, 1) := by decide +kernel
theorem dL_back_102 : decode cL_back 102 = .ok (.iload 5, 2) := by decide +kernel
theorem dL_back_104 : decode cL_back 104 = .ok (.iconst 5, 1) := by decide +kernel
theorem dL_back_105 : decode cL_back 105 = .ok (.invokestatic 98, 3) := by decide +kernel
theorem dL_back_108 : decode cL_back 108 = .ok (.iload_n 2, 1) := by decide +kernel
theorem dL_back_109 : decode cL_back 109 = .ok (.invokestatic 178, 3) := by decide +kernel
theorem dL_back_112 : decode cL_back 112 = .ok (.if_icmp .ne 33, 3) := by decide +kernel
theorem dL_back_115 : decode cL_back 115 = .ok (.aload_n 0, 1) := by decide +kernel
theorem dL_back_116 : decode cL_back 116 = .ok (.invokestatic 181, 3) := by decide +kernel
theorem dL_back_119 : decode cL_back 119 = .ok (.iconst 1, 1) := by decide +kernel
theorem dL_back_120 : decode cL_back 120 = .ok (.if_icmp .ne 25, 3) := by decide +kernel
theorem dL_back_123 : decode cL_back 123 = .ok (.aload_n 0, 1) := by decide +kernel
theorem dL_back_124 : decode cL_back 124 = .ok (.iconst 2, 1) := by decide +kernel
theorem dL_back_125 : decode cL_back 125 = .ok (.invokestatic 92, 3) := by decide +kernel
theorem dL_back_128 : decode cL_back 128 = .ok (.iload 5, 2) := by decide +kernel
theorem dL_back_130 : decode cL_back 130 = .ok (.if_icmp .ne 15, 3) := by decide +kernel
theorem dL_back_133 : decode cL_back 133 = .ok (.aload_n 0, 1) := by decide +kernel
theorem dL_back_134 : decode cL_back 134 = .ok (.aload_n 1, 1) := by decide +kernel
theorem dL_back_135 : decode cL_back 135 = .ok (.invokestatic 102, 3) := by decide +kernel
theorem dL_back_138 : decode cL_back 138 = .ok (.ifCond .eq 7, 3) := by decide +kernel
theorem dL_back_141 : decode cL_back 141 = .ok (.iconst 1, 1) := by decide +kernel
theorem dL_back_142 : decode cL_back 142 = .ok (.goto 4, 3) := by decide +kernel
theorem dL_back_145 : decode cL_back 145 = .ok (.iconst 0, 1) := by decide +kernel
theorem dL_back_146 : decode cL_back 146 = .ok (.istore 6, 2) := by decide +kernel
theorem dL_back_148 : decode cL_back 148 = .ok (.iconst 1, 1) := by decide +kernel
theorem dL_back_149 : decode cL_back 149 = .ok (.iload_n 2, 1) := by decide +kernel
theorem dL_back_150 : decode cL_back 150 = .ok (.bipush 64, 2) := by decide +kernel
theorem dL_back_152 : decode cL_back 152 = .ok (.idiv, 1) := by decide +kernel
theorem dL_back_153 : decode cL_back 153 = .ok (.iconst 5, 1) := by decide +kernel
theorem dL_back_154 : decode cL_back 154 = .ok (.irem, 1) := by decide +kernel
theorem dL_back_155 : decode cL_back 155 = .ok (.iadd, 1) := by decide +kernel
theorem dL_back_156 : decode cL_back 156 = .ok (.istore 7, 2) := by decide +kernel
theorem dL_back_158 : decode cL_back 158 = .ok (.aload_n 0, 1) := by decide +kernel
theorem dL_back_159 : decode cL_back 159 = .ok (.iload 7, 2) := by decide +kernel
theorem dL_back_161 : decode cL_back 161 = .ok (.invokestatic 127, 3) := by decide +kernel
theorem dL_back_164 : decode cL_back 164 = .ok (.istore 8, 2) := by decide +kernel
theorem dL_back_166 : decode cL_back 166 = .ok (.iload 6, 2) := by decide +kernel
theorem dL_back_168 : decode cL_back 168 = .ok (.ifCond .eq 109, 3) := by decide +kernel
theorem dL_back_171 : decode cL_back 171 = .ok (.aload_n 0, 1) := by decide +kernel
theorem dL_back_172 : decode cL_back 172 = .ok (.iload 5, 2) := by decide +kernel
theorem dL_back_174 : decode cL_back 174 = .ok (.iconst 0, 1) := by decide +kernel
theorem dL_back_175 : decode cL_back 175 = .ok (.invokestatic 98, 3) := by decide +kernel
theorem dL_back_178 : decode cL_back 178 = .ok (.iconst 5, 1) := by decide +kernel
theorem dL_back_179 : decode cL_back 179 = .ok (.if_icmp .ne 14, 3) := by decide +kernel
theorem dL_back_182 : decode cL_back 182 = .ok (.iload 8, 2) := by decide +kernel
theorem dL_back_184 : decode cL_back 184 = .ok (.sipush (-1003), 3) := by decide +kernel
theorem dL_back_187 : decode cL_back 187 = .ok (.if_icmp .ne 90, 3) := by decide +kernel
theorem dL_back_190 : decode cL_back 190 = .ok (.goto 83, 3) := by decide +kernel
theorem dL_back_193 : decode cL_back 193 = .ok (.iload 8, 2) := by decide +kernel
theorem dL_back_195 : decode cL_back 195 = .ok (.iload 5, 2) := by decide +kernel
theorem dL_back_197 : decode cL_back 197 = .ok (.iconst 1, 1) := by decide +kernel
theorem dL_back_198 : decode cL_back 198 = .ok (.iadd, 1) := by decide +kernel
theorem dL_back_199 : decode cL_back 199 = .ok (.if_icmp .ne 78, 3) := by decide +kernel
theorem dL_back_202 : decode cL_back 202 = .ok (.aload_n 0, 1) := by decide +kernel
theorem dL_back_203 : decode cL_back 203 = .ok (.iconst 1, 1) := by decide +kernel
theorem dL_back_204 : decode cL_back 204 = .ok (.invokestatic 92, 3) := by decide +kernel
theorem dL_back_207 : decode cL_back 207 = .ok (.iload_n 3, 1) := by decide +kernel
theorem dL_back_208 : decode cL_back 208 = .ok (.iload 7, 2) := by decide +kernel
theorem dL_back_210 : decode cL_back 210 = .ok (.iconst 1, 1) := by decide +kernel
theorem dL_back_211 : decode cL_back 211 = .ok (.if_icmp .ne 7, 3) := by decide +kernel
theorem dL_back_214 : decode cL_back 214 = .ok (.iconst 3, 1) := by decide +kernel
theorem dL_back_215 : decode cL_back 215 = .ok (.goto 4, 3) := by decide +kernel
theorem dL_back_218 : decode cL_back 218 = .ok (.iconst 2, 1) := by decide +kernel
theorem dL_back_219 : decode cL_back 219 = .ok (.iadd, 1) := by decide +kernel
theorem dL_back_220 : decode cL_back 220 = .ok (.if_icmp .ne 57, 3) := by decide +kernel
theorem dL_back_223 : decode cL_back 223 = .ok (.aload_n 0, 1) := by decide +kernel
theorem dL_back_224 : decode cL_back 224 = .ok (.iload 5, 2) := by decide +kernel
theorem dL_back_226 : decode cL_back 226 = .ok (.iconst 5, 1) := by decide +kernel
theorem dL_back_227 : decode cL_back 227 = .ok (.invokestatic 98, 3) := by decide +kernel
theorem dL_back_230 : decode cL_back 230 = .ok (.iload 7, 2) := by decide +kernel
theorem dL_back_232 : decode cL_back 232 = .ok (.if_icmp .ne 45, 3) := by decide +kernel
theorem dL_back_235 : decode cL_back 235 = .ok (.aload_n 0, 1) := by decide +kernel
theorem dL_back_236 : decode cL_back 236 = .ok (.iconst 0, 1) := by decide +kernel
theorem dL_back_237 : decode cL_back 237 = .ok (.invokestatic 92, 3) := by decide +kernel
theorem dL_back_240 : decode cL_back 240 = .ok (.iload 4, 2) := by decide +kernel
theorem dL_back_242 : decode cL_back 242 = .ok (.iconst 1, 1) := by decide +kernel
theorem dL_back_243 : decode cL_back 243 = .ok (.iadd, 1) := by decide +kernel
theorem dL_back_244 : decode cL_back 244 = .ok (.if_icmp .ne 33, 3) := by decide +kernel
theorem dL_back_247 : decode cL_back 247 = .ok (.aload_n 0, 1) := by decide +kernel
theorem dL_back_248 : decode cL_back 248 = .ok (.invokestatic 181, 3) := by decide +kernel
theorem dL_back_251 : decode cL_back 251 = .ok (.iconst 1, 1) := by decide +kernel
theorem dL_back_252 : decode cL_back 252 = .ok (.if_icmp .ne 25, 3) := by decide +kernel
theorem dL_back_255 : decode cL_back 255 = .ok (.aload_n 0, 1) := by decide +kernel
theorem dL_back_256 : decode cL_back 256 = .ok (.iconst 2, 1) := by decide +kernel
theorem dL_back_257 : decode cL_back 257 = .ok (.invokestatic 92, 3) := by decide +kernel
theorem dL_back_260 : decode cL_back 260 = .ok (.iload 5, 2) := by decide +kernel
theorem dL_back_262 : decode cL_back 262 = .ok (.if_icmp .ne 15, 3) := by decide +kernel
theorem dL_back_265 : decode cL_back 265 = .ok (.aload_n 0, 1) := by decide +kernel
theorem dL_back_266 : decode cL_back 266 = .ok (.aload_n 1, 1) := by decide +kernel
theorem dL_back_267 : decode cL_back 267 = .ok (.invokestatic 102, 3) := by decide +kernel
theorem dL_back_270 : decode cL_back 270 = .ok (.ifCond .eq 7, 3) := by decide +kernel
theorem dL_back_273 : decode cL_back 273 = .ok (.iconst 1, 1) := by decide +kernel
theorem dL_back_274 : decode cL_back 274 = .ok (.goto 4, 3) := by decide +kernel
theorem dL_back_277 : decode cL_back 277 = .ok (.iconst 0, 1) := by decide +kernel
theorem dL_back_278 : decode cL_back 278 = .ok (.istore 6, 2) := by decide +kernel
theorem dL_back_280 : decode cL_back 280 = .ok (.iconst 0, 1) := by decide +kernel
theorem dL_back_281 : decode cL_back 281 = .ok (.istore 7, 2) := by decide +kernel
theorem dL_back_283 : decode cL_back 283 = .ok (.aload_n 0, 1) := by decide +kernel
theorem dL_back_284 : decode cL_back 284 = .ok (.invokestatic 184, 3) := by decide +kernel
theorem dL_back_287 : decode cL_back 287 = .ok (.istore 8, 2) := by decide +kernel
theorem dL_back_289 : decode cL_back 289 = .ok (.iload 8, 2) := by decide +kernel
theorem dL_back_291 : decode cL_back 291 = .ok (.sipush (-1003), 3) := by decide +kernel
theorem dL_back_294 : decode cL_back 294 = .ok (.if_icmp .eq 72, 3) := by decide +kernel
theorem dL_back_297 : decode cL_back 297 = .ok (.iload 7, 2) := by decide +kernel
theorem dL_back_299 : decode cL_back 299 = .ok (.bipush 20, 2) := by decide +kernel
theorem dL_back_301 : decode cL_back 301 = .ok (.if_icmp .ge 65, 3) := by decide +kernel
theorem dL_back_304 : decode cL_back 304 = .ok (.iload 6, 2) := by decide +kernel
theorem dL_back_306 : decode cL_back 306 = .ok (.ifCond .eq 60, 3) := by decide +kernel
theorem dL_back_309 : decode cL_back 309 = .ok (.iload 8, 2) := by decide +kernel
theorem dL_back_311 : decode cL_back 311 = .ok (.ifCond .le 40, 3) := by decide +kernel
theorem dL_back_314 : decode cL_back 314 = .ok (.aload_n 0, 1) := by decide +kernel
theorem dL_back_315 : decode cL_back 315 = .ok (.iconst 0, 1) := by decide +kernel
theorem dL_back_316 : decode cL_back 316 = .ok (.invokestatic 109, 3) := by decide +kernel
theorem dL_back_319 : decode cL_back 319 = .ok (.iload 8, 2) := by decide +kernel
theorem dL_back_321 : decode cL_back 321 = .ok (.if_icmp .ne 30, 3) := by decide +kernel
theorem dL_back_324 : decode cL_back 324 = .ok (.aload_n 0, 1) := by decide +kernel
theorem dL_back_325 : decode cL_back 325 = .ok (.iconst 1, 1) := by decide +kernel
theorem dL_back_326 : decode cL_back 326 = .ok (.invokestatic 109, 3) := by decide +kernel
theorem dL_back_329 : decode cL_back 329 = .ok (.iload 8, 2) := by decide +kernel
theorem dL_back_331 : decode cL_back 331 = .ok (.if_icmp .lt 20, 3) := by decide +kernel
theorem dL_back_334 : decode cL_back 334 = .ok (.aload_n 0, 1) := by decide +kernel
theorem dL_back_335 : decode cL_back 335 = .ok (.iconst 2, 1) := by decide +kernel
theorem dL_back_336 : decode cL_back 336 = .ok (.invokestatic 109, 3) := by decide +kernel
theorem dL_back_339 : decode cL_back 339 = .ok (.aload_n 0, 1) := by decide +kernel
theorem dL_back_340 : decode cL_back 340 = .ok (.iconst 2, 1) := by decide +kernel
theorem dL_back_341 : decode cL_back 341 = .ok (.invokestatic 92, 3) := by decide +kernel
theorem dL_back_344 : decode cL_back 344 = .ok (.if_icmp .ge 7, 3) := by decide +kernel
theorem dL_back_347 : decode cL_back 347 = .ok (.iconst 1, 1) := by decide +kernel
theorem dL_back_348 : decode cL_back 348 = .ok (.goto 4, 3) := by decide +kernel
theorem dL_back_351 : decode cL_back 351 = .ok (.iconst 0, 1) := by decide +kernel
theorem dL_back_352 : decode cL_back 352 = .ok (.istore 6, 2) := by decide +kernel
theorem dL_back_354 : decode cL_back 354 = .ok (.iinc 7 1, 3) := by decide +kernel
theorem dL_back_357 : decode cL_back 357 = .ok (.aload_n 0, 1) := by decide +kernel
theorem dL_back_358 : decode cL_back 358 = .ok (.invokestatic 184, 3) := by decide +kernel
theorem dL_back_361 : decode cL_back 361 = .ok (.istore 8, 2) := by decide +kernel
theorem dL_back_363 : decode cL_back 363 = .ok (.goto (-74), 3) := by decide +kernel
theorem dL_back_366 : decode cL_back 366 = .ok (.iload 6, 2) := by decide +kernel
theorem dL_back_368 : decode cL_back 368 = .ok (.ifCond .eq 24, 3) := by decide +kernel
theorem dL_back_371 : decode cL_back 371 = .ok (.iload 7, 2) := by decide +kernel
theorem dL_back_373 : decode cL_back 373 = .ok (.bipush 20, 2) := by decide +kernel
theorem dL_back_375 : decode cL_back 375 = .ok (.if_icmp .ge 17, 3) := by decide +kernel
theorem dL_back_378 : decode cL_back 378 = .ok (.aload_n 0, 1) := by decide +kernel
theorem dL_back_379 : decode cL_back 379 = .ok (.iconst 1, 1) := by decide +kernel
theorem dL_back_380 : decode cL_back 380 = .ok (.invokestatic 109, 3) := by decide +kernel
theorem dL_back_383 : decode cL_back 383 = .ok (.iload 4, 2) := by decide +kernel
theorem dL_back_385 : decode cL_back 385 = .ok (.if_icmp .ne 7, 3) := by decide +kernel
theorem dL_back_388 : decode cL_back 388 = .ok (.iconst 1, 1) := by decide +kernel
theorem dL_back_389 : decode cL_back 389 = .ok (.goto 4, 3) := by decide +kernel
theorem dL_back_392 : decode cL_back 392 = .ok (.iconst 0, 1) := by decide +kernel
theorem dL_back_393 : decode cL_back 393 = .ok (.istore 6, 2) := by decide +kernel
theorem dL_back_395 : decode cL_back 395 = .ok (.iload 4, 2) := by decide +kernel
theorem dL_back_397 : decode cL_back 397 = .ok (.ifCond .le 140, 3) := by decide +kernel
theorem dL_back_400 : decode cL_back 400 = .ok (.iload 6, 2) := by decide +kernel
theorem dL_back_402 : decode cL_back 402 = .ok (.ifCond .eq 135, 3) := by decide +kernel
theorem dL_back_405 : decode cL_back 405 = .ok (.aload_n 0, 1) := by decide +kernel
theorem dL_back_406 : decode cL_back 406 = .ok (.invokestatic 136, 3) := by decide +kernel
theorem dL_back_409 : decode cL_back 409 = .ok (.iload 4, 2) := by decide +kernel
theorem dL_back_411 : decode cL_back 411 = .ok (.if_icmp .ne 123, 3) := by decide +kernel
theorem dL_back_414 : decode cL_back 414 = .ok (.aload_n 0, 1) := by decide +kernel
theorem dL_back_415 : decode cL_back 415 = .ok (.iconst 5, 1) := by decide +kernel
theorem dL_back_416 : decode cL_back 416 = .ok (.invokestatic 92, 3) := by decide +kernel
theorem dL_back_419 : decode cL_back 419 = .ok (.iload 4, 2) := by decide +kernel
theorem dL_back_421 : decode cL_back 421 = .ok (.if_icmp .ne 113, 3) := by decide +kernel
theorem dL_back_424 : decode cL_back 424 = .ok (.aload_n 0, 1) := by decide +kernel
theorem dL_back_425 : decode cL_back 425 = .ok (.invokestatic 181, 3) := by decide +kernel
theorem dL_back_428 : decode cL_back 428 = .ok (.iload 4, 2) := by decide +kernel
theorem dL_back_430 : decode cL_back 430 = .ok (.if_icmp .ne 104, 3) := by decide +kernel
theorem dL_back_433 : decode cL_back 433 = .ok (.aload_n 0, 1) := by decide +kernel
theorem dL_back_434 : decode cL_back 434 = .ok (.iconst 1, 1) := by decide +kernel
theorem dL_back_435 : decode cL_back 435 = .ok (.invokestatic 92, 3) := by decide +kernel
theorem dL_back_438 : decode cL_back 438 = .ok (.iconst 1, 1) := by decide +kernel
theorem dL_back_439 : decode cL_back 439 = .ok (.if_icmp .ne 95, 3) := by decide +kernel
theorem dL_back_442 : decode cL_back 442 = .ok (.aload_n 0, 1) := by decide +kernel
theorem dL_back_443 : decode cL_back 443 = .ok (.invokestatic 140, 3) := by decide +kernel
theorem dL_back_446 : decode cL_back 446 = .ok (.iload 4, 2) := by decide +kernel
theorem dL_back_448 : decode cL_back 448 = .ok (.if_icmp .ne 86, 3) := by decide +kernel
theorem dL_back_451 : decode cL_back 451 = .ok (.aload_n 0, 1) := by decide +kernel
theorem dL_back_452 : decode cL_back 452 = .ok (.aload_n 1, 1) := by decide +kernel
theorem dL_back_453 : decode cL_back 453 = .ok (.invokestatic 102, 3) := by decide +kernel
theorem dL_back_456 : decode cL_back 456 = .ok (.ifCond .eq 78, 3) := by decide +kernel
theorem dL_back_459 : decode cL_back 459 = .ok (.aload_n 0, 1) := by decide +kernel
theorem dL_back_460 : decode cL_back 460 = .ok (.iconst 2, 1) := by decide +kernel
theorem dL_back_461 : decode cL_back 461 = .ok (.invokestatic 92, 3) := by decide +kernel
theorem dL_back_464 : decode cL_back 464 = .ok (.iload_n 3, 1) := by decide +kernel
theorem dL_back_465 : decode cL_back 465 = .ok (.iconst 1, 1) := by decide +kernel
theorem dL_back_466 : decode cL_back 466 = .ok (.isub, 1) := by decide +kernel
theorem dL_back_467 : decode cL_back 467 = .ok (.if_icmp .ne 67, 3) := by decide +kernel
theorem dL_back_470 : decode cL_back 470 = .ok (.aload_n 0, 1) := by decide +kernel
theorem dL_back_471 : decode cL_back 471 = .ok (.iconst 1, 1) := by decide +kernel
theorem dL_back_472 : decode cL_back 472 = .ok (.invokestatic 187, 3) := by decide +kernel
theorem dL_back_475 : decode cL_back 475 = .ok (.sipush (-1003), 3) := by decide +kernel
theorem dL_back_478 : decode cL_back 478 = .ok (.if_icmp .ne 56, 3) := by decide +kernel
theorem dL_back_481 : decode cL_back 481 = .ok (.aload_n 0, 1) := by decide +kernel
theorem dL_back_482 : decode cL_back 482 = .ok (.iconst 0, 1) := by decide +kernel
theorem dL_back_483 : decode cL_back 483 = .ok (.invokestatic 187, 3) := by decide +kernel
theorem dL_back_486 : decode cL_back 486 = .ok (.iconst 1, 1) := by decide +kernel
theorem dL_back_487 : decode cL_back 487 = .ok (.if_icmp .ne 47, 3) := by decide +kernel
theorem dL_back_490 : decode cL_back 490 = .ok (.aload_n 0, 1) := by decide +kernel
theorem dL_back_491 : decode cL_back 491 = .ok (.sipush (-200), 3) := by decide +kernel
theorem dL_back_494 : decode cL_back 494 = .ok (.invokestatic 121, 3) := by decide +kernel
theorem dL_back_497 : decode cL_back 497 = .ok (.ifCond .ne 37, 3) := by decide +kernel
theorem dL_back_500 : decode cL_back 500 = .ok (.aload_n 0, 1) := by decide +kernel
theorem dL_back_501 : decode cL_back 501 = .ok (.invokestatic 181, 3) := by decide +kernel
theorem dL_back_504 : decode cL_back 504 = .ok (.sipush (-1003), 3) := by decide +kernel
theorem dL_back_507 : decode cL_back 507 = .ok (.if_icmp .ne 27, 3) := by decide +kernel
theorem dL_back_510 : decode cL_back 510 = .ok (.aload_n 0, 1) := by decide +kernel
theorem dL_back_511 : decode cL_back 511 = .ok (.iconst 0, 1) := by decide +kernel
theorem dL_back_512 : decode cL_back 512 = .ok (.invokestatic 187, 3) := by decide +kernel
theorem dL_back_515 : decode cL_back 515 = .ok (.sipush (-1003), 3) := by decide +kernel
theorem dL_back_518 : decode cL_back 518 = .ok (.if_icmp .ne 16, 3) := by decide +kernel
theorem dL_back_521 : decode cL_back 521 = .ok (.aload_n 0, 1) := by decide +kernel
theorem dL_back_522 : decode cL_back 522 = .ok (.iconst 1, 1) := by decide +kernel
theorem dL_back_523 : decode cL_back 523 = .ok (.invokestatic 187, 3) := by decide +kernel
theorem dL_back_526 : decode cL_back 526 = .ok (.iconst 1, 1) := by decide +kernel
theorem dL_back_527 : decode cL_back 527 = .ok (.if_icmp .ne 7, 3) := by decide +kernel
theorem dL_back_530 : decode cL_back 530 = .ok (.iconst 1, 1) := by decide +kernel
theorem dL_back_531 : decode cL_back 531 = .ok (.goto 4, 3) := by decide +kernel
theorem dL_back_534 : decode cL_back 534 = .ok (.iconst 0, 1) := by decide +kernel
theorem dL_back_535 : decode cL_back 535 = .ok (.istore 6, 2) := by decide +kernel
theorem dL_back_537 : decode cL_back 537 = .ok (.iload 6, 2) := by decide +kernel
theorem dL_back_539 : decode cL_back 539 = .ok (.ireturn, 1) := by decide +kernel
theorem dL_scripts_0 : decode cL_scripts 0 = .ok (.aload_n 0, 1) := by decide +kernel
theorem dL_scripts_1 : decode cL_scripts 1 = .ok (.iconst 0, 1) := by decide +kernel
theorem dL_scripts_2 : decode cL_scripts 2 = .ok (.invokestatic 92, 3) := by decide +kernel
theorem dL_scripts_5 : decode cL_scripts 5 = .ok (.istore_n 2, 1) := by decide +kernel
theorem dL_scripts_6 : decode cL_scripts 6 = .ok (.aload_n 0, 1) := by decide +kernel
theorem dL_scripts_7 : decode cL_scripts 7 = .ok (.iconst 2, 1) := by decide +kernel
theorem dL_scripts_8 : decode cL_scripts 8 = .ok (.invokestatic 92, 3) := by decide +kernel
theorem dL_scripts_11 : decode cL_scripts 11 = .ok (.istore_n 3, 1) := by decide +kernel
theorem dL_scripts_12 : decode cL_scripts 12 = .ok (.aload_n 0, 1) := by decide +kernel
theorem dL_scripts_13 : decode cL_scripts 13 = .ok (.iconst 0, 1) := by decide +kernel
theorem dL_scripts_14 : decode cL_scripts 14 = .ok (.invokestatic 112, 3) := by decide +kernel
theorem dL_scripts_17 : decode cL_scripts 17 = .ok (.istore 4, 2) := by decide +kernel
theorem dL_scripts_19 : decode cL_scripts 19 = .ok (.aload_n 0, 1) := by decide +kernel
theorem dL_scripts_20 : decode cL_scripts 20 = .ok (.iconst 1, 1) := by decide +kernel
theorem dL_scripts_21 : decode cL_scripts 21 = .ok (.ldc2_w 191, 3) := by decide +kernel
theorem dL_scripts_24 : decode cL_scripts 24 = .ok (.iload_n 2, 1) := by decide +kernel
theorem dL_scripts_25 : decode cL_scripts 25 = .ok (.i2l, 1) := by decide +kernel
theorem dL_scripts_26 : decode cL_scripts 26 = .ok (.ladd, 1) := by decide +kernel
theorem dL_scripts_27 : decode cL_scripts 27 = .ok (.invokestatic 143, 3) := by decide +kernel
theorem dL_scripts_30 : decode cL_scripts 30 = .ok (.bipush (-9), 2) := by decide +kernel
theorem dL_scripts_32 : decode cL_scripts 32 = .ok (.if_icmp .ne 134, 3) := by decide +kernel
theorem dL_scripts_35 : decode cL_scripts 35 = .ok (.iload_n 3, 1) := by decide +kernel
theorem dL_scripts_36 : decode cL_scripts 36 = .ok (.bipush 99, 2) := by decide +kernel
theorem dL_scripts_38 : decode cL_scripts 38 = .ok (.if_icmp .gt 19, 3) := by decide +kernel
theorem dL_scripts_41 : decode cL_scripts 41 = .ok (.aload_n 0, 1) := by decide +kernel
theorem dL_scripts_42 : decode cL_scripts 42 = .ok (.iconst 1, 1) := by decide +kernel
theorem dL_scripts_43 : decode cL_scripts 43 = .ok (.ldc2_w 193, 3) := by decide +kernel
theorem dL_scripts_46 : decode cL_scripts 46 = .ok (.iload_n 3, 1) := by decide +kernel
theorem dL_scripts_47 : decode cL_scripts 47 = .ok (.i2l, 1) := by decide +kernel
theorem dL_scripts_48 : decode cL_scripts 48 = .ok (.ladd, 1) := by decide +kernel
theorem dL_scripts_49 : decode cL_scripts 49 = .ok (.invokestatic 143, 3) := by decide +kernel
theorem dL_scripts_52 : decode cL_scripts 52 = .ok (.bipush (-9), 2) := by decide +kernel
theorem dL_scripts_54 : decode cL_scripts 54 = .ok (.if_icmp .ne 112, 3) := by decide +kernel
theorem dL_scripts_57 : decode cL_scripts 57 = .ok (.iload 4, 2) := by decide +kernel
theorem dL_scripts_59 : decode cL_scripts 59 = .ok (.bipush 99, 2) := by decide +kernel
theorem dL_scripts_61 : decode cL_scripts 61 = .ok (.if_icmp .gt 20, 3) := by decide +kernel
theorem dL_scripts_64 : decode cL_scripts 64 = .ok (.aload_n 0, 1) := by decide +kernel
theorem dL_scripts_65 : decode cL_scripts 65 = .ok (.iconst 1, 1) := by decide +kernel
theorem dL_scripts_66 : decode cL_scripts 66 = .ok (.ldc2_w 195, 3) := by decide +kernel
theorem dL_scripts_69 : decode cL_scripts 69 = .ok (.iload 4, 2) := by decide +kernel
theorem dL_scripts_71 : decode cL_scripts 71 = .ok (.i2l, 1) := by decide +kernel
theorem dL_scripts_72 : decode cL_scripts 72 = .ok (.ladd, 1) := by decide +kernel
theorem dL_scripts_73 : decode cL_scripts 73 = .ok (.invokestatic 143, 3) := by decide +kernel
theorem dL_scripts_76 : decode cL_scripts 76 = .ok (.bipush (-9), 2) := by decide +kernel
theorem dL_scripts_78 : decode cL_scripts 78 = .ok (.if_icmp .ne 88, 3) := by decide +kernel
theorem dL_scripts_81 : decode cL_scripts 81 = .ok (.aload_n 0, 1) := by decide +kernel
theorem dL_scripts_82 : decode cL_scripts 82 = .ok (.iconst 1, 1) := by decide +kernel
theorem dL_scripts_83 : decode cL_scripts 83 = .ok (.ldc2_w 197, 3) := by decide +kernel
theorem dL_scripts_86 : decode cL_scripts 86 = .ok (.iload_n 2, 1) := by decide +kernel
theorem dL_scripts_87 : decode cL_scripts 87 = .ok (.i2l, 1) := by decide +kernel
theorem dL_scripts_88 : decode cL_scripts 88 = .ok (.ladd, 1) := by decide +kernel
theorem dL_scripts_89 : decode cL_scripts 89 = .ok (.invokestatic 143, 3) := by decide +kernel
theorem dL_scripts_92 : decode cL_scripts 92 = .ok (.ifCond .ne 74, 3) := by decide +kernel
theorem dL_scripts_95 : decode cL_scripts 95 = .ok (.aload_n 0, 1) := by decide +kernel
theorem dL_scripts_96 : decode cL_scripts 96 = .ok (.iconst 1, 1) := by decide +kernel
theorem dL_scripts_97 : decode cL_scripts 97 = .ok (.ldc2_w 199, 3) := by decide +kernel
theorem dL_scripts_100 : decode cL_scripts 100 = .ok (.invokestatic 143, 3) := by decide +kernel
theorem dL_scripts_103 : decode cL_scripts 103 = .ok (.ifCond .ne 63, 3) := by decide +kernel
theorem dL_scripts_106 : decode cL_scripts 106 = .ok (.aload_n 0, 1) := by decide +kernel
theorem dL_scripts_107 : decode cL_scripts 107 = .ok (.iconst 1, 1) := by decide +kernel
theorem dL_scripts_108 : decode cL_scripts 108 = .ok (.ldc2_w 201, 3) := by decide +kernel
theorem dL_scripts_111 : decode cL_scripts 111 = .ok (.invokestatic 143, 3) := by decide +kernel
theorem dL_scripts_114 : decode cL_scripts 114 = .ok (.ifCond .ne 52, 3) := by decide +kernel
theorem dL_scripts_117 : decode cL_scripts 117 = .ok (.aload_n 0, 1) := by decide +kernel
theorem dL_scripts_118 : decode cL_scripts 118 = .ok (.iconst 1, 1) := by decide +kernel
theorem dL_scripts_119 : decode cL_scripts 119 = .ok (.ldc2_w 203, 3) := by decide +kernel
theorem dL_scripts_122 : decode cL_scripts 122 = .ok (.invokestatic 143, 3) := by decide +kernel
theorem dL_scripts_125 : decode cL_scripts 125 = .ok (.ifCond .ne 41, 3) := by decide +kernel
theorem dL_scripts_128 : decode cL_scripts 128 = .ok (.aload_n 0, 1) := by decide +kernel
theorem dL_scripts_129 : decode cL_scripts 129 = .ok (.iconst 1, 1) := by decide +kernel
theorem dL_scripts_130 : decode cL_scripts 130 = .ok (.ldc2_w 205, 3) := by decide +kernel
theorem dL_scripts_133 : decode cL_scripts 133 = .ok (.invokestatic 143, 3) := by decide +kernel
theorem dL_scripts_136 : decode cL_scripts 136 = .ok (.ifCond .ne 30, 3) := by decide +kernel
theorem dL_scripts_139 : decode cL_scripts 139 = .ok (.aload_n 0, 1) := by decide +kernel
theorem dL_scripts_140 : decode cL_scripts 140 = .ok (.iconst 4, 1) := by decide +kernel
theorem dL_scripts_141 : decode cL_scripts 141 = .ok (.ldc2_w 207, 3) := by decide +kernel
theorem dL_scripts_144 : decode cL_scripts 144 = .ok (.invokestatic 143, 3) := by decide +kernel
theorem dL_scripts_147 : decode cL_scripts 147 = .ok (.iload_n 3, 1) := by decide +kernel
theorem dL_scripts_148 : decode cL_scripts 148 = .ok (.sipush 198, 3) := by decide +kernel
theorem dL_scripts_151 : decode cL_scripts 151 = .ok (.if_icmp .le 7, 3) := by decide +kernel
theorem dL_scripts_154 : decode cL_scripts 154 = .ok (.iconst 2, 1) := by decide +kernel
theorem dL_scripts_155 : decode cL_scripts 155 = .ok (.goto 4, 3) := by decide +kernel
theorem dL_scripts_158 : decode cL_scripts 158 = .ok (.iconst 3, 1) := by decide +kernel
theorem dL_scripts_159 : decode cL_scripts 159 = .ok (.if_icmp .ne 7, 3) := by decide +kernel
theorem dL_scripts_162 : decode cL_scripts 162 = .ok (.iconst 1, 1) := by decide +kernel
theorem dL_scripts_163 : decode cL_scripts 163 = .ok (.goto 4, 3) := by decide +kernel
theorem dL_scripts_166 : decode cL_scripts 166 = .ok (.iconst 0, 1) := by decide +kernel
theorem dL_scripts_167 : decode cL_scripts 167 = .ok (.istore 5, 2) := by decide +kernel
theorem dL_scripts_169 : decode cL_scripts 169 = .ok (.aload_n 0, 1) := by decide +kernel
theorem dL_scripts_170 : decode cL_scripts 170 = .ok (.iload_n 1, 1) := by decide +kernel
theorem dL_scripts_171 : decode cL_scripts 171 = .ok (.i2l, 1) := by decide +kernel
theorem dL_scripts_172 : decode cL_scripts 172 = .ok (.ldc2_w 209, 3) := by decide +kernel
theorem dL_scripts_175 : decode cL_scripts 175 = .ok (.lmul, 1) := by decide +kernel
theorem dL_scripts_176 : decode cL_scripts 176 = .ok (.bipush 9, 2) := by decide +kernel
theorem dL_scripts_178 : decode cL_scripts 178 = .ok (.invokestatic 149, 3) := by decide +kernel
theorem dL_scripts_181 : decode cL_scripts 181 = .ok (.istore 6, 2) := by decide +kernel
theorem dL_scripts_183 : decode cL_scripts 183 = .ok (.iload 5, 2) := by decide +kernel
theorem dL_scripts_185 : decode cL_scripts 185 = .ok (.ifCond .eq 40, 3) := by decide +kernel
theorem dL_scripts_188 : decode cL_scripts 188 = .ok (.iload 6, 2) := by decide +kernel
theorem dL_scripts_190 : decode cL_scripts 190 = .ok (.ifCond .lt 35, 3) := by decide +kernel
theorem dL_scripts_193 : decode cL_scripts 193 = .ok (.iload 6, 2) := by decide +kernel
theorem dL_scripts_195 : decode cL_scripts 195 = .ok (.aload_n 0, 1) := by decide +kernel
theorem dL_scripts_196 : decode cL_scripts 196 = .ok (.iload_n 1, 1) := by decide +kernel
theorem dL_scripts_197 : decode cL_scripts 197 = .ok (.i2l, 1) := by decide +kernel
theorem dL_scripts_198 : decode cL_scripts 198 = .ok (.ldc2_w 209, 3) := by decide +kernel
theorem dL_scripts_201 : decode cL_scripts 201 = .ok (.lmul, 1) := by decide +kernel
theorem dL_scripts_202 : decode cL_scripts 202 = .ok (.bipush 9, 2) := by decide +kernel
theorem dL_scripts_204 : decode cL_scripts 204 = .ok (.invokestatic 149, 3) := by decide +kernel
theorem dL_scripts_207 : decode cL_scripts 207 = .ok (.if_icmp .ne 18, 3) := by decide +kernel
theorem dL_scripts_210 : decode cL_scripts 210 = .ok (.iload 6, 2) := by decide +kernel
theorem dL_scripts_212 : decode cL_scripts 212 = .ok (.sipush 1000, 3) := by decide +kernel
theorem dL_scripts_215 : decode cL_scripts 215 = .ok (.idiv, 1) := by decide +kernel
theorem dL_scripts_216 : decode cL_scripts 216 = .ok (.bipush 60, 2) := by decide +kernel
theorem dL_scripts_218 : decode cL_scripts 218 = .ok (.if_icmp .gt 7, 3) := by decide +kernel
theorem dL_scripts_221 : decode cL_scripts 221 = .ok (.iconst 1, 1) := by decide +kernel
theorem dL_scripts_222 : decode cL_scripts 222 = .ok (.goto 4, 3) := by decide +kernel
theorem dL_scripts_225 : decode cL_scripts 225 = .ok (.iconst 0, 1) := by decide +kernel
theorem dL_scripts_226 : decode cL_scripts 226 = .ok (.ireturn, 1) := by decide +kernel
theorem dL_act_0 : decode cL_act 0 = .ok (.iload_n 1, 1) := by decide +kernel
theorem dL_act_1 : decode cL_act 1 = .ok (.bipush 16, 2) := by decide +kernel
theorem dL_act_3 : decode cL_act 3 = .ok (.irem, 1) := by decide +kernel
theorem dL_act_4 : decode cL_act 4 = .ok (.tableswitch 213 0 14 #[76, 76, 76, 76, 85, 85, 85, 95, 107, 123, 128, 157, 162, 167, 208], 76) := by decide +kernel
theorem dL_act_80 : decode cL_act 80 = .ok (.aload_n 0, 1) := by decide +kernel
theorem dL_act_81 : decode cL_act 81 = .ok (.iload_n 2, 1) := by decide +kernel
theorem dL_act_82 : decode cL_act 82 = .ok (.invokestatic 178, 3) := by decide +kernel
theorem dL_act_85 : decode cL_act 85 = .ok (.invokestatic 124, 3) := by decide +kernel
theorem dL_act_88 : decode cL_act 88 = .ok (.ireturn, 1) := by decide +kernel
theorem dL_act_89 : decode cL_act 89 = .ok (.aload_n 0, 1) := by decide +kernel
theorem dL_act_90 : decode cL_act 90 = .ok (.iconst 1, 1) := by decide +kernel
theorem dL_act_91 : decode cL_act 91 = .ok (.iload_n 2, 1) := by decide +kernel
theorem dL_act_92 : decode cL_act 92 = .ok (.iconst 5, 1) := by decide +kernel
theorem dL_act_93 : decode cL_act 93 = .ok (.irem, 1) := by decide +kernel
theorem dL_act_94 : decode cL_act 94 = .ok (.iadd, 1) := by decide +kernel
theorem dL_act_95 : decode cL_act 95 = .ok (.invokestatic 127, 3) := by decide +kernel
theorem dL_act_98 : decode cL_act 98 = .ok (.ireturn, 1) := by decide +kernel
theorem dL_act_99 : decode cL_act 99 = .ok (.aload_n 0, 1) := by decide +kernel
theorem dL_act_100 : decode cL_act 100 = .ok (.iload_n 2, 1) := by decide +kernel
theorem dL_act_101 : decode cL_act 101 = .ok (.bipush 25, 2) := by decide +kernel
theorem dL_act_103 : decode cL_act 103 = .ok (.irem, 1) := by decide +kernel
theorem dL_act_104 : decode cL_act 104 = .ok (.bipush 12, 2) := by decide +kernel
theorem dL_act_106 : decode cL_act 106 = .ok (.isub, 1) := by decide +kernel
theorem dL_act_107 : decode cL_act 107 = .ok (.invokestatic 121, 3) := by decide +kernel
theorem dL_act_110 : decode cL_act 110 = .ok (.ireturn, 1) := by decide +kernel
theorem dL_act_111 : decode cL_act 111 = .ok (.aload_n 0, 1) := by decide +kernel
theorem dL_act_112 : decode cL_act 112 = .ok (.iload_n 2, 1) := by decide +kernel
theorem dL_act_113 : decode cL_act 113 = .ok (.iconst 2, 1) := by decide +kernel
theorem dL_act_114 : decode cL_act 114 = .ok (.irem, 1) := by decide +kernel
theorem dL_act_115 : decode cL_act 115 = .ok (.ifCond .ne 7, 3) := by decide +kernel
theorem dL_act_118 : decode cL_act 118 = .ok (.iconst 1, 1) := by decide +kernel
theorem dL_act_119 : decode cL_act 119 = .ok (.goto 4, 3) := by decide +kernel
theorem dL_act_122 : decode cL_act 122 = .ok (.iconst 0, 1) := by decide +kernel
theorem dL_act_123 : decode cL_act 123 = .ok (.invokestatic 187, 3) := by decide +kernel
theorem dL_act_126 : decode cL_act 126 = .ok (.ireturn, 1) := by decide +kernel
theorem dL_act_127 : decode cL_act 127 = .ok (.aload_n 0, 1) := by decide +kernel
theorem dL_act_128 : decode cL_act 128 = .ok (.invokestatic 184, 3) := by decide +kernel
theorem dL_act_131 : decode cL_act 131 = .ok (.ireturn, 1) := by decide +kernel
theorem dL_act_132 : decode cL_act 132 = .ok (.iload_n 2, 1) := by decide +kernel
theorem dL_act_133 : decode cL_act 133 = .ok (.iconst 3, 1) := by decide +kernel
theorem dL_act_134 : decode cL_act 134 = .ok (.irem, 1) := by decide +kernel
theorem dL_act_135 : decode cL_act 135 = .ok (.ifCond .ne 10, 3) := by decide +kernel
theorem dL_act_138 : decode cL_act 138 = .ok (.aload_n 0, 1) := by decide +kernel
theorem dL_act_139 : decode cL_act 139 = .ok (.invokestatic 181, 3) := by decide +kernel
theorem dL_act_142 : decode cL_act 142 = .ok (.goto 18, 3) := by decide +kernel
theorem dL_act_145 : decode cL_act 145 = .ok (.aload_n 0, 1) := by decide +kernel
theorem dL_act_146 : decode cL_act 146 = .ok (.iload_n 2, 1) := by decide +kernel
theorem dL_act_147 : decode cL_act 147 = .ok (.iconst 2, 1) := by decide +kernel
theorem dL_act_148 : decode cL_act 148 = .ok (.irem, 1) := by decide +kernel
theorem dL_act_149 : decode cL_act 149 = .ok (.ifCond .ne 7, 3) := by decide +kernel
theorem dL_act_152 : decode cL_act 152 = .ok (.iconst 1, 1) := by decide +kernel
theorem dL_act_153 : decode cL_act 153 = .ok (.goto 4, 3) := by decide +kernel
theorem dL_act_156 : decode cL_act 156 = .ok (.iconst 0, 1) := by decide +kernel
theorem dL_act_157 : decode cL_act 157 = .ok (.invokevirtual 211, 3) := by decide +kernel
theorem dL_act_160 : decode cL_act 160 = .ok (.ireturn, 1) := by decide +kernel
theorem dL_act_161 : decode cL_act 161 = .ok (.aload_n 0, 1) := by decide +kernel
theorem dL_act_162 : decode cL_act 162 = .ok (.invokestatic 136, 3) := by decide +kernel
theorem dL_act_165 : decode cL_act 165 = .ok (.ireturn, 1) := by decide +kernel
theorem dL_act_166 : decode cL_act 166 = .ok (.aload_n 0, 1) := by decide +kernel
theorem dL_act_167 : decode cL_act 167 = .ok (.invokestatic 140, 3) := by decide +kernel
theorem dL_act_170 : decode cL_act 170 = .ok (.ireturn, 1) := by decide +kernel
theorem dL_act_171 : decode cL_act 171 = .ok (.iload_n 2, 1) := by decide +kernel
theorem dL_act_172 : decode cL_act 172 = .ok (.iconst 4, 1) := by decide +kernel
theorem dL_act_173 : decode cL_act 173 = .ok (.irem, 1) := by decide +kernel
theorem dL_act_174 : decode cL_act 174 = .ok (.ifCond .ne 24, 3) := by decide +kernel
theorem dL_act_177 : decode cL_act 177 = .ok (.aload_n 0, 1) := by decide +kernel
theorem dL_act_178 : decode cL_act 178 = .ok (.iload_n 2, 1) := by decide +kernel
theorem dL_act_179 : decode cL_act 179 = .ok (.iconst 4, 1) := by decide +kernel
theorem dL_act_180 : decode cL_act 180 = .ok (.idiv, 1) := by decide +kernel
theorem dL_act_181 : decode cL_act 181 = .ok (.invokestatic 178, 3) := by decide +kernel
theorem dL_act_184 : decode cL_act 184 = .ok (.iload_n 2, 1) := by decide +kernel
theorem dL_act_185 : decode cL_act 185 = .ok (.sipush 128, 3) := by decide +kernel
theorem dL_act_188 : decode cL_act 188 = .ok (.idiv, 1) := by decide +kernel
theorem dL_act_189 : decode cL_act 189 = .ok (.invokestatic 178, 3) := by decide +kernel
theorem dL_act_192 : decode cL_act 192 = .ok (.invokestatic 130, 3) := by decide +kernel
theorem dL_act_195 : decode cL_act 195 = .ok (.goto 16, 3) := by decide +kernel
theorem dL_act_198 : decode cL_act 198 = .ok (.aload_n 0, 1) := by decide +kernel
theorem dL_act_199 : decode cL_act 199 = .ok (.iload_n 2, 1) := by decide +kernel
theorem dL_act_200 : decode cL_act 200 = .ok (.iconst 4, 1) := by decide +kernel
theorem dL_act_201 : decode cL_act 201 = .ok (.idiv, 1) := by decide +kernel
theorem dL_act_202 : decode cL_act 202 = .ok (.aload_n 0, 1) := by decide +kernel
theorem dL_act_203 : decode cL_act 203 = .ok (.iconst 1, 1) := by decide +kernel
theorem dL_act_204 : decode cL_act 204 = .ok (.invokestatic 92, 3) := by decide +kernel
theorem dL_act_207 : decode cL_act 207 = .ok (.irem, 1) := by decide +kernel
theorem dL_act_208 : decode cL_act 208 = .ok (.invokestatic 118, 3) := by decide +kernel
theorem dL_act_211 : decode cL_act 211 = .ok (.ireturn, 1) := by decide +kernel
theorem dL_act_212 : decode cL_act 212 = .ok (.aload_n 0, 1) := by decide +kernel
theorem dL_act_213 : decode cL_act 213 = .ok (.invokestatic 175, 3) := by decide +kernel
theorem dL_act_216 : decode cL_act 216 = .ok (.ireturn, 1) := by decide +kernel
theorem dL_act_217 : decode cL_act 217 = .ok (.iload_n 2, 1) := by decide +kernel
theorem dL_act_218 : decode cL_act 218 = .ok (.iconst 2, 1) := by decide +kernel
theorem dL_act_219 : decode cL_act 219 = .ok (.irem, 1) := by decide +kernel
theorem dL_act_220 : decode cL_act 220 = .ok (.ifCond .ne 11, 3) := by decide +kernel
theorem dL_act_223 : decode cL_act 223 = .ok (.aload_n 0, 1) := by decide +kernel
theorem dL_act_224 : decode cL_act 224 = .ok (.iconst 1, 1) := by decide +kernel
theorem dL_act_225 : decode cL_act 225 = .ok (.invokestatic 153, 3) := by decide +kernel
theorem dL_act_228 : decode cL_act 228 = .ok (.goto 8, 3) := by decide +kernel
theorem dL_act_231 : decode cL_act 231 = .ok (.aload_n 0, 1) := by decide +kernel
theorem dL_act_232 : decode cL_act 232 = .ok (.iconst 1, 1) := by decide +kernel
theorem dL_act_233 : decode cL_act 233 = .ok (.invokestatic 156, 3) := by decide +kernel
theorem dL_act_236 : decode cL_act 236 = .ok (.ireturn, 1) := by decide +kernel
theorem dL_law_0 : decode cL_law 0 = .ok (.new 8, 3) := by decide +kernel
theorem dL_law_3 : decode cL_law 3 = .ok (.dup, 1) := by decide +kernel
theorem dL_law_4 : decode cL_law 4 = .ok (.invokespecial 214, 3) := by decide +kernel
theorem dL_law_7 : decode cL_law 7 = .ok (.astore_n 1, 1) := by decide +kernel
theorem dL_law_8 : decode cL_law 8 = .ok (.new 8, 3) := by decide +kernel
theorem dL_law_11 : decode cL_law 11 = .ok (.dup, 1) := by decide +kernel
theorem dL_law_12 : decode cL_law 12 = .ok (.invokespecial 214, 3) := by decide +kernel
theorem dL_law_15 : decode cL_law 15 = .ok (.astore_n 2, 1) := by decide +kernel
theorem dL_law_16 : decode cL_law 16 = .ok (.new 8, 3) := by decide +kernel
theorem dL_law_19 : decode cL_law 19 = .ok (.dup, 1) := by decide +kernel
theorem dL_law_20 : decode cL_law 20 = .ok (.invokespecial 214, 3) := by decide +kernel
theorem dL_law_23 : decode cL_law 23 = .ok (.astore_n 3, 1) := by decide +kernel
theorem dL_law_24 : decode cL_law 24 = .ok (.aload_n 1, 1) := by decide +kernel
theorem dL_law_25 : decode cL_law 25 = .ok (.invokevirtual 169, 3) := by decide +kernel
theorem dL_law_28 : decode cL_law 28 = .ok (.bipush (-9), 2) := by decide +kernel
theorem dL_law_30 : decode cL_law 30 = .ok (.if_icmp .ne 113, 3) := by decide +kernel
theorem dL_law_33 : decode cL_law 33 = .ok (.aload_n 1, 1) := by decide +kernel
theorem dL_law_34 : decode cL_law 34 = .ok (.invokestatic 172, 3) := by decide +kernel
theorem dL_law_37 : decode cL_law 37 = .ok (.ifCond .ne 106, 3) := by decide +kernel
theorem dL_law_40 : decode cL_law 40 = .ok (.aload_n 1, 1) := by decide +kernel
theorem dL_law_41 : decode cL_law 41 = .ok (.invokestatic 175, 3) := by decide +kernel
theorem dL_law_44 : decode cL_law 44 = .ok (.sipush (-1003), 3) := by decide +kernel
theorem dL_law_47 : decode cL_law 47 = .ok (.if_icmp .ne 96, 3) := by decide +kernel
theorem dL_law_50 : decode cL_law 50 = .ok (.aload_n 1, 1) := by decide +kernel
theorem dL_law_51 : decode cL_law 51 = .ok (.invokestatic 184, 3) := by decide +kernel
theorem dL_law_54 : decode cL_law 54 = .ok (.sipush (-1003), 3) := by decide +kernel
theorem dL_law_57 : decode cL_law 57 = .ok (.if_icmp .ne 86, 3) := by decide +kernel
theorem dL_law_60 : decode cL_law 60 = .ok (.aload_n 1, 1) := by decide +kernel
theorem dL_law_61 : decode cL_law 61 = .ok (.iconst 1, 1) := by decide +kernel
theorem dL_law_62 : decode cL_law 62 = .ok (.invokestatic 187, 3) := by decide +kernel
theorem dL_law_65 : decode cL_law 65 = .ok (.sipush (-1003), 3) := by decide +kernel
theorem dL_law_68 : decode cL_law 68 = .ok (.if_icmp .ne 75, 3) := by decide +kernel
theorem dL_law_71 : decode cL_law 71 = .ok (.aload_n 1, 1) := by decide +kernel
theorem dL_law_72 : decode cL_law 72 = .ok (.invokestatic 181, 3) := by decide +kernel
theorem dL_law_75 : decode cL_law 75 = .ok (.sipush (-1003), 3) := by decide +kernel
theorem dL_law_78 : decode cL_law 78 = .ok (.if_icmp .ne 65, 3) := by decide +kernel
theorem dL_law_81 : decode cL_law 81 = .ok (.aload_n 1, 1) := by decide +kernel
theorem dL_law_82 : decode cL_law 82 = .ok (.iconst 0, 1) := by decide +kernel
theorem dL_law_83 : decode cL_law 83 = .ok (.iconst 0, 1) := by decide +kernel
theorem dL_law_84 : decode cL_law 84 = .ok (.invokestatic 133, 3) := by decide +kernel
theorem dL_law_87 : decode cL_law 87 = .ok (.bipush 63, 2) := by decide +kernel
theorem dL_law_89 : decode cL_law 89 = .ok (.if_icmp .ne 54, 3) := by decide +kernel
theorem dL_law_92 : decode cL_law 92 = .ok (.aload_n 1, 1) := by decide +kernel
theorem dL_law_93 : decode cL_law 93 = .ok (.iconst 1, 1) := by decide +kernel
theorem dL_law_94 : decode cL_law 94 = .ok (.invokevirtual 211, 3) := by decide +kernel
theorem dL_law_97 : decode cL_law 97 = .ok (.bipush (-9), 2) := by decide +kernel
theorem dL_law_99 : decode cL_law 99 = .ok (.if_icmp .ne 44, 3) := by decide +kernel
theorem dL_law_102 : decode cL_law 102 = .ok (.aload_n 2, 1) := by decide +kernel
theorem dL_law_103 : decode cL_law 103 = .ok (.invokestatic 215, 3) := by decide +kernel
theorem dL_law_106 : decode cL_law 106 = .ok (.ifCond .eq 37, 3) := by decide +kernel
theorem dL_law_109 : decode cL_law 109 = .ok (.aload_n 1, 1) := by decide +kernel
theorem dL_law_110 : decode cL_law 110 = .ok (.aload_n 2, 1) := by decide +kernel
theorem dL_law_111 : decode cL_law 111 = .ok (.invokestatic 219, 3) := by decide +kernel
theorem dL_law_114 : decode cL_law 114 = .ok (.ifCond .eq 29, 3) := by decide +kernel
theorem dL_law_117 : decode cL_law 117 = .ok (.aload_n 1, 1) := by decide +kernel
theorem dL_law_118 : decode cL_law 118 = .ok (.invokestatic 222, 3) := by decide +kernel
theorem dL_law_121 : decode cL_law 121 = .ok (.ifCond .eq 22, 3) := by decide +kernel
theorem dL_law_124 : decode cL_law 124 = .ok (.aload_n 1, 1) := by decide +kernel
theorem dL_law_125 : decode cL_law 125 = .ok (.invokestatic 225, 3) := by decide +kernel
theorem dL_law_128 : decode cL_law 128 = .ok (.ifCond .eq 15, 3) := by decide +kernel
theorem dL_law_131 : decode cL_law 131 = .ok (.aload_n 1, 1) := by decide +kernel
theorem dL_law_132 : decode cL_law 132 = .ok (.aload_n 3, 1) := by decide +kernel
theorem dL_law_133 : decode cL_law 133 = .ok (.invokestatic 228, 3) := by decide +kernel
theorem dL_law_136 : decode cL_law 136 = .ok (.ifCond .eq 7, 3) := by decide +kernel
theorem dL_law_139 : decode cL_law 139 = .ok (.iconst 1, 1) := by decide +kernel
theorem dL_law_140 : decode cL_law 140 = .ok (.goto 4, 3) := by decide +kernel
theorem dL_law_143 : decode cL_law 143 = .ok (.iconst 0, 1) := by decide +kernel
theorem dL_law_144 : decode cL_law 144 = .ok (.istore 4, 2) := by decide +kernel
theorem dL_law_146 : decode cL_law 146 = .ok (.iconst 0, 1) := by decide +kernel
theorem dL_law_147 : decode cL_law 147 = .ok (.istore 5, 2) := by decide +kernel
theorem dL_law_149 : decode cL_law 149 = .ok (.iload 5, 2) := by decide +kernel
theorem dL_law_151 : decode cL_law 151 = .ok (.bipush 30, 2) := by decide +kernel
theorem dL_law_153 : decode cL_law 153 = .ok (.if_icmp .ge 203, 3) := by decide +kernel
theorem dL_law_156 : decode cL_law 156 = .ok (.iload 4, 2) := by decide +kernel
theorem dL_law_158 : decode cL_law 158 = .ok (.ifCond .eq 198, 3) := by decide +kernel
theorem dL_law_161 : decode cL_law 161 = .ok (.aload_n 0, 1) := by decide +kernel
theorem dL_law_162 : decode cL_law 162 = .ok (.iconst 2, 1) := by decide +kernel
theorem dL_law_163 : decode cL_law 163 = .ok (.iload 5, 2) := by decide +kernel
theorem dL_law_165 : decode cL_law 165 = .ok (.imul, 1) := by decide +kernel
theorem dL_law_166 : decode cL_law 166 = .ok (.invokestatic 231, 3) := by decide +kernel
theorem dL_law_169 : decode cL_law 169 = .ok (.istore 6, 2) := by decide +kernel
theorem dL_law_171 : decode cL_law 171 = .ok (.aload_n 0, 1) := by decide +kernel
theorem dL_law_172 : decode cL_law 172 = .ok (.iconst 2, 1) := by decide +kernel
theorem dL_law_173 : decode cL_law 173 = .ok (.iload 5, 2) := by decide +kernel
theorem dL_law_175 : decode cL_law 175 = .ok (.imul, 1) := by decide +kernel
theorem dL_law_176 : decode cL_law 176 = .ok (.iconst 1, 1) := by decide +kernel
theorem dL_law_177 : decode cL_law 177 = .ok (.iadd, 1) := by decide +kernel
theorem dL_law_178 : decode cL_law 178 = .ok (.invokestatic 231, 3) := by decide +kernel
theorem dL_law_181 : decode cL_law 181 = .ok (.istore 7, 2) := by decide +kernel
theorem dL_law_183 : decode cL_law 183 = .ok (.aload_n 1, 1) := by decide +kernel
theorem dL_law_184 : decode cL_law 184 = .ok (.iload 6, 2) := by decide +kernel
theorem dL_law_186 : decode cL_law 186 = .ok (.iload 7, 2) := by decide +kernel
theorem dL_law_188 : decode cL_law 188 = .ok (.invokestatic 235, 3) := by decide +kernel
theorem dL_law_191 : decode cL_law 191 = .ok (.aload_n 2, 1) := by decide +kernel
theorem dL_law_192 : decode cL_law 192 = .ok (.iload 6, 2) := by decide +kernel
theorem dL_law_194 : decode cL_law 194 = .ok (.iload 7, 2) := by decide +kernel
theorem dL_law_196 : decode cL_law 196 = .ok (.invokestatic 235, 3) := by decide +kernel
theorem dL_law_199 : decode cL_law 199 = .ok (.if_icmp .ne 46, 3) := by decide +kernel
theorem dL_law_202 : decode cL_law 202 = .ok (.aload_n 2, 1) := by decide +kernel
theorem dL_law_203 : decode cL_law 203 = .ok (.invokestatic 215, 3) := by decide +kernel
theorem dL_law_206 : decode cL_law 206 = .ok (.ifCond .eq 39, 3) := by decide +kernel
theorem dL_law_209 : decode cL_law 209 = .ok (.aload_n 1, 1) := by decide +kernel
theorem dL_law_210 : decode cL_law 210 = .ok (.aload_n 2, 1) := by decide +kernel
theorem dL_law_211 : decode cL_law 211 = .ok (.invokestatic 219, 3) := by decide +kernel
theorem dL_law_214 : decode cL_law 214 = .ok (.ifCond .eq 31, 3) := by decide +kernel
theorem dL_law_217 : decode cL_law 217 = .ok (.aload_n 1, 1) := by decide +kernel
theorem dL_law_218 : decode cL_law 218 = .ok (.invokestatic 222, 3) := by decide +kernel
theorem dL_law_221 : decode cL_law 221 = .ok (.ifCond .eq 24, 3) := by decide +kernel
theorem dL_law_224 : decode cL_law 224 = .ok (.iload 5, 2) := by decide +kernel
theorem dL_law_226 : decode cL_law 226 = .ok (.bipush 10, 2) := by decide +kernel
theorem dL_law_228 : decode cL_law 228 = .ok (.irem, 1) := by decide +kernel
theorem dL_law_229 : decode cL_law 229 = .ok (.bipush 9, 2) := by decide +kernel
theorem dL_law_231 : decode cL_law 231 = .ok (.if_icmp .ne 10, 3) := by decide +kernel
theorem dL_law_234 : decode cL_law 234 = .ok (.aload_n 1, 1) := by decide +kernel
theorem dL_law_235 : decode cL_law 235 = .ok (.invokestatic 225, 3) := by decide +kernel
theorem dL_law_238 : decode cL_law 238 = .ok (.ifCond .eq 7, 3) := by decide +kernel
theorem dL_law_241 : decode cL_law 241 = .ok (.iconst 1, 1) := by decide +kernel
theorem dL_law_242 : decode cL_law 242 = .ok (.goto 4, 3) := by decide +kernel
theorem dL_law_245 : decode cL_law 245 = .ok (.iconst 0, 1) := by decide +kernel
theorem dL_law_246 : decode cL_law 246 = .ok (.istore 4, 2) := by decide +kernel
theorem dL_law_248 : decode cL_law 248 = .ok (.iload 4, 2) := by decide +kernel
theorem dL_law_250 : decode cL_law 250 = .ok (.ifCond .eq 97, 3) := by decide +kernel
theorem dL_law_253 : decode cL_law 253 = .ok (.iload 5, 2) := by decide +kernel
theorem dL_law_255 : decode cL_law 255 = .ok (.iconst 5, 1) := by decide +kernel
theorem dL_law_256 : decode cL_law 256 = .ok (.irem, 1) := by decide +kernel
theorem dL_law_257 : decode cL_law 257 = .ok (.iconst 4, 1) := by decide +kernel
theorem dL_law_258 : decode cL_law 258 = .ok (.if_icmp .ne 85, 3) := by decide +kernel
theorem dL_law_261 : decode cL_law 261 = .ok (.aload_n 1, 1) := by decide +kernel
theorem dL_law_262 : decode cL_law 262 = .ok (.aload_n 3, 1) := by decide +kernel
theorem dL_law_263 : decode cL_law 263 = .ok (.invokestatic 228, 3) := by decide +kernel
theorem dL_law_266 : decode cL_law 266 = .ok (.ifCond .eq 81, 3) := by decide +kernel
theorem dL_law_269 : decode cL_law 269 = .ok (.aload_n 1, 1) := by decide +kernel
theorem dL_law_270 : decode cL_law 270 = .ok (.iconst 0, 1) := by decide +kernel
theorem dL_law_271 : decode cL_law 271 = .ok (.invokestatic 153, 3) := by decide +kernel
theorem dL_law_274 : decode cL_law 274 = .ok (.aload_n 2, 1) := by decide +kernel
theorem dL_law_275 : decode cL_law 275 = .ok (.iconst 0, 1) := by decide +kernel
theorem dL_law_276 : decode cL_law 276 = .ok (.invokestatic 153, 3) := by decide +kernel
theorem dL_law_279 : decode cL_law 279 = .ok (.if_icmp .ne 68, 3) := by decide +kernel
theorem dL_law_282 : decode cL_law 282 = .ok (.aload_n 1, 1) := by decide +kernel
theorem dL_law_283 : decode cL_law 283 = .ok (.iload 7, 2) := by decide +kernel
theorem dL_law_285 : decode cL_law 285 = .ok (.invokestatic 238, 3) := by decide +kernel
theorem dL_law_288 : decode cL_law 288 = .ok (.ifCond .eq 59, 3) := by decide +kernel
theorem dL_law_291 : decode cL_law 291 = .ok (.aload_n 1, 1) := by decide +kernel
theorem dL_law_292 : decode cL_law 292 = .ok (.aload_n 2, 1) := by decide +kernel
theorem dL_law_293 : decode cL_law 293 = .ok (.iload 7, 2) := by decide +kernel
theorem dL_law_295 : decode cL_law 295 = .ok (.invokestatic 242, 3) := by decide +kernel
theorem dL_law_298 : decode cL_law 298 = .ok (.ifCond .eq 49, 3) := by decide +kernel
theorem dL_law_301 : decode cL_law 301 = .ok (.aload_n 1, 1) := by decide +kernel
theorem dL_law_302 : decode cL_law 302 = .ok (.iconst 0, 1) := by decide +kernel
theorem dL_law_303 : decode cL_law 303 = .ok (.invokestatic 156, 3) := by decide +kernel
theorem dL_law_306 : decode cL_law 306 = .ok (.ifCond .lt 41, 3) := by decide +kernel
theorem dL_law_309 : decode cL_law 309 = .ok (.aload_n 2, 1) := by decide +kernel
theorem dL_law_310 : decode cL_law 310 = .ok (.iconst 0, 1) := by decide +kernel
theorem dL_law_311 : decode cL_law 311 = .ok (.invokestatic 156, 3) := by decide +kernel
theorem dL_law_314 : decode cL_law 314 = .ok (.ifCond .lt 33, 3) := by decide +kernel
theorem dL_law_317 : decode cL_law 317 = .ok (.aload_n 1, 1) := by decide +kernel
theorem dL_law_318 : decode cL_law 318 = .ok (.invokestatic 175, 3) := by decide +kernel
theorem dL_law_321 : decode cL_law 321 = .ok (.sipush (-1003), 3) := by decide +kernel
theorem dL_law_324 : decode cL_law 324 = .ok (.if_icmp .ne 23, 3) := by decide +kernel
theorem dL_law_327 : decode cL_law 327 = .ok (.aload_n 1, 1) := by decide +kernel
theorem dL_law_328 : decode cL_law 328 = .ok (.aload_n 2, 1) := by decide +kernel
theorem dL_law_329 : decode cL_law 329 = .ok (.invokestatic 102, 3) := by decide +kernel
theorem dL_law_332 : decode cL_law 332 = .ok (.ifCond .eq 15, 3) := by decide +kernel
theorem dL_law_335 : decode cL_law 335 = .ok (.aload_n 1, 1) := by decide +kernel
theorem dL_law_336 : decode cL_law 336 = .ok (.aload_n 2, 1) := by decide +kernel
theorem dL_law_337 : decode cL_law 337 = .ok (.invokestatic 246, 3) := by decide +kernel
theorem dL_law_340 : decode cL_law 340 = .ok (.ifCond .eq 7, 3) := by decide +kernel
theorem dL_law_343 : decode cL_law 343 = .ok (.iconst 1, 1) := by decide +kernel
theorem dL_law_344 : decode cL_law 344 = .ok (.goto 4, 3) := by decide +kernel
theorem dL_law_347 : decode cL_law 347 = .ok (.iconst 0, 1) := by decide +kernel
theorem dL_law_348 : decode cL_law 348 = .ok (.istore 4, 2) := by decide +kernel
theorem dL_law_350 : decode cL_law 350 = .ok (.iinc 5 1, 3) := by decide +kernel
theorem dL_law_353 : decode cL_law 353 = .ok (.goto (-204), 3) := by decide +kernel
theorem dL_law_356 : decode cL_law 356 = .ok (.iload 4, 2) := by decide +kernel
theorem dL_law_358 : decode cL_law 358 = .ok (.ireturn, 1) := by decide +kernel
theorem dL_clipped_0 : decode cL_clipped 0 = .ok (.aload_n 0, 1) := by decide +kernel
theorem dL_clipped_1 : decode cL_clipped 1 = .ok (.iconst 0, 1) := by decide +kernel
theorem dL_clipped_2 : decode cL_clipped 2 = .ok (.invokestatic 92, 3) := by decide +kernel
theorem dL_clipped_5 : decode cL_clipped 5 = .ok (.ifCond .ne 22, 3) := by decide +kernel
theorem dL_clipped_8 : decode cL_clipped 8 = .ok (.aload_n 0, 1) := by decide +kernel
theorem dL_clipped_9 : decode cL_clipped 9 = .ok (.iconst 5, 1) := by decide +kernel
theorem dL_clipped_10 : decode cL_clipped 10 = .ok (.invokestatic 92, 3) := by decide +kernel
theorem dL_clipped_13 : decode cL_clipped 13 = .ok (.aload_n 1, 1) := by decide +kernel
theorem dL_clipped_14 : decode cL_clipped 14 = .ok (.iconst 5, 1) := by decide +kernel
theorem dL_clipped_15 : decode cL_clipped 15 = .ok (.invokestatic 92, 3) := by decide +kernel
theorem dL_clipped_18 : decode cL_clipped 18 = .ok (.if_icmp .ne 7, 3) := by decide +kernel
theorem dL_clipped_21 : decode cL_clipped 21 = .ok (.iconst 1, 1) := by decide +kernel
theorem dL_clipped_22 : decode cL_clipped 22 = .ok (.goto 4, 3) := by decide +kernel
theorem dL_clipped_25 : decode cL_clipped 25 = .ok (.iconst 0, 1) := by decide +kernel
theorem dL_clipped_26 : decode cL_clipped 26 = .ok (.ireturn, 1) := by decide +kernel
theorem dL_clipped_27 : decode cL_clipped 27 = .ok (.iconst 0, 1) := by decide +kernel
theorem dL_clipped_28 : decode cL_clipped 28 = .ok (.istore_n 2, 1) := by decide +kernel
theorem dL_clipped_29 : decode cL_clipped 29 = .ok (.aload_n 1, 1) := by decide +kernel
theorem dL_clipped_30 : decode cL_clipped 30 = .ok (.invokestatic 184, 3) := by decide +kernel
theorem dL_clipped_33 : decode cL_clipped 33 = .ok (.sipush (-1003), 3) := by decide +kernel
theorem dL_clipped_36 : decode cL_clipped 36 = .ok (.if_icmp .eq 15, 3) := by decide +kernel
theorem dL_clipped_39 : decode cL_clipped 39 = .ok (.iload_n 2, 1) := by decide +kernel
theorem dL_clipped_40 : decode cL_clipped 40 = .ok (.bipush 20, 2) := by decide +kernel
theorem dL_clipped_42 : decode cL_clipped 42 = .ok (.if_icmp .ge 9, 3) := by decide +kernel
theorem dL_clipped_45 : decode cL_clipped 45 = .ok (.iinc 2 1, 3) := by decide +kernel
theorem dL_clipped_48 : decode cL_clipped 48 = .ok (.goto (-19), 3) := by decide +kernel
theorem dL_clipped_51 : decode cL_clipped 51 = .ok (.aload_n 1, 1) := by decide +kernel
theorem dL_clipped_52 : decode cL_clipped 52 = .ok (.invokestatic 136, 3) := by decide +kernel
theorem dL_clipped_55 : decode cL_clipped 55 = .ok (.aload_n 0, 1) := by decide +kernel
theorem dL_clipped_56 : decode cL_clipped 56 = .ok (.iconst 5, 1) := by decide +kernel
theorem dL_clipped_57 : decode cL_clipped 57 = .ok (.invokestatic 92, 3) := by decide +kernel
theorem dL_clipped_60 : decode cL_clipped 60 = .ok (.if_icmp .ne 23, 3) := by decide +kernel
theorem dL_clipped_63 : decode cL_clipped 63 = .ok (.aload_n 1, 1) := by decide +kernel
theorem dL_clipped_64 : decode cL_clipped 64 = .ok (.iconst 0, 1) := by decide +kernel
theorem dL_clipped_65 : decode cL_clipped 65 = .ok (.invokestatic 156, 3) := by decide +kernel
theorem dL_clipped_68 : decode cL_clipped 68 = .ok (.ifCond .lt 15, 3) := by decide +kernel
theorem dL_clipped_71 : decode cL_clipped 71 = .ok (.aload_n 0, 1) := by decide +kernel
theorem dL_clipped_72 : decode cL_clipped 72 = .ok (.aload_n 1, 1) := by decide +kernel
theorem dL_clipped_73 : decode cL_clipped 73 = .ok (.invokestatic 219, 3) := by decide +kernel
theorem dL_clipped_76 : decode cL_clipped 76 = .ok (.ifCond .eq 7, 3) := by decide +kernel
theorem dL_clipped_79 : decode cL_clipped 79 = .ok (.iconst 1, 1) := by decide +kernel
theorem dL_clipped_80 : decode cL_clipped 80 = .ok (.goto 4, 3) := by decide +kernel
theorem dL_clipped_83 : decode cL_clipped 83 = .ok (.iconst 0, 1) := by decide +kernel
theorem dL_clipped_84 : decode cL_clipped 84 = .ok (.ireturn, 1) := by decide +kernel

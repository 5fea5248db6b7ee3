theorem dX7_moveTo_33 : decode cX7_moveTo 33 = .ok (.iload_n 1, 1) := by decide +kernel
theorem dX7_moveTo_34 : decode cX7_moveTo 34 = .ok (.invokevirtual 114, 3) := by decide +kernel
theorem dX7_moveTo_37 : decode cX7_moveTo 37 = .ok (.iload_n 2, 1) := by decide +kernel
theorem dX7_moveTo_38 : decode cX7_moveTo 38 = .ok (.ireturn, 1) := by decide +kernel
theorem dX7_moveBy_0 : decode cX7_moveBy 0 = .ok (.iload_n 1, 1) := by decide +kernel
theorem dX7_moveBy_1 : decode cX7_moveBy 1 = .ok (.sipush (-200), 3) := by decide +kernel
theorem dX7_moveBy_4 : decode cX7_moveBy 4 = .ok (.if_icmp .lt 10, 3) := by decide +kernel
theorem dX7_moveBy_7 : decode cX7_moveBy 7 = .ok (.iload_n 1, 1) := by decide +kernel
theorem dX7_moveBy_8 : decode cX7_moveBy 8 = .ok (.sipush 200, 3) := by decide +kernel
theorem dX7_moveBy_11 : decode cX7_moveBy 11 = .ok (.if_icmp .le 13, 3) := by decide +kernel
theorem dX7_moveBy_14 : decode cX7_moveBy 14 = .ok (.new 66, 3) := by decide +kernel
theorem dX7_moveBy_17 : decode cX7_moveBy 17 = .ok (.dup, 1) := by decide +kernel
theorem dX7_moveBy_18 : decode cX7_moveBy 18 = .ok (.ldc 189, 2) := by decide +kernel
theorem dX7_moveBy_20 : decode cX7_moveBy 20 = .ok (.invokespecial 70, 3) := by decide +kernel
theorem dX7_moveBy_23 : decode cX7_moveBy 23 = .ok (.athrow, 1) := by decide +kernel
theorem dX7_moveBy_24 : decode cX7_moveBy 24 = .ok (.aload_n 0, 1) := by decide +kernel
theorem dX7_moveBy_25 : decode cX7_moveBy 25 = .ok (.getfield 12, 3) := by decide +kernel
theorem dX7_moveBy_28 : decode cX7_moveBy 28 = .ok (.iload_n 1, 1) := by decide +kernel
theorem dX7_moveBy_29 : decode cX7_moveBy 29 = .ok (.invokevirtual 191, 3) := by decide +kernel
theorem dX7_moveBy_32 : decode cX7_moveBy 32 = .ok (.aload_n 0, 1) := by decide +kernel
theorem dX7_moveBy_33 : decode cX7_moveBy 33 = .ok (.getfield 12, 3) := by decide +kernel
theorem dX7_moveBy_36 : decode cX7_moveBy 36 = .ok (.getfield 128, 3) := by decide +kernel
theorem dX7_moveBy_39 : decode cX7_moveBy 39 = .ok (.ireturn, 1) := by decide +kernel
theorem dX7_moveVertically_0 : decode cX7_moveVertically 0 = .ok (.aload_n 0, 1) := by decide +kernel
theorem dX7_moveVertically_1 : decode cX7_moveVertically 1 = .ok (.getfield 12, 3) := by decide +kernel
theorem dX7_moveVertically_4 : decode cX7_moveVertically 4 = .ok (.iload_n 1, 1) := by decide +kernel
theorem dX7_moveVertically_5 : decode cX7_moveVertically 5 = .ok (.invokevirtual 194, 3) := by decide +kernel
theorem dX7_moveVertically_8 : decode cX7_moveVertically 8 = .ok (.istore_n 2, 1) := by decide +kernel
theorem dX7_moveVertically_9 : decode cX7_moveVertically 9 = .ok (.iload_n 2, 1) := by decide +kernel
theorem dX7_moveVertically_10 : decode cX7_moveVertically 10 = .ok (.bipush (-9), 2) := by decide +kernel
theorem dX7_moveVertically_12 : decode cX7_moveVertically 12 = .ok (.if_icmp .eq 11, 3) := by decide +kernel
theorem dX7_moveVertically_15 : decode cX7_moveVertically 15 = .ok (.aload_n 0, 1) := by decide +kernel
theorem dX7_moveVertically_16 : decode cX7_moveVertically 16 = .ok (.getfield 12, 3) := by decide +kernel
theorem dX7_moveVertically_19 : decode cX7_moveVertically 19 = .ok (.iload_n 2, 1) := by decide +kernel
theorem dX7_moveVertically_20 : decode cX7_moveVertically 20 = .ok (.invokevirtual 114, 3) := by decide +kernel
theorem dX7_moveVertically_23 : decode cX7_moveVertically 23 = .ok (.iload_n 2, 1) := by decide +kernel
theorem dX7_moveVertically_24 : decode cX7_moveVertically 24 = .ok (.ireturn, 1) := by decide +kernel
theorem dX7_extend_0 : decode cX7_extend 0 = .ok (.iload_n 1, 1) := by decide +kernel
theorem dX7_extend_1 : decode cX7_extend 1 = .ok (.ifCond .eq 13, 3) := by decide +kernel
theorem dX7_extend_4 : decode cX7_extend 4 = .ok (.aload_n 0, 1) := by decide +kernel
theorem dX7_extend_5 : decode cX7_extend 5 = .ok (.getfield 12, 3) := by decide +kernel
theorem dX7_extend_8 : decode cX7_extend 8 = .ok (.invokevirtual 198, 3) := by decide +kernel
theorem dX7_extend_11 : decode cX7_extend 11 = .ok (.goto 10, 3) := by decide +kernel
theorem dX7_extend_14 : decode cX7_extend 14 = .ok (.aload_n 0, 1) := by decide +kernel
theorem dX7_extend_15 : decode cX7_extend 15 = .ok (.getfield 12, 3) := by decide +kernel
theorem dX7_extend_18 : decode cX7_extend 18 = .ok (.invokevirtual 201, 3) := by decide +kernel
theorem dX7_extend_21 : decode cX7_extend 21 = .ok (.istore_n 2, 1) := by decide +kernel
theorem dX7_extend_22 : decode cX7_extend 22 = .ok (.iload_n 2, 1) := by decide +kernel
theorem dX7_extend_23 : decode cX7_extend 23 = .ok (.ifCond .ne 13, 3) := by decide +kernel
theorem dX7_extend_26 : decode cX7_extend 26 = .ok (.new 77, 3) := by decide +kernel
theorem dX7_extend_29 : decode cX7_extend 29 = .ok (.dup, 1) := by decide +kernel
theorem dX7_extend_30 : decode cX7_extend 30 = .ok (.ldc 204, 2) := by decide +kernel
theorem dX7_extend_32 : decode cX7_extend 32 = .ok (.invokespecial 81, 3) := by decide +kernel
theorem dX7_extend_35 : decode cX7_extend 35 = .ok (.athrow, 1) := by decide +kernel
theorem dX7_extend_36 : decode cX7_extend 36 = .ok (.aload_n 0, 1) := by decide +kernel
theorem dX7_extend_37 : decode cX7_extend 37 = .ok (.getfield 12, 3) := by decide +kernel
theorem dX7_extend_40 : decode cX7_extend 40 = .ok (.invokevirtual 168, 3) := by decide +kernel
theorem dX7_extend_43 : decode cX7_extend 43 = .ok (.ireturn, 1) := by decide +kernel
theorem dX7_grow_0 : decode cX7_grow 0 = .ok (.aload_n 0, 1) := by decide +kernel
theorem dX7_grow_1 : decode cX7_grow 1 = .ok (.getfield 12, 3) := by decide +kernel
theorem dX7_grow_4 : decode cX7_grow 4 = .ok (.invokevirtual 206, 3) := by decide +kernel
theorem dX7_grow_7 : decode cX7_grow 7 = .ok (.ifCond .ne 13, 3) := by decide +kernel
theorem dX7_grow_10 : decode cX7_grow 10 = .ok (.new 77, 3) := by decide +kernel
theorem dX7_grow_13 : decode cX7_grow 13 = .ok (.dup, 1) := by decide +kernel
theorem dX7_grow_14 : decode cX7_grow 14 = .ok (.ldc 209, 2) := by decide +kernel
theorem dX7_grow_16 : decode cX7_grow 16 = .ok (.invokespecial 81, 3) := by decide +kernel
theorem dX7_grow_19 : decode cX7_grow 19 = .ok (.athrow, 1) := by decide +kernel
theorem dX7_grow_20 : decode cX7_grow 20 = .ok (.aload_n 0, 1) := by decide +kernel
theorem dX7_grow_21 : decode cX7_grow 21 = .ok (.getfield 12, 3) := by decide +kernel
theorem dX7_grow_24 : decode cX7_grow 24 = .ok (.invokevirtual 168, 3) := by decide +kernel
theorem dX7_grow_27 : decode cX7_grow 27 = .ok (.ireturn, 1) := by decide +kernel
theorem dX7_copy_0 : decode cX7_copy 0 = .ok (.aload_n 0, 1) := by decide +kernel
theorem dX7_copy_1 : decode cX7_copy 1 = .ok (.getfield 12, 3) := by decide +kernel
theorem dX7_copy_4 : decode cX7_copy 4 = .ok (.invokevirtual 211, 3) := by decide +kernel
theorem dX7_copy_7 : decode cX7_copy 7 = .ok (.ifCond .ne 13, 3) := by decide +kernel
theorem dX7_copy_10 : decode cX7_copy 10 = .ok (.new 77, 3) := by decide +kernel
theorem dX7_copy_13 : decode cX7_copy 13 = .ok (.dup, 1) := by decide +kernel
theorem dX7_copy_14 : decode cX7_copy 14 = .ok (.ldc 214, 2) := by decide +kernel
theorem dX7_copy_16 : decode cX7_copy 16 = .ok (.invokespecial 81, 3) := by decide +kernel
theorem dX7_copy_19 : decode cX7_copy 19 = .ok (.athrow, 1) := by decide +kernel
theorem dX7_copy_20 : decode cX7_copy 20 = .ok (.aload_n 0, 1) := by decide +kernel
theorem dX7_copy_21 : decode cX7_copy 21 = .ok (.getfield 41, 3) := by decide +kernel
theorem dX7_copy_24 : decode cX7_copy 24 = .ok (.aload_n 0, 1) := by decide +kernel
theorem dX7_copy_25 : decode cX7_copy 25 = .ok (.getfield 12, 3) := by decide +kernel
theorem dX7_copy_28 : decode cX7_copy 28 = .ok (.aload_n 0, 1) := by decide +kernel
theorem dX7_copy_29 : decode cX7_copy 29 = .ok (.getfield 12, 3) := by decide +kernel
theorem dX7_copy_32 : decode cX7_copy 32 = .ok (.getfield 174, 3) := by decide +kernel
theorem dX7_copy_35 : decode cX7_copy 35 = .ok (.aload_n 0, 1) := by decide +kernel
theorem dX7_copy_36 : decode cX7_copy 36 = .ok (.getfield 12, 3) := by decide +kernel
theorem dX7_copy_39 : decode cX7_copy 39 = .ok (.getfield 128, 3) := by decide +kernel
theorem dX7_copy_42 : decode cX7_copy 42 = .ok (.invokevirtual 216, 3) := by decide +kernel
theorem dX7_copy_45 : decode cX7_copy 45 = .ok (.aload_n 0, 1) := by decide +kernel
theorem dX7_copy_46 : decode cX7_copy 46 = .ok (.getfield 41, 3) := by decide +kernel
theorem dX7_copy_49 : decode cX7_copy 49 = .ok (.iconst 0, 1) := by decide +kernel
theorem dX7_copy_50 : decode cX7_copy 50 = .ok (.aload_n 0, 1) := by decide +kernel
theorem dX7_copy_51 : decode cX7_copy 51 = .ok (.getfield 41, 3) := by decide +kernel
theorem dX7_copy_54 : decode cX7_copy 54 = .ok (.getfield 98, 3) := by decide +kernel
theorem dX7_copy_57 : decode cX7_copy 57 = .ok (.invokevirtual 101, 3) := by decide +kernel
theorem dX7_copy_60 : decode cX7_copy 60 = .ok (.ireturn, 1) := by decide +kernel
theorem dX7_type_0 : decode cX7_type 0 = .ok (.iload_n 1, 1) := by decide +kernel
theorem dX7_type_1 : decode cX7_type 1 = .ok (.invokestatic 217, 3) := by decide +kernel
theorem dX7_type_4 : decode cX7_type 4 = .ok (.ifCond .ne 13, 3) := by decide +kernel
theorem dX7_type_7 : decode cX7_type 7 = .ok (.new 66, 3) := by decide +kernel
theorem dX7_type_10 : decode cX7_type 10 = .ok (.dup, 1) := by decide +kernel
theorem dX7_type_11 : decode cX7_type 11 = .ok (.ldc 220, 2) := by decide +kernel
theorem dX7_type_13 : decode cX7_type 13 = .ok (.invokespecial 70, 3) := by decide +kernel
theorem dX7_type_16 : decode cX7_type 16 = .ok (.athrow, 1) := by decide +kernel
theorem dX7_type_17 : decode cX7_type 17 = .ok (.aload_n 0, 1) := by decide +kernel
theorem dX7_type_18 : decode cX7_type 18 = .ok (.getfield 12, 3) := by decide +kernel
theorem dX7_type_21 : decode cX7_type 21 = .ok (.invokevirtual 222, 3) := by decide +kernel
theorem dX7_type_24 : decode cX7_type 24 = .ok (.ifCond .ne 13, 3) := by decide +kernel
theorem dX7_type_27 : decode cX7_type 27 = .ok (.new 77, 3) := by decide +kernel
theorem dX7_type_30 : decode cX7_type 30 = .ok (.dup, 1) := by decide +kernel
theorem dX7_type_31 : decode cX7_type 31 = .ok (.ldc 108, 2) := by decide +kernel
theorem dX7_type_33 : decode cX7_type 33 = .ok (.invokespecial 81, 3) := by decide +kernel
theorem dX7_type_36 : decode cX7_type 36 = .ok (.athrow, 1) := by decide +kernel
theorem dX7_type_37 : decode cX7_type 37 = .ok (.aload_n 0, 1) := by decide +kernel
theorem dX7_type_38 : decode cX7_type 38 = .ok (.getfield 32, 3) := by decide +kernel
theorem dX7_type_41 : decode cX7_type 41 = .ok (.aload_n 0, 1) := by decide +kernel
theorem dX7_type_42 : decode cX7_type 42 = .ok (.getfield 12, 3) := by decide +kernel
theorem dX7_type_45 : decode cX7_type 45 = .ok (.invokevirtual 225, 3) := by decide +kernel
theorem dX7_type_48 : decode cX7_type 48 = .ok (.aload_n 0, 1) := by decide +kernel
theorem dX7_type_49 : decode cX7_type 49 = .ok (.getfield 12, 3) := by decide +kernel
theorem dX7_type_52 : decode cX7_type 52 = .ok (.iload_n 1, 1) := by decide +kernel
theorem dX7_type_53 : decode cX7_type 53 = .ok (.invokevirtual 229, 3) := by decide +kernel
theorem dX7_type_56 : decode cX7_type 56 = .ok (.aload_n 0, 1) := by decide +kernel
theorem dX7_type_57 : decode cX7_type 57 = .ok (.getfield 12, 3) := by decide +kernel
theorem dX7_type_60 : decode cX7_type 60 = .ok (.invokevirtual 124, 3) := by decide +kernel
theorem dX7_type_63 : decode cX7_type 63 = .ok (.ireturn, 1) := by decide +kernel
theorem dX7_wrap_0 : decode cX7_wrap 0 = .ok (.iload_n 1, 1) := by decide +kernel
theorem dX7_wrap_1 : decode cX7_wrap 1 = .ok (.invokestatic 232, 3) := by decide +kernel
theorem dX7_wrap_4 : decode cX7_wrap 4 = .ok (.ifCond .ne 13, 3) := by decide +kernel
theorem dX7_wrap_7 : decode cX7_wrap 7 = .ok (.new 66, 3) := by decide +kernel
theorem dX7_wrap_10 : decode cX7_wrap 10 = .ok (.dup, 1) := by decide +kernel
theorem dX7_wrap_11 : decode cX7_wrap 11 = .ok (.ldc 235, 2) := by decide +kernel
theorem dX7_wrap_13 : decode cX7_wrap 13 = .ok (.invokespecial 70, 3) := by decide +kernel
theorem dX7_wrap_16 : decode cX7_wrap 16 = .ok (.athrow, 1) := by decide +kernel
theorem dX7_wrap_17 : decode cX7_wrap 17 = .ok (.aload_n 0, 1) := by decide +kernel
theorem dX7_wrap_18 : decode cX7_wrap 18 = .ok (.getfield 12, 3) := by decide +kernel
theorem dX7_wrap_21 : decode cX7_wrap 21 = .ok (.invokevirtual 237, 3) := by decide +kernel
theorem dX7_wrap_24 : decode cX7_wrap 24 = .ok (.ifCond .ne 13, 3) := by decide +kernel
theorem dX7_wrap_27 : decode cX7_wrap 27 = .ok (.new 77, 3) := by decide +kernel
theorem dX7_wrap_30 : decode cX7_wrap 30 = .ok (.dup, 1) := by decide +kernel
theorem dX7_wrap_31 : decode cX7_wrap 31 = .ok (.ldc 108, 2) := by decide +kernel
theorem dX7_wrap_33 : decode cX7_wrap 33 = .ok (.invokespecial 81, 3) := by decide +kernel
theorem dX7_wrap_36 : decode cX7_wrap 36 = .ok (.athrow, 1) := by decide +kernel
theorem dX7_wrap_37 : decode cX7_wrap 37 = .ok (.aload_n 0, 1) := by decide +kernel
theorem dX7_wrap_38 : decode cX7_wrap 38 = .ok (.getfield 32, 3) := by decide +kernel
theorem dX7_wrap_41 : decode cX7_wrap 41 = .ok (.aload_n 0, 1) := by decide +kernel
theorem dX7_wrap_42 : decode cX7_wrap 42 = .ok (.getfield 12, 3) := by decide +kernel
theorem dX7_wrap_45 : decode cX7_wrap 45 = .ok (.invokevirtual 225, 3) := by decide +kernel
theorem dX7_wrap_48 : decode cX7_wrap 48 = .ok (.aload_n 0, 1) := by decide +kernel
theorem dX7_wrap_49 : decode cX7_wrap 49 = .ok (.getfield 12, 3) := by decide +kernel
theorem dX7_wrap_52 : decode cX7_wrap 52 = .ok (.iload_n 1, 1) := by decide +kernel
theorem dX7_wrap_53 : decode cX7_wrap 53 = .ok (.invokevirtual 240, 3) := by decide +kernel
theorem dX7_wrap_56 : decode cX7_wrap 56 = .ok (.aload_n 0, 1) := by decide +kernel
theorem dX7_wrap_57 : decode cX7_wrap 57 = .ok (.getfield 12, 3) := by decide +kernel
theorem dX7_wrap_60 : decode cX7_wrap 60 = .ok (.getfield 128, 3) := by decide +kernel
theorem dX7_wrap_63 : decode cX7_wrap 63 = .ok (.ireturn, 1) := by decide +kernel
theorem dX7_backspace_0 : decode cX7_backspace 0 = .ok (.aload_n 0, 1) := by decide +kernel
theorem dX7_backspace_1 : decode cX7_backspace 1 = .ok (.getfield 12, 3) := by decide +kernel
theorem dX7_backspace_4 : decode cX7_backspace 4 = .ok (.invokevirtual 243, 3) := by decide +kernel
theorem dX7_backspace_7 : decode cX7_backspace 7 = .ok (.ifCond .ne 13, 3) := by decide +kernel
theorem dX7_backspace_10 : decode cX7_backspace 10 = .ok (.new 77, 3) := by decide +kernel
theorem dX7_backspace_13 : decode cX7_backspace 13 = .ok (.dup, 1) := by decide +kernel
theorem dX7_backspace_14 : decode cX7_backspace 14 = .ok (.ldc 246, 2) := by decide +kernel
theorem dX7_backspace_16 : decode cX7_backspace 16 = .ok (.invokespecial 81, 3) := by decide +kernel
theorem dX7_backspace_19 : decode cX7_backspace 19 = .ok (.athrow, 1) := by decide +kernel
theorem dX7_backspace_20 : decode cX7_backspace 20 = .ok (.aload_n 0, 1) := by decide +kernel
theorem dX7_backspace_21 : decode cX7_backspace 21 = .ok (.getfield 32, 3) := by decide +kernel
theorem dX7_backspace_24 : decode cX7_backspace 24 = .ok (.aload_n 0, 1) := by decide +kernel
theorem dX7_backspace_25 : decode cX7_backspace 25 = .ok (.getfield 12, 3) := by decide +kernel
theorem dX7_backspace_28 : decode cX7_backspace 28 = .ok (.invokevirtual 225, 3) := by decide +kernel
theorem dX7_backspace_31 : decode cX7_backspace 31 = .ok (.aload_n 0, 1) := by decide +kernel
theorem dX7_backspace_32 : decode cX7_backspace 32 = .ok (.getfield 12, 3) := by decide +kernel
theorem dX7_backspace_35 : decode cX7_backspace 35 = .ok (.invokevirtual 124, 3) := by decide +kernel
theorem dX7_backspace_38 : decode cX7_backspace 38 = .ok (.istore_n 1, 1) := by decide +kernel
theorem dX7_backspace_39 : decode cX7_backspace 39 = .ok (.aload_n 0, 1) := by decide +kernel
theorem dX7_backspace_40 : decode cX7_backspace 40 = .ok (.getfield 12, 3) := by decide +kernel
theorem dX7_backspace_43 : decode cX7_backspace 43 = .ok (.invokevirtual 248, 3) := by decide +kernel
theorem dX7_backspace_46 : decode cX7_backspace 46 = .ok (.iload_n 1, 1) := by decide +kernel
theorem dX7_backspace_47 : decode cX7_backspace 47 = .ok (.aload_n 0, 1) := by decide +kernel
theorem dX7_backspace_48 : decode cX7_backspace 48 = .ok (.getfield 12, 3) := by decide +kernel
theorem dX7_backspace_51 : decode cX7_backspace 51 = .ok (.invokevirtual 124, 3) := by decide +kernel
theorem dX7_backspace_54 : decode cX7_backspace 54 = .ok (.isub, 1) := by decide +kernel
theorem dX7_backspace_55 : decode cX7_backspace 55 = .ok (.ireturn, 1) := by decide +kernel
theorem dX7_paste_0 : decode cX7_paste 0 = .ok (.aload_n 0, 1) := by decide +kernel
theorem dX7_paste_1 : decode cX7_paste 1 = .ok (.getfield 41, 3) := by decide +kernel
theorem dX7_paste_4 : decode cX7_paste 4 = .ok (.getfield 98, 3) := by decide +kernel
theorem dX7_paste_7 : decode cX7_paste 7 = .ok (.ifCond .ne 13, 3) := by decide +kernel
theorem dX7_paste_10 : decode cX7_paste 10 = .ok (.new 77, 3) := by decide +kernel
theorem dX7_paste_13 : decode cX7_paste 13 = .ok (.dup, 1) := by decide +kernel
theorem dX7_paste_14 : decode cX7_paste 14 = .ok (.ldc 251, 2) := by decide +kernel
theorem dX7_paste_16 : decode cX7_paste 16 = .ok (.invokespecial 81, 3) := by decide +kernel
theorem dX7_paste_19 : decode cX7_paste 19 = .ok (.athrow, 1) := by decide +kernel
theorem dX7_paste_20 : decode cX7_paste 20 = .ok (.aload_n 0, 1) := by decide +kernel
theorem dX7_paste_21 : decode cX7_paste 21 = .ok (.getfield 12, 3) := by decide +kernel
theorem dX7_paste_24 : decode cX7_paste 24 = .ok (.aload_n 0, 1) := by decide +kernel
theorem dX7_paste_25 : decode cX7_paste 25 = .ok (.getfield 41, 3) := by decide +kernel
theorem dX7_paste_28 : decode cX7_paste 28 = .ok (.invokevirtual 253, 3) := by decide +kernel
theorem dX7_paste_31 : decode cX7_paste 31 = .ok (.ifCond .ne 13, 3) := by decide +kernel
theorem dX7_paste_34 : decode cX7_paste 34 = .ok (.new 77, 3) := by decide +kernel
theorem dX7_paste_37 : decode cX7_paste 37 = .ok (.dup, 1) := by decide +kernel
theorem dX7_paste_38 : decode cX7_paste 38 = .ok (.ldc 108, 2) := by decide +kernel
theorem dX7_paste_40 : decode cX7_paste 40 = .ok (.invokespecial 81, 3) := by decide +kernel
theorem dX7_paste_43 : decode cX7_paste 43 = .ok (.athrow, 1) := by decide +kernel
theorem dX7_paste_44 : decode cX7_paste 44 = .ok (.aload_n 0, 1) := by decide +kernel
theorem dX7_paste_45 : decode cX7_paste 45 = .ok (.getfield 32, 3) := by decide +kernel
theorem dX7_paste_48 : decode cX7_paste 48 = .ok (.aload_n 0, 1) := by decide +kernel
theorem dX7_paste_49 : decode cX7_paste 49 = .ok (.getfield 12, 3) := by decide +kernel
theorem dX7_paste_52 : decode cX7_paste 52 = .ok (.invokevirtual 225, 3) := by decide +kernel
theorem dX7_paste_55 : decode cX7_paste 55 = .ok (.aload_n 0, 1) := by decide +kernel
theorem dX7_paste_56 : decode cX7_paste 56 = .ok (.getfield 12, 3) := by decide +kernel
theorem dX7_paste_59 : decode cX7_paste 59 = .ok (.aload_n 0, 1) := by decide +kernel
theorem dX7_paste_60 : decode cX7_paste 60 = .ok (.getfield 41, 3) := by decide +kernel
theorem dX7_paste_63 : decode cX7_paste 63 = .ok (.invokevirtual 257, 3) := by decide +kernel
theorem dX7_paste_66 : decode cX7_paste 66 = .ok (.aload_n 0, 1) := by decide +kernel
theorem dX7_paste_67 : decode cX7_paste 67 = .ok (.getfield 12, 3) := by decide +kernel
theorem dX7_paste_70 : decode cX7_paste 70 = .ok (.invokevirtual 124, 3) := by decide +kernel
theorem dX7_paste_73 : decode cX7_paste 73 = .ok (.ireturn, 1) := by decide +kernel
theorem dX7_replace_0 : decode cX7_replace 0 = .ok (.iload_n 1, 1) := by decide +kernel
theorem dX7_replace_1 : decode cX7_replace 1 = .ok (.invokestatic 217, 3) := by decide +kernel
theorem dX7_replace_4 : decode cX7_replace 4 = .ok (.ifCond .eq 10, 3) := by decide +kernel
theorem dX7_replace_7 : decode cX7_replace 7 = .ok (.iload_n 2, 1) := by decide +kernel
theorem dX7_replace_8 : decode cX7_replace 8 = .ok (.invokestatic 217, 3) := by decide +kernel
theorem dX7_replace_11 : decode cX7_replace 11 = .ok (.ifCond .ne 13, 3) := by decide +kernel
theorem dX7_replace_14 : decode cX7_replace 14 = .ok (.new 66, 3) := by decide +kernel
theorem dX7_replace_17 : decode cX7_replace 17 = .ok (.dup, 1) := by decide +kernel
theorem dX7_replace_18 : decode cX7_replace 18 = .ok (.ldc 220, 2) := by decide +kernel
theorem dX7_replace_20 : decode cX7_replace 20 = .ok (.invokespecial 70, 3) := by decide +kernel
theorem dX7_replace_23 : decode cX7_replace 23 = .ok (.athrow, 1) := by decide +kernel
theorem dX7_replace_24 : decode cX7_replace 24 = .ok (.aload_n 0, 1) := by decide +kernel
theorem dX7_replace_25 : decode cX7_replace 25 = .ok (.getfield 32, 3) := by decide +kernel
theorem dX7_replace_28 : decode cX7_replace 28 = .ok (.aload_n 0, 1) := by decide +kernel
theorem dX7_replace_29 : decode cX7_replace 29 = .ok (.getfield 12, 3) := by decide +kernel
theorem dX7_replace_32 : decode cX7_replace 32 = .ok (.invokevirtual 225, 3) := by decide +kernel
theorem dX7_replace_35 : decode cX7_replace 35 = .ok (.aload_n 0, 1) := by decide +kernel
theorem dX7_replace_36 : decode cX7_replace 36 = .ok (.getfield 12, 3) := by decide +kernel
theorem dX7_replace_39 : decode cX7_replace 39 = .ok (.iload_n 1, 1) := by decide +kernel
theorem dX7_replace_40 : decode cX7_replace 40 = .ok (.iload_n 2, 1) := by decide +kernel
theorem dX7_replace_41 : decode cX7_replace 41 = .ok (.invokevirtual 260, 3) := by decide +kernel
theorem dX7_replace_44 : decode cX7_replace 44 = .ok (.ireturn, 1) := by decide +kernel
theorem dX7_undo_0 : decode cX7_undo 0 = .ok (.aload_n 0, 1) := by decide +kernel
theorem dX7_undo_1 : decode cX7_undo 1 = .ok (.getfield 32, 3) := by decide +kernel
theorem dX7_undo_4 : decode cX7_undo 4 = .ok (.getfield 263, 3) := by decide +kernel
theorem dX7_undo_7 : decode cX7_undo 7 = .ok (.ifCond .ne 14, 3) := by decide +kernel
theorem dX7_undo_10 : decode cX7_undo 10 = .ok (.new 77, 3) := by decide +kernel
theorem dX7_undo_13 : decode cX7_undo 13 = .ok (.dup, 1) := by decide +kernel
theorem dX7_undo_14 : decode cX7_undo 14 = .ok (.ldc_w 266, 3) := by decide +kernel
theorem dX7_undo_17 : decode cX7_undo 17 = .ok (.invokespecial 81, 3) := by decide +kernel
theorem dX7_undo_20 : decode cX7_undo 20 = .ok (.athrow, 1) := by decide +kernel
theorem dX7_undo_21 : decode cX7_undo 21 = .ok (.aload_n 0, 1) := by decide +kernel
theorem dX7_undo_22 : decode cX7_undo 22 = .ok (.getfield 32, 3) := by decide +kernel
theorem dX7_undo_25 : decode cX7_undo 25 = .ok (.aload_n 0, 1) := by decide +kernel
theorem dX7_undo_26 : decode cX7_undo 26 = .ok (.getfield 12, 3) := by decide +kernel
theorem dX7_undo_29 : decode cX7_undo 29 = .ok (.invokevirtual 268, 3) := by decide +kernel
theorem dX7_undo_32 : decode cX7_undo 32 = .ok (.aload_n 0, 1) := by decide +kernel
theorem dX7_undo_33 : decode cX7_undo 33 = .ok (.getfield 32, 3) := by decide +kernel
theorem dX7_undo_36 : decode cX7_undo 36 = .ok (.getfield 263, 3) := by decide +kernel
theorem dX7_undo_39 : decode cX7_undo 39 = .ok (.ireturn, 1) := by decide +kernel
theorem dX7_drawing_0 : decode cX7_drawing 0 = .ok (.aload_n 0, 1) := by decide +kernel
theorem dX7_drawing_1 : decode cX7_drawing 1 = .ok (.getfield 62, 3) := by decide +kernel
theorem dX7_drawing_4 : decode cX7_drawing 4 = .ok (.aload_n 0, 1) := by decide +kernel
theorem dX7_drawing_5 : decode cX7_drawing 5 = .ok (.getfield 12, 3) := by decide +kernel
theorem dX7_drawing_8 : decode cX7_drawing 8 = .ok (.invokevirtual 271, 3) := by decide +kernel
theorem dX7_drawing_11 : decode cX7_drawing 11 = .ok (.iload_n 1, 1) := by decide +kernel
theorem dX7_drawing_12 : decode cX7_drawing 12 = .ok (.tableswitch 55 0 2 #[28, 37, 46], 28) := by decide +kernel
theorem dX7_drawing_40 : decode cX7_drawing 40 = .ok (.aload_n 0, 1) := by decide +kernel
theorem dX7_drawing_41 : decode cX7_drawing 41 = .ok (.getfield 62, 3) := by decide +kernel
theorem dX7_drawing_44 : decode cX7_drawing 44 = .ok (.iconst 0, 1) := by decide +kernel
theorem dX7_drawing_45 : decode cX7_drawing 45 = .ok (.invokevirtual 274, 3) := by decide +kernel
theorem dX7_drawing_48 : decode cX7_drawing 48 = .ok (.ireturn, 1) := by decide +kernel
theorem dX7_drawing_49 : decode cX7_drawing 49 = .ok (.aload_n 0, 1) := by decide +kernel
theorem dX7_drawing_50 : decode cX7_drawing 50 = .ok (.getfield 62, 3) := by decide +kernel
theorem dX7_drawing_53 : decode cX7_drawing 53 = .ok (.iconst 0, 1) := by decide +kernel
theorem dX7_drawing_54 : decode cX7_drawing 54 = .ok (.invokevirtual 277, 3) := by decide +kernel
theorem dX7_drawing_57 : decode cX7_drawing 57 = .ok (.ireturn, 1) := by decide +kernel
theorem dX7_drawing_58 : decode cX7_drawing 58 = .ok (.aload_n 0, 1) := by decide +kernel
theorem dX7_drawing_59 : decode cX7_drawing 59 = .ok (.getfield 62, 3) := by decide +kernel
theorem dX7_drawing_62 : decode cX7_drawing 62 = .ok (.iconst 0, 1) := by decide +kernel
theorem dX7_drawing_63 : decode cX7_drawing 63 = .ok (.invokevirtual 280, 3) := by decide +kernel
theorem dX7_drawing_66 : decode cX7_drawing 66 = .ok (.ireturn, 1) := by decide +kernel
theorem dX7_drawing_67 : decode cX7_drawing 67 = .ok (.new 66, 3) := by decide +kernel
theorem dX7_drawing_70 : decode cX7_drawing 70 = .ok (.dup, 1) := by decide +kernel
theorem dX7_drawing_71 : decode cX7_drawing 71 = .ok (.ldc 177, 2) := by decide +kernel
theorem dX7_drawing_73 : decode cX7_drawing 73 = .ok (.invokespecial 70, 3) := by decide +kernel
theorem dX7_drawing_76 : decode cX7_drawing 76 = .ok (.athrow, 1) := by decide +kernel
theorem dX7_drawn_0 : decode cX7_drawn 0 = .ok (.aload_n 0, 1) := by decide +kernel
theorem dX7_drawn_1 : decode cX7_drawn 1 = .ok (.getfield 62, 3) := by decide +kernel
theorem dX7_drawn_4 : decode cX7_drawn 4 = .ok (.aload_n 0, 1) := by decide +kernel
theorem dX7_drawn_5 : decode cX7_drawn 5 = .ok (.getfield 12, 3) := by decide +kernel
theorem dX7_drawn_8 : decode cX7_drawn 8 = .ok (.invokevirtual 271, 3) := by decide +kernel
theorem dX7_drawn_11 : decode cX7_drawn 11 = .ok (.iload_n 1, 1) := by decide +kernel
theorem dX7_drawn_12 : decode cX7_drawn 12 = .ok (.ifCond .lt 31, 3) := by decide +kernel
theorem dX7_drawn_15 : decode cX7_drawn 15 = .ok (.iload_n 1, 1) := by decide +kernel
theorem dX7_drawn_16 : decode cX7_drawn 16 = .ok (.aload_n 0, 1) := by decide +kernel
theorem dX7_drawn_17 : decode cX7_drawn 17 = .ok (.getfield 62, 3) := by decide +kernel
theorem dX7_drawn_20 : decode cX7_drawn 20 = .ok (.iconst 0, 1) := by decide +kernel
theorem dX7_drawn_21 : decode cX7_drawn 21 = .ok (.invokevirtual 274, 3) := by decide +kernel
theorem dX7_drawn_24 : decode cX7_drawn 24 = .ok (.if_icmp .ge 19, 3) := by decide +kernel
theorem dX7_drawn_27 : decode cX7_drawn 27 = .ok (.iload_n 2, 1) := by decide +kernel
theorem dX7_drawn_28 : decode cX7_drawn 28 = .ok (.ifCond .lt 15, 3) := by decide +kernel
theorem dX7_drawn_31 : decode cX7_drawn 31 = .ok (.iload_n 2, 1) := by decide +kernel
theorem dX7_drawn_32 : decode cX7_drawn 32 = .ok (.aload_n 0, 1) := by decide +kernel
theorem dX7_drawn_33 : decode cX7_drawn 33 = .ok (.getfield 62, 3) := by decide +kernel
theorem dX7_drawn_36 : decode cX7_drawn 36 = .ok (.iconst 0, 1) := by decide +kernel
theorem dX7_drawn_37 : decode cX7_drawn 37 = .ok (.invokevirtual 277, 3) := by decide +kernel
theorem dX7_drawn_40 : decode cX7_drawn 40 = .ok (.if_icmp .lt 14, 3) := by decide +kernel
theorem dX7_drawn_43 : decode cX7_drawn 43 = .ok (.new 141, 3) := by decide +kernel
theorem dX7_drawn_46 : decode cX7_drawn 46 = .ok (.dup, 1) := by decide +kernel
theorem dX7_drawn_47 : decode cX7_drawn 47 = .ok (.ldc_w 283, 3) := by decide +kernel
theorem dX7_drawn_50 : decode cX7_drawn 50 = .ok (.invokespecial 145, 3) := by decide +kernel
theorem dX7_drawn_53 : decode cX7_drawn 53 = .ok (.athrow, 1) := by decide +kernel
theorem dX7_drawn_54 : decode cX7_drawn 54 = .ok (.aload_n 0, 1) := by decide +kernel
theorem dX7_drawn_55 : decode cX7_drawn 55 = .ok (.getfield 62, 3) := by decide +kernel
theorem dX7_drawn_58 : decode cX7_drawn 58 = .ok (.aload_n 0, 1) := by decide +kernel
theorem dX7_drawn_59 : decode cX7_drawn 59 = .ok (.getfield 12, 3) := by decide +kernel
theorem dX7_drawn_62 : decode cX7_drawn 62 = .ok (.iload_n 1, 1) := by decide +kernel
theorem dX7_drawn_63 : decode cX7_drawn 63 = .ok (.iload_n 2, 1) := by decide +kernel
theorem dX7_drawn_64 : decode cX7_drawn 64 = .ok (.invokevirtual 285, 3) := by decide +kernel
theorem dX7_drawn_67 : decode cX7_drawn 67 = .ok (.ireturn, 1) := by decide +kernel
theorem dX7_runScript_0 : decode cX7_runScript 0 = .ok (.iload_n 1, 1) := by decide +kernel
theorem dX7_runScript_1 : decode cX7_runScript 1 = .ok (.iconst 1, 1) := by decide +kernel
theorem dX7_runScript_2 : decode cX7_runScript 2 = .ok (.if_icmp .lt 8, 3) := by decide +kernel
theorem dX7_runScript_5 : decode cX7_runScript 5 = .ok (.iload_n 1, 1) := by decide +kernel
theorem dX7_runScript_6 : decode cX7_runScript 6 = .ok (.iconst 4, 1) := by decide +kernel
theorem dX7_runScript_7 : decode cX7_runScript 7 = .ok (.if_icmp .le 14, 3) := by decide +kernel
theorem dX7_runScript_10 : decode cX7_runScript 10 = .ok (.new 66, 3) := by decide +kernel
theorem dX7_runScript_13 : decode cX7_runScript 13 = .ok (.dup, 1) := by decide +kernel
theorem dX7_runScript_14 : decode cX7_runScript 14 = .ok (.ldc_w 288, 3) := by decide +kernel
theorem dX7_runScript_17 : decode cX7_runScript 17 = .ok (.invokespecial 70, 3) := by decide +kernel
theorem dX7_runScript_20 : decode cX7_runScript 20 = .ok (.athrow, 1) := by decide +kernel
theorem dX7_runScript_21 : decode cX7_runScript 21 = .ok (.lload_n 2, 1) := by decide +kernel
theorem dX7_runScript_22 : decode cX7_runScript 22 = .ok (.lconst 0, 1) := by decide +kernel
theorem dX7_runScript_23 : decode cX7_runScript 23 = .ok (.lcmp, 1) := by decide +kernel
theorem dX7_runScript_24 : decode cX7_runScript 24 = .ok (.ifCond .lt 13, 3) := by decide +kernel
theorem dX7_runScript_27 : decode cX7_runScript 27 = .ok (.lload_n 2, 1) := by decide +kernel
theorem dX7_runScript_28 : decode cX7_runScript 28 = .ok (.iload_n 1, 1) := by decide +kernel
theorem dX7_runScript_29 : decode cX7_runScript 29 = .ok (.invokestatic 290, 3) := by decide +kernel
theorem dX7_runScript_32 : decode cX7_runScript 32 = .ok (.lconst 0, 1) := by decide +kernel
theorem dX7_runScript_33 : decode cX7_runScript 33 = .ok (.lcmp, 1) := by decide +kernel
theorem dX7_runScript_34 : decode cX7_runScript 34 = .ok (.ifCond .le 14, 3) := by decide +kernel
theorem dX7_runScript_37 : decode cX7_runScript 37 = .ok (.new 66, 3) := by decide +kernel
theorem dX7_runScript_40 : decode cX7_runScript 40 = .ok (.dup, 1) := by decide +kernel
theorem dX7_runScript_41 : decode cX7_runScript 41 = .ok (.ldc_w 294, 3) := by decide +kernel
theorem dX7_runScript_44 : decode cX7_runScript 44 = .ok (.invokespecial 70, 3) := by decide +kernel
theorem dX7_runScript_47 : decode cX7_runScript 47 = .ok (.athrow, 1) := by decide +kernel
theorem dX7_runScript_48 : decode cX7_runScript 48 = .ok (.aload_n 0, 1) := by decide +kernel
theorem dX7_runScript_49 : decode cX7_runScript 49 = .ok (.getfield 16, 3) := by decide +kernel
theorem dX7_runScript_52 : decode cX7_runScript 52 = .ok (.aload_n 0, 1) := by decide +kernel
theorem dX7_runScript_53 : decode cX7_runScript 53 = .ok (.getfield 12, 3) := by decide +kernel
theorem dX7_runScript_56 : decode cX7_runScript 56 = .ok (.invokevirtual 296, 3) := by decide +kernel
theorem dX7_runScript_59 : decode cX7_runScript 59 = .ok (.iconst 0, 1) := by decide +kernel
theorem dX7_runScript_60 : decode cX7_runScript 60 = .ok (.istore 4, 2) := by decide +kernel
theorem dX7_runScript_62 : decode cX7_runScript 62 = .ok (.iload 4, 2) := by decide +kernel
theorem dX7_runScript_64 : decode cX7_runScript 64 = .ok (.iload_n 1, 1) := by decide +kernel
theorem dX7_runScript_65 : decode cX7_runScript 65 = .ok (.if_icmp .ge 34, 3) := by decide +kernel
theorem dX7_runScript_68 : decode cX7_runScript 68 = .ok (.aload_n 0, 1) := by decide +kernel
theorem dX7_runScript_69 : decode cX7_runScript 69 = .ok (.lload_n 2, 1) := by decide +kernel
theorem dX7_runScript_70 : decode cX7_runScript 70 = .ok (.iload_n 1, 1) := by decide +kernel
theorem dX7_runScript_71 : decode cX7_runScript 71 = .ok (.iconst 1, 1) := by decide +kernel
theorem dX7_runScript_72 : decode cX7_runScript 72 = .ok (.isub, 1) := by decide +kernel
theorem dX7_runScript_73 : decode cX7_runScript 73 = .ok (.iload 4, 2) := by decide +kernel
theorem dX7_runScript_75 : decode cX7_runScript 75 = .ok (.isub, 1) := by decide +kernel
theorem dX7_runScript_76 : decode cX7_runScript 76 = .ok (.invokestatic 290, 3) := by decide +kernel
theorem dX7_runScript_79 : decode cX7_runScript 79 = .ok (.ldc2_w 299, 3) := by decide +kernel
theorem dX7_runScript_82 : decode cX7_runScript 82 = .ok (.lrem, 1) := by decide +kernel
theorem dX7_runScript_83 : decode cX7_runScript 83 = .ok (.l2i, 1) := by decide +kernel
theorem dX7_runScript_84 : decode cX7_runScript 84 = .ok (.invokevirtual 301, 3) := by decide +kernel
theorem dX7_runScript_87 : decode cX7_runScript 87 = .ok (.ifCond .ne 6, 3) := by decide +kernel
theorem dX7_runScript_90 : decode cX7_runScript 90 = .ok (.iload 4, 2) := by decide +kernel
theorem dX7_runScript_92 : decode cX7_runScript 92 = .ok (.ireturn, 1) := by decide +kernel
theorem dX7_runScript_93 : decode cX7_runScript 93 = .ok (.iinc 4 1, 3) := by decide +kernel
theorem dX7_runScript_96 : decode cX7_runScript 96 = .ok (.goto (-34), 3) := by decide +kernel
theorem dX7_runScript_99 : decode cX7_runScript 99 = .ok (.bipush (-9), 2) := by decide +kernel
theorem dX7_runScript_101 : decode cX7_runScript 101 = .ok (.ireturn, 1) := by decide +kernel
theorem dX7_withoutGroups_0 : decode cX7_withoutGroups 0 = .ok (.lload_n 0, 1) := by decide +kernel
theorem dX7_withoutGroups_1 : decode cX7_withoutGroups 1 = .ok (.lstore_n 3, 1) := by decide +kernel
theorem dX7_withoutGroups_2 : decode cX7_withoutGroups 2 = .ok (.iconst 0, 1) := by decide +kernel
theorem dX7_withoutGroups_3 : decode cX7_withoutGroups 3 = .ok (.istore 5, 2) := by decide +kernel
theorem dX7_withoutGroups_5 : decode cX7_withoutGroups 5 = .ok (.iload 5, 2) := by decide +kernel
theorem dX7_withoutGroups_7 : decode cX7_withoutGroups 7 = .ok (.iload_n 2, 1) := by decide +kernel
theorem dX7_withoutGroups_8 : decode cX7_withoutGroups 8 = .ok (.if_icmp .ge 15, 3) := by decide +kernel
theorem dX7_withoutGroups_11 : decode cX7_withoutGroups 11 = .ok (.lload_n 3, 1) := by decide +kernel
theorem dX7_withoutGroups_12 : decode cX7_withoutGroups 12 = .ok (.ldc2_w 299, 3) := by decide +kernel
theorem dX7_withoutGroups_15 : decode cX7_withoutGroups 15 = .ok (.ldiv, 1) := by decide +kernel
theorem dX7_withoutGroups_16 : decode cX7_withoutGroups 16 = .ok (.lstore_n 3, 1) := by decide +kernel
theorem dX7_withoutGroups_17 : decode cX7_withoutGroups 17 = .ok (.iinc 5 1, 3) := by decide +kernel
theorem dX7_withoutGroups_20 : decode cX7_withoutGroups 20 = .ok (.goto (-15), 3) := by decide +kernel
theorem dX7_withoutGroups_23 : decode cX7_withoutGroups 23 = .ok (.lload_n 3, 1) := by decide +kernel
theorem dX7_withoutGroups_24 : decode cX7_withoutGroups 24 = .ok (.lreturn, 1) := by decide +kernel
theorem dX7_obeys_0 : decode cX7_obeys 0 = .ok (.iload_n 1, 1) := by decide +kernel
theorem dX7_obeys_1 : decode cX7_obeys 1 = .ok (.sipush 1000, 3) := by decide +kernel
theorem dX7_obeys_4 : decode cX7_obeys 4 = .ok (.idiv, 1) := by decide +kernel
theorem dX7_obeys_5 : decode cX7_obeys 5 = .ok (.istore_n 2, 1) := by decide +kernel
theorem dX7_obeys_6 : decode cX7_obeys 6 = .ok (.iload_n 1, 1) := by decide +kernel
theorem dX7_obeys_7 : decode cX7_obeys 7 = .ok (.sipush 1000, 3) := by decide +kernel
theorem dX7_obeys_10 : decode cX7_obeys 10 = .ok (.irem, 1) := by decide +kernel
theorem dX7_obeys_11 : decode cX7_obeys 11 = .ok (.istore_n 3, 1) := by decide +kernel
theorem dX7_obeys_12 : decode cX7_obeys 12 = .ok (.iload_n 2, 1) := by decide +kernel
theorem dX7_obeys_13 : decode cX7_obeys 13 = .ok (.iconst 1, 1) := by decide +kernel
theorem dX7_obeys_14 : decode cX7_obeys 14 = .ok (.if_icmp .ne 9, 3) := by decide +kernel
theorem dX7_obeys_17 : decode cX7_obeys 17 = .ok (.aload_n 0, 1) := by decide +kernel
theorem dX7_obeys_18 : decode cX7_obeys 18 = .ok (.iload_n 3, 1) := by decide +kernel
theorem dX7_obeys_19 : decode cX7_obeys 19 = .ok (.invokevirtual 304, 3) := by decide +kernel
theorem dX7_obeys_22 : decode cX7_obeys 22 = .ok (.ireturn, 1) := by decide +kernel
theorem dX7_obeys_23 : decode cX7_obeys 23 = .ok (.iload_n 3, 1) := by decide +kernel
theorem dX7_obeys_24 : decode cX7_obeys 24 = .ok (.bipush 100, 2) := by decide +kernel
theorem dX7_obeys_26 : decode cX7_obeys 26 = .ok (.if_icmp .lt 5, 3) := by decide +kernel
theorem dX7_obeys_29 : decode cX7_obeys 29 = .ok (.iconst 0, 1) := by decide +kernel
theorem dX7_obeys_30 : decode cX7_obeys 30 = .ok (.ireturn, 1) := by decide +kernel
theorem dX7_obeys_31 : decode cX7_obeys 31 = .ok (.iload_n 2, 1) := by decide +kernel
theorem dX7_obeys_32 : decode cX7_obeys 32 = .ok (.tableswitch 175 2 9 #[48, 54, 64, 75, 92, 112, 129, 146], 48) := by decide +kernel
theorem dX7_obeys_80 : decode cX7_obeys 80 = .ok (.aload_n 0, 1) := by decide +kernel
theorem dX7_obeys_81 : decode cX7_obeys 81 = .ok (.iload_n 3, 1) := by decide +kernel
theorem dX7_obeys_82 : decode cX7_obeys 82 = .ok (.invokevirtual 307, 3) := by decide +kernel
theorem dX7_obeys_85 : decode cX7_obeys 85 = .ok (.ireturn, 1) := by decide +kernel
theorem dX7_obeys_86 : decode cX7_obeys 86 = .ok (.aload_n 0, 1) := by decide +kernel
theorem dX7_obeys_87 : decode cX7_obeys 87 = .ok (.getfield 16, 3) := by decide +kernel
theorem dX7_obeys_90 : decode cX7_obeys 90 = .ok (.iload_n 3, 1) := by decide +kernel
theorem dX7_obeys_91 : decode cX7_obeys 91 = .ok (.invokevirtual 191, 3) := by decide +kernel
theorem dX7_obeys_94 : decode cX7_obeys 94 = .ok (.iconst 1, 1) := by decide +kernel
theorem dX7_obeys_95 : decode cX7_obeys 95 = .ok (.ireturn, 1) := by decide +kernel
theorem dX7_obeys_96 : decode cX7_obeys 96 = .ok (.aload_n 0, 1) := by decide +kernel
theorem dX7_obeys_97 : decode cX7_obeys 97 = .ok (.getfield 16, 3) := by decide +kernel
theorem dX7_obeys_100 : decode cX7_obeys 100 = .ok (.iload_n 3, 1) := by decide +kernel
theorem dX7_obeys_101 : decode cX7_obeys 101 = .ok (.ineg, 1) := by decide +kernel
theorem dX7_obeys_102 : decode cX7_obeys 102 = .ok (.invokevirtual 191, 3) := by decide +kernel
theorem dX7_obeys_105 : decode cX7_obeys 105 = .ok (.iconst 1, 1) := by decide +kernel
theorem dX7_obeys_106 : decode cX7_obeys 106 = .ok (.ireturn, 1) := by decide +kernel
theorem dX7_obeys_107 : decode cX7_obeys 107 = .ok (.iload_n 3, 1) := by decide +kernel
theorem dX7_obeys_108 : decode cX7_obeys 108 = .ok (.ifCond .ne 14, 3) := by decide +kernel
theorem dX7_obeys_111 : decode cX7_obeys 111 = .ok (.aload_n 0, 1) := by decide +kernel
theorem dX7_obeys_112 : decode cX7_obeys 112 = .ok (.invokevirtual 310, 3) := by decide +kernel
theorem dX7_obeys_115 : decode cX7_obeys 115 = .ok (.ifCond .eq 7, 3) := by decide +kernel
theorem dX7_obeys_118 : decode cX7_obeys 118 = .ok (.iconst 1, 1) := by decide +kernel
theorem dX7_obeys_119 : decode cX7_obeys 119 = .ok (.goto 4, 3) := by decide +kernel
theorem dX7_obeys_122 : decode cX7_obeys 122 = .ok (.iconst 0, 1) := by decide +kernel
theorem dX7_obeys_123 : decode cX7_obeys 123 = .ok (.ireturn, 1) := by decide +kernel
theorem dX7_obeys_124 : decode cX7_obeys 124 = .ok (.iload_n 3, 1) := by decide +kernel
theorem dX7_obeys_125 : decode cX7_obeys 125 = .ok (.ifCond .ne 17, 3) := by decide +kernel
theorem dX7_obeys_128 : decode cX7_obeys 128 = .ok (.aload_n 0, 1) := by decide +kernel
theorem dX7_obeys_129 : decode cX7_obeys 129 = .ok (.getfield 16, 3) := by decide +kernel
theorem dX7_obeys_132 : decode cX7_obeys 132 = .ok (.invokevirtual 206, 3) := by decide +kernel
theorem dX7_obeys_135 : decode cX7_obeys 135 = .ok (.ifCond .eq 7, 3) := by decide +kernel
theorem dX7_obeys_138 : decode cX7_obeys 138 = .ok (.iconst 1, 1) := by decide +kernel
theorem dX7_obeys_139 : decode cX7_obeys 139 = .ok (.goto 4, 3) := by decide +kernel
theorem dX7_obeys_142 : decode cX7_obeys 142 = .ok (.iconst 0, 1) := by decide +kernel
theorem dX7_obeys_143 : decode cX7_obeys 143 = .ok (.ireturn, 1) := by decide +kernel
theorem dX7_obeys_144 : decode cX7_obeys 144 = .ok (.aload_n 0, 1) := by decide +kernel
theorem dX7_obeys_145 : decode cX7_obeys 145 = .ok (.getfield 16, 3) := by decide +kernel
theorem dX7_obeys_148 : decode cX7_obeys 148 = .ok (.invokevirtual 124, 3) := by decide +kernel
theorem dX7_obeys_151 : decode cX7_obeys 151 = .ok (.iload_n 3, 1) := by decide +kernel
theorem dX7_obeys_152 : decode cX7_obeys 152 = .ok (.if_icmp .ne 7, 3) := by decide +kernel
theorem dX7_obeys_155 : decode cX7_obeys 155 = .ok (.iconst 1, 1) := by decide +kernel
theorem dX7_obeys_156 : decode cX7_obeys 156 = .ok (.goto 4, 3) := by decide +kernel
theorem dX7_obeys_159 : decode cX7_obeys 159 = .ok (.iconst 0, 1) := by decide +kernel
theorem dX7_obeys_160 : decode cX7_obeys 160 = .ok (.ireturn, 1) := by decide +kernel
theorem dX7_obeys_161 : decode cX7_obeys 161 = .ok (.aload_n 0, 1) := by decide +kernel
theorem dX7_obeys_162 : decode cX7_obeys 162 = .ok (.getfield 16, 3) := by decide +kernel
theorem dX7_obeys_165 : decode cX7_obeys 165 = .ok (.getfield 128, 3) := by decide +kernel
theorem dX7_obeys_168 : decode cX7_obeys 168 = .ok (.iload_n 3, 1) := by decide +kernel
theorem dX7_obeys_169 : decode cX7_obeys 169 = .ok (.if_icmp .ne 7, 3) := by decide +kernel
theorem dX7_obeys_172 : decode cX7_obeys 172 = .ok (.iconst 1, 1) := by decide +kernel
theorem dX7_obeys_173 : decode cX7_obeys 173 = .ok (.goto 4, 3) := by decide +kernel
theorem dX7_obeys_176 : decode cX7_obeys 176 = .ok (.iconst 0, 1) := by decide +kernel
theorem dX7_obeys_177 : decode cX7_obeys 177 = .ok (.ireturn, 1) := by decide +kernel
theorem dX7_obeys_178 : decode cX7_obeys 178 = .ok (.aload_n 0, 1) := by decide +kernel
theorem dX7_obeys_179 : decode cX7_obeys 179 = .ok (.getfield 62, 3) := by decide +kernel
theorem dX7_obeys_182 : decode cX7_obeys 182 = .ok (.aload_n 0, 1) := by decide +kernel
theorem dX7_obeys_183 : decode cX7_obeys 183 = .ok (.getfield 16, 3) := by decide +kernel
theorem dX7_obeys_186 : decode cX7_obeys 186 = .ok (.invokevirtual 271, 3) := by decide +kernel
theorem dX7_obeys_189 : decode cX7_obeys 189 = .ok (.aload_n 0, 1) := by decide +kernel
theorem dX7_obeys_190 : decode cX7_obeys 190 = .ok (.getfield 62, 3) := by decide +kernel
theorem dX7_obeys_193 : decode cX7_obeys 193 = .ok (.iconst 0, 1) := by decide +kernel
theorem dX7_obeys_194 : decode cX7_obeys 194 = .ok (.invokevirtual 274, 3) := by decide +kernel
theorem dX7_obeys_197 : decode cX7_obeys 197 = .ok (.iload_n 3, 1) := by decide +kernel
theorem dX7_obeys_198 : decode cX7_obeys 198 = .ok (.if_icmp .ne 7, 3) := by decide +kernel
theorem dX7_obeys_201 : decode cX7_obeys 201 = .ok (.iconst 1, 1) := by decide +kernel
theorem dX7_obeys_202 : decode cX7_obeys 202 = .ok (.goto 4, 3) := by decide +kernel
theorem dX7_obeys_205 : decode cX7_obeys 205 = .ok (.iconst 0, 1) := by decide +kernel
theorem dX7_obeys_206 : decode cX7_obeys 206 = .ok (.ireturn, 1) := by decide +kernel
theorem dX7_obeys_207 : decode cX7_obeys 207 = .ok (.iconst 0, 1) := by decide +kernel
theorem dX7_obeys_208 : decode cX7_obeys 208 = .ok (.ireturn, 1) := by decide +kernel
theorem dX7_simulate_0 : decode cX7_simulate 0 = .ok (.iload_n 3, 1) := by decide +kernel
theorem dX7_simulate_1 : decode cX7_simulate 1 = .ok (.iconst 1, 1) := by decide +kernel
theorem dX7_simulate_2 : decode cX7_simulate 2 = .ok (.if_icmp .lt 9, 3) := by decide +kernel
theorem dX7_simulate_5 : decode cX7_simulate 5 = .ok (.iload_n 3, 1) := by decide +kernel
theorem dX7_simulate_6 : decode cX7_simulate 6 = .ok (.bipush 60, 2) := by decide +kernel
theorem dX7_simulate_8 : decode cX7_simulate 8 = .ok (.if_icmp .le 14, 3) := by decide +kernel
theorem dX7_simulate_11 : decode cX7_simulate 11 = .ok (.new 66, 3) := by decide +kernel
theorem dX7_simulate_14 : decode cX7_simulate 14 = .ok (.dup, 1) := by decide +kernel
theorem dX7_simulate_15 : decode cX7_simulate 15 = .ok (.ldc_w 313, 3) := by decide +kernel
theorem dX7_simulate_18 : decode cX7_simulate 18 = .ok (.invokespecial 70, 3) := by decide +kernel
theorem dX7_simulate_21 : decode cX7_simulate 21 = .ok (.athrow, 1) := by decide +kernel
theorem dX7_simulate_22 : decode cX7_simulate 22 = .ok (.aload_n 0, 1) := by decide +kernel
theorem dX7_simulate_23 : decode cX7_simulate 23 = .ok (.getfield 16, 3) := by decide +kernel
theorem dX7_simulate_26 : decode cX7_simulate 26 = .ok (.aload_n 0, 1) := by decide +kernel
theorem dX7_simulate_27 : decode cX7_simulate 27 = .ok (.getfield 12, 3) := by decide +kernel
theorem dX7_simulate_30 : decode cX7_simulate 30 = .ok (.invokevirtual 296, 3) := by decide +kernel
theorem dX7_simulate_33 : decode cX7_simulate 33 = .ok (.lload_n 1, 1) := by decide +kernel
theorem dX7_simulate_34 : decode cX7_simulate 34 = .ok (.lstore 4, 2) := by decide +kernel
theorem dX7_simulate_36 : decode cX7_simulate 36 = .ok (.iconst 0, 1) := by decide +kernel
theorem dX7_simulate_37 : decode cX7_simulate 37 = .ok (.istore 6, 2) := by decide +kernel
theorem dX7_simulate_39 : decode cX7_simulate 39 = .ok (.iload 6, 2) := by decide +kernel
theorem dX7_simulate_41 : decode cX7_simulate 41 = .ok (.iload_n 3, 1) := by decide +kernel
theorem dX7_simulate_42 : decode cX7_simulate 42 = .ok (.if_icmp .ge 31, 3) := by decide +kernel
theorem dX7_simulate_45 : decode cX7_simulate 45 = .ok (.lload 4, 2) := by decide +kernel
theorem dX7_simulate_47 : decode cX7_simulate 47 = .ok (.ldc2_w 315, 3) := by decide +kernel
theorem dX7_simulate_50 : decode cX7_simulate 50 = .ok (.lmul, 1) := by decide +kernel
theorem dX7_simulate_51 : decode cX7_simulate 51 = .ok (.ldc2_w 317, 3) := by decide +kernel
theorem dX7_simulate_54 : decode cX7_simulate 54 = .ok (.ladd, 1) := by decide +kernel
theorem dX7_simulate_55 : decode cX7_simulate 55 = .ok (.lstore 4, 2) := by decide +kernel
theorem dX7_simulate_57 : decode cX7_simulate 57 = .ok (.aload_n 0, 1) := by decide +kernel
theorem dX7_simulate_58 : decode cX7_simulate 58 = .ok (.lload 4, 2) := by decide +kernel
theorem dX7_simulate_60 : decode cX7_simulate 60 = .ok (.bipush 33, 2) := by decide +kernel
theorem dX7_simulate_62 : decode cX7_simulate 62 = .ok (.lushr, 1) := by decide +kernel
theorem dX7_simulate_63 : decode cX7_simulate 63 = .ok (.l2i, 1) := by decide +kernel
theorem dX7_simulate_64 : decode cX7_simulate 64 = .ok (.invokevirtual 319, 3) := by decide +kernel
theorem dX7_simulate_67 : decode cX7_simulate 67 = .ok (.iinc 6 1, 3) := by decide +kernel
theorem dX7_simulate_70 : decode cX7_simulate 70 = .ok (.goto (-31), 3) := by decide +kernel
theorem dX7_simulate_73 : decode cX7_simulate 73 = .ok (.aload_n 0, 1) := by decide +kernel
theorem dX7_simulate_74 : decode cX7_simulate 74 = .ok (.getfield 55, 3) := by decide +kernel
theorem dX7_simulate_77 : decode cX7_simulate 77 = .ok (.aload_n 0, 1) := by decide +kernel
theorem dX7_simulate_78 : decode cX7_simulate 78 = .ok (.getfield 16, 3) := by decide +kernel
theorem dX7_simulate_81 : decode cX7_simulate 81 = .ok (.invokevirtual 179, 3) := by decide +kernel
theorem dX7_simulate_84 : decode cX7_simulate 84 = .ok (.sipush 1000, 3) := by decide +kernel
theorem dX7_simulate_87 : decode cX7_simulate 87 = .ok (.aload_n 0, 1) := by decide +kernel
theorem dX7_simulate_88 : decode cX7_simulate 88 = .ok (.getfield 16, 3) := by decide +kernel
theorem dX7_simulate_91 : decode cX7_simulate 91 = .ok (.invokevirtual 124, 3) := by decide +kernel
theorem dX7_simulate_94 : decode cX7_simulate 94 = .ok (.imul, 1) := by decide +kernel
theorem dX7_simulate_95 : decode cX7_simulate 95 = .ok (.aload_n 0, 1) := by decide +kernel
theorem dX7_simulate_96 : decode cX7_simulate 96 = .ok (.getfield 55, 3) := by decide +kernel
theorem dX7_simulate_99 : decode cX7_simulate 99 = .ok (.getfield 183, 3) := by decide +kernel
theorem dX7_simulate_102 : decode cX7_simulate 102 = .ok (.iadd, 1) := by decide +kernel
theorem dX7_simulate_103 : decode cX7_simulate 103 = .ok (.ireturn, 1) := by decide +kernel
theorem dX7_playRound_0 : decode cX7_playRound 0 = .ok (.iload_n 1, 1) := by decide +kernel
theorem dX7_playRound_1 : decode cX7_playRound 1 = .ok (.bipush 8, 2) := by decide +kernel
theorem dX7_playRound_3 : decode cX7_playRound 3 = .ok (.idiv, 1) := by decide +kernel
theorem dX7_playRound_4 : decode cX7_playRound 4 = .ok (.bipush 64, 2) := by decide +kernel
theorem dX7_playRound_6 : decode cX7_playRound 6 = .ok (.irem, 1) := by decide +kernel
theorem dX7_playRound_7 : decode cX7_playRound 7 = .ok (.istore_n 2, 1) := by decide +kernel
theorem dX7_playRound_8 : decode cX7_playRound 8 = .ok (.iload_n 1, 1) := by decide +kernel
theorem dX7_playRound_9 : decode cX7_playRound 9 = .ok (.bipush 8, 2) := by decide +kernel
theorem dX7_playRound_11 : decode cX7_playRound 11 = .ok (.irem, 1) := by decide +kernel
theorem dX7_playRound_12 : decode cX7_playRound 12 = .ok (.tableswitch 94 0 6 #[44, 44, 44, 59, 59, 72, 86], 44) := by decide +kernel
theorem dX7_playRound_56 : decode cX7_playRound 56 = .ok (.aload_n 0, 1) := by decide +kernel
theorem dX7_playRound_57 : decode cX7_playRound 57 = .ok (.bipush 97, 2) := by decide +kernel
theorem dX7_playRound_59 : decode cX7_playRound 59 = .ok (.iload_n 2, 1) := by decide +kernel
theorem dX7_playRound_60 : decode cX7_playRound 60 = .ok (.bipush 17, 2) := by decide +kernel
theorem dX7_playRound_62 : decode cX7_playRound 62 = .ok (.irem, 1) := by decide +kernel
theorem dX7_playRound_63 : decode cX7_playRound 63 = .ok (.iadd, 1) := by decide +kernel
theorem dX7_playRound_64 : decode cX7_playRound 64 = .ok (.invokevirtual 304, 3) := by decide +kernel
theorem dX7_playRound_67 : decode cX7_playRound 67 = .ok (.pop, 1) := by decide +kernel
theorem dX7_playRound_68 : decode cX7_playRound 68 = .ok (.goto 46, 3) := by decide +kernel
theorem dX7_playRound_71 : decode cX7_playRound 71 = .ok (.aload_n 0, 1) := by decide +kernel
theorem dX7_playRound_72 : decode cX7_playRound 72 = .ok (.iconst 1, 1) := by decide +kernel
theorem dX7_playRound_73 : decode cX7_playRound 73 = .ok (.iload_n 2, 1) := by decide +kernel
theorem dX7_playRound_74 : decode cX7_playRound 74 = .ok (.iconst 5, 1) := by decide +kernel
theorem dX7_playRound_75 : decode cX7_playRound 75 = .ok (.irem, 1) := by decide +kernel
theorem dX7_playRound_76 : decode cX7_playRound 76 = .ok (.iadd, 1) := by decide +kernel
theorem dX7_playRound_77 : decode cX7_playRound 77 = .ok (.invokevirtual 307, 3) := by decide +kernel
theorem dX7_playRound_80 : decode cX7_playRound 80 = .ok (.pop, 1) := by decide +kernel
theorem dX7_playRound_81 : decode cX7_playRound 81 = .ok (.goto 33, 3) := by decide +kernel
theorem dX7_playRound_84 : decode cX7_playRound 84 = .ok (.aload_n 0, 1) := by decide +kernel
theorem dX7_playRound_85 : decode cX7_playRound 85 = .ok (.getfield 16, 3) := by decide +kernel
theorem dX7_playRound_88 : decode cX7_playRound 88 = .ok (.iload_n 2, 1) := by decide +kernel
theorem dX7_playRound_89 : decode cX7_playRound 89 = .ok (.bipush 32, 2) := by decide +kernel
theorem dX7_playRound_91 : decode cX7_playRound 91 = .ok (.isub, 1) := by decide +kernel
theorem dX7_playRound_92 : decode cX7_playRound 92 = .ok (.invokevirtual 191, 3) := by decide +kernel
theorem dX7_playRound_95 : decode cX7_playRound 95 = .ok (.goto 19, 3) := by decide +kernel
theorem dX7_playRound_98 : decode cX7_playRound 98 = .ok (.aload_n 0, 1) := by decide +kernel
theorem dX7_playRound_99 : decode cX7_playRound 99 = .ok (.invokevirtual 310, 3) := by decide +kernel
theorem dX7_playRound_102 : decode cX7_playRound 102 = .ok (.pop, 1) := by decide +kernel
theorem dX7_playRound_103 : decode cX7_playRound 103 = .ok (.goto 11, 3) := by decide +kernel
theorem dX7_playRound_106 : decode cX7_playRound 106 = .ok (.aload_n 0, 1) := by decide +kernel
theorem dX7_playRound_107 : decode cX7_playRound 107 = .ok (.getfield 16, 3) := by decide +kernel
theorem dX7_playRound_110 : decode cX7_playRound 110 = .ok (.invokevirtual 206, 3) := by decide +kernel
theorem dX7_playRound_113 : decode cX7_playRound 113 = .ok (.pop, 1) := by decide +kernel
theorem dX7_playRound_114 : decode cX7_playRound 114 = .ok (.return_, 1) := by decide +kernel
theorem dX7_typesInTrial_0 : decode cX7_typesInTrial 0 = .ok (.iload_n 1, 1) := by decide +kernel
theorem dX7_typesInTrial_1 : decode cX7_typesInTrial 1 = .ok (.invokestatic 217, 3) := by decide +kernel
theorem dX7_typesInTrial_4 : decode cX7_typesInTrial 4 = .ok (.ifCond .eq 13, 3) := by decide +kernel
theorem dX7_typesInTrial_7 : decode cX7_typesInTrial 7 = .ok (.aload_n 0, 1) := by decide +kernel
theorem dX7_typesInTrial_8 : decode cX7_typesInTrial 8 = .ok (.getfield 16, 3) := by decide +kernel
theorem dX7_typesInTrial_11 : decode cX7_typesInTrial 11 = .ok (.invokevirtual 222, 3) := by decide +kernel
theorem dX7_typesInTrial_14 : decode cX7_typesInTrial 14 = .ok (.ifCond .ne 5, 3) := by decide +kernel
theorem dX7_typesInTrial_17 : decode cX7_typesInTrial 17 = .ok (.iconst 0, 1) := by decide +kernel
theorem dX7_typesInTrial_18 : decode cX7_typesInTrial 18 = .ok (.ireturn, 1) := by decide +kernel
theorem dX7_typesInTrial_19 : decode cX7_typesInTrial 19 = .ok (.aload_n 0, 1) := by decide +kernel
theorem dX7_typesInTrial_20 : decode cX7_typesInTrial 20 = .ok (.getfield 16, 3) := by decide +kernel
theorem dX7_typesInTrial_23 : decode cX7_typesInTrial 23 = .ok (.iload_n 1, 1) := by decide +kernel
theorem dX7_typesInTrial_24 : decode cX7_typesInTrial 24 = .ok (.invokevirtual 229, 3) := by decide +kernel
theorem dX7_typesInTrial_27 : decode cX7_typesInTrial 27 = .ok (.iconst 1, 1) := by decide +kernel
theorem dX7_typesInTrial_28 : decode cX7_typesInTrial 28 = .ok (.ireturn, 1) := by decide +kernel
theorem dX7_wrapsInTrial_0 : decode cX7_wrapsInTrial 0 = .ok (.iload_n 1, 1) := by decide +kernel
theorem dX7_wrapsInTrial_1 : decode cX7_wrapsInTrial 1 = .ok (.invokestatic 232, 3) := by decide +kernel
theorem dX7_wrapsInTrial_4 : decode cX7_wrapsInTrial 4 = .ok (.ifCond .eq 13, 3) := by decide +kernel
theorem dX7_wrapsInTrial_7 : decode cX7_wrapsInTrial 7 = .ok (.aload_n 0, 1) := by decide +kernel
theorem dX7_wrapsInTrial_8 : decode cX7_wrapsInTrial 8 = .ok (.getfield 16, 3) := by decide +kernel
theorem dX7_wrapsInTrial_11 : decode cX7_wrapsInTrial 11 = .ok (.invokevirtual 237, 3) := by decide +kernel
theorem dX7_wrapsInTrial_14 : decode cX7_wrapsInTrial 14 = .ok (.ifCond .ne 5, 3) := by decide +kernel
theorem dX7_wrapsInTrial_17 : decode cX7_wrapsInTrial 17 = .ok (.iconst 0, 1) := by decide +kernel
theorem dX7_wrapsInTrial_18 : decode cX7_wrapsInTrial 18 = .ok (.ireturn, 1) := by decide +kernel
theorem dX7_wrapsInTrial_19 : decode cX7_wrapsInTrial 19 = .ok (.aload_n 0, 1) := by decide +kernel
theorem dX7_wrapsInTrial_20 : decode cX7_wrapsInTrial 20 = .ok (.getfield 16, 3) := by decide +kernel
theorem dX7_wrapsInTrial_23 : decode cX7_wrapsInTrial 23 = .ok (.iload_n 1, 1) := by decide +kernel
theorem dX7_wrapsInTrial_24 : decode cX7_wrapsInTrial 24 = .ok (.invokevirtual 240, 3) := by decide +kernel
theorem dX7_wrapsInTrial_27 : decode cX7_wrapsInTrial 27 = .ok (.iconst 1, 1) := by decide +kernel
theorem dX7_wrapsInTrial_28 : decode cX7_wrapsInTrial 28 = .ok (.ireturn, 1) := by decide +kernel
theorem dX7_deletesInTrial_0 : decode cX7_deletesInTrial 0 = .ok (.aload_n 0, 1) := by decide +kernel
theorem dX7_deletesInTrial_1 : decode cX7_deletesInTrial 1 = .ok (.getfield 16, 3) := by decide +kernel
theorem dX7_deletesInTrial_4 : decode cX7_deletesInTrial 4 = .ok (.invokevirtual 243, 3) := by decide +kernel
theorem dX7_deletesInTrial_7 : decode cX7_deletesInTrial 7 = .ok (.ifCond .ne 5, 3) := by decide +kernel
theorem dX7_deletesInTrial_10 : decode cX7_deletesInTrial 10 = .ok (.iconst 0, 1) := by decide +kernel
theorem dX7_deletesInTrial_11 : decode cX7_deletesInTrial 11 = .ok (.ireturn, 1) := by decide +kernel
theorem dX7_deletesInTrial_12 : decode cX7_deletesInTrial 12 = .ok (.aload_n 0, 1) := by decide +kernel
theorem dX7_deletesInTrial_13 : decode cX7_deletesInTrial 13 = .ok (.getfield 16, 3) := by decide +kernel
theorem dX7_deletesInTrial_16 : decode cX7_deletesInTrial 16 = .ok (.invokevirtual 248, 3) := by decide +kernel
theorem dX7_deletesInTrial_19 : decode cX7_deletesInTrial 19 = .ok (.iconst 1, 1) := by decide +kernel
theorem dX7_deletesInTrial_20 : decode cX7_deletesInTrial 20 = .ok (.ireturn, 1) := by decide +kernel
theorem dX7_save_0 : decode cX7_save 0 = .ok (.iload_n 1, 1) := by decide +kernel
theorem dX7_save_1 : decode cX7_save 1 = .ok (.ifCond .lt 8, 3) := by decide +kernel
theorem dX7_save_4 : decode cX7_save 4 = .ok (.iload_n 1, 1) := by decide +kernel
theorem dX7_save_5 : decode cX7_save 5 = .ok (.iconst 1, 1) := by decide +kernel
theorem dX7_save_6 : decode cX7_save 6 = .ok (.if_icmp .le 14, 3) := by decide +kernel
theorem dX7_save_9 : decode cX7_save 9 = .ok (.new 141, 3) := by decide +kernel
theorem dX7_save_12 : decode cX7_save 12 = .ok (.dup, 1) := by decide +kernel
theorem dX7_save_13 : decode cX7_save 13 = .ok (.ldc_w 322, 3) := by decide +kernel
theorem dX7_save_16 : decode cX7_save 16 = .ok (.invokespecial 145, 3) := by decide +kernel
theorem dX7_save_19 : decode cX7_save 19 = .ok (.athrow, 1) := by decide +kernel
theorem dX7_save_20 : decode cX7_save 20 = .ok (.iload_n 1, 1) := by decide +kernel
theorem dX7_save_21 : decode cX7_save 21 = .ok (.ifCond .ne 10, 3) := by decide +kernel
theorem dX7_save_24 : decode cX7_save 24 = .ok (.aload_n 0, 1) := by decide +kernel
theorem dX7_save_25 : decode cX7_save 25 = .ok (.getfield 22, 3) := by decide +kernel
theorem dX7_save_28 : decode cX7_save 28 = .ok (.goto 7, 3) := by decide +kernel
theorem dX7_save_31 : decode cX7_save 31 = .ok (.aload_n 0, 1) := by decide +kernel
theorem dX7_save_32 : decode cX7_save 32 = .ok (.getfield 26, 3) := by decide +kernel
theorem dX7_save_35 : decode cX7_save 35 = .ok (.astore_n 2, 1) := by decide +kernel
theorem dX7_save_36 : decode cX7_save 36 = .ok (.aload_n 2, 1) := by decide +kernel
theorem dX7_save_37 : decode cX7_save 37 = .ok (.getfield 324, 3) := by decide +kernel
theorem dX7_save_40 : decode cX7_save 40 = .ok (.aload_n 0, 1) := by decide +kernel
theorem dX7_save_41 : decode cX7_save 41 = .ok (.getfield 12, 3) := by decide +kernel
theorem dX7_save_44 : decode cX7_save 44 = .ok (.invokevirtual 296, 3) := by decide +kernel
theorem dX7_save_47 : decode cX7_save 47 = .ok (.aload_n 2, 1) := by decide +kernel
theorem dX7_save_48 : decode cX7_save 48 = .ok (.iconst 1, 1) := by decide +kernel
theorem dX7_save_49 : decode cX7_save 49 = .ok (.putfield 120, 3) := by decide +kernel
theorem dX7_save_52 : decode cX7_save 52 = .ok (.aload_n 0, 1) := by decide +kernel
theorem dX7_save_53 : decode cX7_save 53 = .ok (.getfield 12, 3) := by decide +kernel
theorem dX7_save_56 : decode cX7_save 56 = .ok (.invokevirtual 124, 3) := by decide +kernel
theorem dX7_save_59 : decode cX7_save 59 = .ok (.ireturn, 1) := by decide +kernel
theorem dX7_restore_0 : decode cX7_restore 0 = .ok (.iload_n 1, 1) := by decide +kernel
theorem dX7_restore_1 : decode cX7_restore 1 = .ok (.ifCond .lt 8, 3) := by decide +kernel
theorem dX7_restore_4 : decode cX7_restore 4 = .ok (.iload_n 1, 1) := by decide +kernel
theorem dX7_restore_5 : decode cX7_restore 5 = .ok (.iconst 1, 1) := by decide +kernel
theorem dX7_restore_6 : decode cX7_restore 6 = .ok (.if_icmp .le 14, 3) := by decide +kernel
theorem dX7_restore_9 : decode cX7_restore 9 = .ok (.new 141, 3) := by decide +kernel
theorem dX7_restore_12 : decode cX7_restore 12 = .ok (.dup, 1) := by decide +kernel
theorem dX7_restore_13 : decode cX7_restore 13 = .ok (.ldc_w 322, 3) := by decide +kernel
theorem dX7_restore_16 : decode cX7_restore 16 = .ok (.invokespecial 145, 3) := by decide +kernel
theorem dX7_restore_19 : decode cX7_restore 19 = .ok (.athrow, 1) := by decide +kernel
theorem dX7_restore_20 : decode cX7_restore 20 = .ok (.iload_n 1, 1) := by decide +kernel
theorem dX7_restore_21 : decode cX7_restore 21 = .ok (.ifCond .ne 10, 3) := by decide +kernel
theorem dX7_restore_24 : decode cX7_restore 24 = .ok (.aload_n 0, 1) := by decide +kernel
theorem dX7_restore_25 : decode cX7_restore 25 = .ok (.getfield 22, 3) := by decide +kernel
theorem dX7_restore_28 : decode cX7_restore 28 = .ok (.goto 7, 3) := by decide +kernel
theorem dX7_restore_31 : decode cX7_restore 31 = .ok (.aload_n 0, 1) := by decide +kernel
theorem dX7_restore_32 : decode cX7_restore 32 = .ok (.getfield 26, 3) := by decide +kernel
theorem dX7_restore_35 : decode cX7_restore 35 = .ok (.astore_n 2, 1) := by decide +kernel
theorem dX7_restore_36 : decode cX7_restore 36 = .ok (.aload_n 2, 1) := by decide +kernel
theorem dX7_restore_37 : decode cX7_restore 37 = .ok (.getfield 120, 3) := by decide +kernel
theorem dX7_restore_40 : decode cX7_restore 40 = .ok (.ifCond .ne 14, 3) := by decide +kernel
theorem dX7_restore_43 : decode cX7_restore 43 = .ok (.new 77, 3) := by decide +kernel
theorem dX7_restore_46 : decode cX7_restore 46 = .ok (.dup, 1) := by decide +kernel
theorem dX7_restore_47 : decode cX7_restore 47 = .ok (.ldc_w 327, 3) := by decide +kernel
theorem dX7_restore_50 : decode cX7_restore 50 = .ok (.invokespecial 81, 3) := by decide +kernel
theorem dX7_restore_53 : decode cX7_restore 53 = .ok (.athrow, 1) := by decide +kernel
theorem dX7_restore_54 : decode cX7_restore 54 = .ok (.aload_n 0, 1) := by decide +kernel
theorem dX7_restore_55 : decode cX7_restore 55 = .ok (.getfield 12, 3) := by decide +kernel
theorem dX7_restore_58 : decode cX7_restore 58 = .ok (.aload_n 2, 1) := by decide +kernel
theorem dX7_restore_59 : decode cX7_restore 59 = .ok (.getfield 324, 3) := by decide +kernel
theorem dX7_restore_62 : decode cX7_restore 62 = .ok (.invokevirtual 296, 3) := by decide +kernel
theorem dX7_restore_65 : decode cX7_restore 65 = .ok (.aload_n 0, 1) := by decide +kernel
theorem dX7_restore_66 : decode cX7_restore 66 = .ok (.getfield 32, 3) := by decide +kernel
theorem dX7_restore_69 : decode cX7_restore 69 = .ok (.invokevirtual 117, 3) := by decide +kernel
theorem dX7_restore_72 : decode cX7_restore 72 = .ok (.aload_n 0, 1) := by decide +kernel
theorem dX7_restore_73 : decode cX7_restore 73 = .ok (.getfield 12, 3) := by decide +kernel
theorem dX7_restore_76 : decode cX7_restore 76 = .ok (.invokevirtual 124, 3) := by decide +kernel
theorem dX7_restore_79 : decode cX7_restore 79 = .ok (.ireturn, 1) := by decide +kernel
theorem dX7_isLetter_0 : decode cX7_isLetter 0 = .ok (.iload_n 0, 1) := by decide +kernel
theorem dX7_isLetter_1 : decode cX7_isLetter 1 = .ok (.bipush 97, 2) := by decide +kernel
theorem dX7_isLetter_3 : decode cX7_isLetter 3 = .ok (.if_icmp .lt 19, 3) := by decide +kernel
theorem dX7_isLetter_6 : decode cX7_isLetter 6 = .ok (.iload_n 0, 1) := by decide +kernel
theorem dX7_isLetter_7 : decode cX7_isLetter 7 = .ok (.bipush 122, 2) := by decide +kernel
theorem dX7_isLetter_9 : decode cX7_isLetter 9 = .ok (.if_icmp .gt 13, 3) := by decide +kernel
theorem dX7_isLetter_12 : decode cX7_isLetter 12 = .ok (.iload_n 0, 1) := by decide +kernel
theorem dX7_isLetter_13 : decode cX7_isLetter 13 = .ok (.bipush 114, 2) := by decide +kernel
theorem dX7_isLetter_15 : decode cX7_isLetter 15 = .ok (.if_icmp .eq 7, 3) := by decide +kernel
theorem dX7_isLetter_18 : decode cX7_isLetter 18 = .ok (.iconst 1, 1) := by decide +kernel
theorem dX7_isLetter_19 : decode cX7_isLetter 19 = .ok (.goto 4, 3) := by decide +kernel
theorem dX7_isLetter_22 : decode cX7_isLetter 22 = .ok (.iconst 0, 1) := by decide +kernel
theorem dX7_isLetter_23 : decode cX7_isLetter 23 = .ok (.ireturn, 1) := by decide +kernel
theorem dX7_isDigit_0 : decode cX7_isDigit 0 = .ok (.iload_n 0, 1) := by decide +kernel
theorem dX7_isDigit_1 : decode cX7_isDigit 1 = .ok (.bipush 48, 2) := by decide +kernel
theorem dX7_isDigit_3 : decode cX7_isDigit 3 = .ok (.if_icmp .lt 13, 3) := by decide +kernel
theorem dX7_isDigit_6 : decode cX7_isDigit 6 = .ok (.iload_n 0, 1) := by decide +kernel
theorem dX7_isDigit_7 : decode cX7_isDigit 7 = .ok (.bipush 57, 2) := by decide +kernel
theorem dX7_isDigit_9 : decode cX7_isDigit 9 = .ok (.if_icmp .gt 7, 3) := by decide +kernel
theorem dX7_isDigit_12 : decode cX7_isDigit 12 = .ok (.iconst 1, 1) := by decide +kernel
theorem dX7_isDigit_13 : decode cX7_isDigit 13 = .ok (.goto 4, 3) := by decide +kernel
theorem dX7_isDigit_16 : decode cX7_isDigit 16 = .ok (.iconst 0, 1) := by decide +kernel
theorem dX7_isDigit_17 : decode cX7_isDigit 17 = .ok (.ireturn, 1) := by decide +kernel
theorem dX7_isOperator_0 : decode cX7_isOperator 0 = .ok (.iload_n 0, 1) := by decide +kernel
theorem dX7_isOperator_1 : decode cX7_isOperator 1 = .ok (.bipush 43, 2) := by decide +kernel
theorem dX7_isOperator_3 : decode cX7_isOperator 3 = .ok (.if_icmp .eq 33, 3) := by decide +kernel
theorem dX7_isOperator_6 : decode cX7_isOperator 6 = .ok (.iload_n 0, 1) := by decide +kernel
theorem dX7_isOperator_7 : decode cX7_isOperator 7 = .ok (.bipush 45, 2) := by decide +kernel
theorem dX7_isOperator_9 : decode cX7_isOperator 9 = .ok (.if_icmp .eq 27, 3) := by decide +kernel
theorem dX7_isOperator_12 : decode cX7_isOperator 12 = .ok (.iload_n 0, 1) := by decide +kernel
theorem dX7_isOperator_13 : decode cX7_isOperator 13 = .ok (.bipush 42, 2) := by decide +kernel
theorem dX7_isOperator_15 : decode cX7_isOperator 15 = .ok (.if_icmp .eq 21, 3) := by decide +kernel
theorem dX7_isOperator_18 : decode cX7_isOperator 18 = .ok (.iload_n 0, 1) := by decide +kernel
theorem dX7_isOperator_19 : decode cX7_isOperator 19 = .ok (.bipush 61, 2) := by decide +kernel
theorem dX7_isOperator_21 : decode cX7_isOperator 21 = .ok (.if_icmp .eq 15, 3) := by decide +kernel
theorem dX7_isOperator_24 : decode cX7_isOperator 24 = .ok (.iload_n 0, 1) := by decide +kernel
theorem dX7_isOperator_25 : decode cX7_isOperator 25 = .ok (.bipush 44, 2) := by decide +kernel
theorem dX7_isOperator_27 : decode cX7_isOperator 27 = .ok (.if_icmp .eq 9, 3) := by decide +kernel
theorem dX7_isOperator_30 : decode cX7_isOperator 30 = .ok (.iload_n 0, 1) := by decide +kernel
theorem dX7_isOperator_31 : decode cX7_isOperator 31 = .ok (.bipush 46, 2) := by decide +kernel
theorem dX7_isOperator_33 : decode cX7_isOperator 33 = .ok (.if_icmp .ne 7, 3) := by decide +kernel
theorem dX7_isOperator_36 : decode cX7_isOperator 36 = .ok (.iconst 1, 1) := by decide +kernel
theorem dX7_isOperator_37 : decode cX7_isOperator 37 = .ok (.goto 4, 3) := by decide +kernel
theorem dX7_isOperator_40 : decode cX7_isOperator 40 = .ok (.iconst 0, 1) := by decide +kernel
theorem dX7_isOperator_41 : decode cX7_isOperator 41 = .ok (.ireturn, 1) := by decide +kernel
theorem dX7_isSymbol_0 : decode cX7_isSymbol 0 = .ok (.iload_n 0, 1) := by decide +kernel
theorem dX7_isSymbol_1 : decode cX7_isSymbol 1 = .ok (.invokestatic 329, 3) := by decide +kernel
theorem dX7_isSymbol_4 : decode cX7_isSymbol 4 = .ok (.ifCond .ne 17, 3) := by decide +kernel
theorem dX7_isSymbol_7 : decode cX7_isSymbol 7 = .ok (.iload_n 0, 1) := by decide +kernel
theorem dX7_isSymbol_8 : decode cX7_isSymbol 8 = .ok (.invokestatic 332, 3) := by decide +kernel
theorem dX7_isSymbol_11 : decode cX7_isSymbol 11 = .ok (.ifCond .ne 10, 3) := by decide +kernel
theorem dX7_isSymbol_14 : decode cX7_isSymbol 14 = .ok (.iload_n 0, 1) := by decide +kernel
theorem dX7_isSymbol_15 : decode cX7_isSymbol 15 = .ok (.invokestatic 335, 3) := by decide +kernel
theorem dX7_isSymbol_18 : decode cX7_isSymbol 18 = .ok (.ifCond .eq 7, 3) := by decide +kernel
theorem dX7_isSymbol_21 : decode cX7_isSymbol 21 = .ok (.iconst 1, 1) := by decide +kernel
theorem dX7_isSymbol_22 : decode cX7_isSymbol 22 = .ok (.goto 4, 3) := by decide +kernel
theorem dX7_isSymbol_25 : decode cX7_isSymbol 25 = .ok (.iconst 0, 1) := by decide +kernel
theorem dX7_isSymbol_26 : decode cX7_isSymbol 26 = .ok (.ireturn, 1) := by decide +kernel
theorem dX7_opens_0 : decode cX7_opens 0 = .ok (.iload_n 0, 1) := by decide +kernel
theorem dX7_opens_1 : decode cX7_opens 1 = .ok (.iconst 1, 1) := by decide +kernel
theorem dX7_opens_2 : decode cX7_opens 2 = .ok (.if_icmp .lt 12, 3) := by decide +kernel
theorem dX7_opens_5 : decode cX7_opens 5 = .ok (.iload_n 0, 1) := by decide +kernel
theorem dX7_opens_6 : decode cX7_opens 6 = .ok (.iconst 5, 1) := by decide +kernel
theorem dX7_opens_7 : decode cX7_opens 7 = .ok (.if_icmp .gt 7, 3) := by decide +kernel
theorem dX7_opens_10 : decode cX7_opens 10 = .ok (.iconst 1, 1) := by decide +kernel
theorem dX7_opens_11 : decode cX7_opens 11 = .ok (.goto 4, 3) := by decide +kernel
theorem dX7_opens_14 : decode cX7_opens 14 = .ok (.iconst 0, 1) := by decide +kernel
theorem dX7_opens_15 : decode cX7_opens 15 = .ok (.ireturn, 1) := by decide +kernel
theorem dX7_closes_0 : decode cX7_closes 0 = .ok (.iload_n 0, 1) := by decide +kernel
theorem dX7_closes_1 : decode cX7_closes 1 = .ok (.bipush 11, 2) := by decide +kernel
theorem dX7_closes_3 : decode cX7_closes 3 = .ok (.if_icmp .lt 13, 3) := by decide +kernel
theorem dX7_closes_6 : decode cX7_closes 6 = .ok (.iload_n 0, 1) := by decide +kernel
theorem dX7_closes_7 : decode cX7_closes 7 = .ok (.bipush 15, 2) := by decide +kernel
theorem dX7_closes_9 : decode cX7_closes 9 = .ok (.if_icmp .gt 7, 3) := by decide +kernel
theorem dX7_closes_12 : decode cX7_closes 12 = .ok (.iconst 1, 1) := by decide +kernel
theorem dX7_closes_13 : decode cX7_closes 13 = .ok (.goto 4, 3) := by decide +kernel
theorem dX7_closes_16 : decode cX7_closes 16 = .ok (.iconst 0, 1) := by decide +kernel
theorem dX7_closes_17 : decode cX7_closes 17 = .ok (.ireturn, 1) := by decide +kernel
theorem dX7_isScript_0 : decode cX7_isScript 0 = .ok (.iload_n 0, 1) := by decide +kernel
theorem dX7_isScript_1 : decode cX7_isScript 1 = .ok (.iconst 2, 1) := by decide +kernel
theorem dX7_isScript_2 : decode cX7_isScript 2 = .ok (.if_icmp .eq 8, 3) := by decide +kernel
theorem dX7_isScript_5 : decode cX7_isScript 5 = .ok (.iload_n 0, 1) := by decide +kernel
theorem dX7_isScript_6 : decode cX7_isScript 6 = .ok (.iconst 3, 1) := by decide +kernel
theorem dX7_isScript_7 : decode cX7_isScript 7 = .ok (.if_icmp .ne 7, 3) := by decide +kernel
theorem dX7_isScript_10 : decode cX7_isScript 10 = .ok (.iconst 1, 1) := by decide +kernel
theorem dX7_isScript_11 : decode cX7_isScript 11 = .ok (.goto 4, 3) := by decide +kernel
theorem dX7_isScript_14 : decode cX7_isScript 14 = .ok (.iconst 0, 1) := by decide +kernel
theorem dX7_isScript_15 : decode cX7_isScript 15 = .ok (.ireturn, 1) := by decide +kernel
theorem dX7_startsItem_0 : decode cX7_startsItem 0 = .ok (.iload_n 0, 1) := by decide +kernel
theorem dX7_startsItem_1 : decode cX7_startsItem 1 = .ok (.iconst 1, 1) := by decide +kernel
theorem dX7_startsItem_2 : decode cX7_startsItem 2 = .ok (.if_icmp .lt 8, 3) := by decide +kernel
theorem dX7_startsItem_5 : decode cX7_startsItem 5 = .ok (.iload_n 0, 1) := by decide +kernel
theorem dX7_startsItem_6 : decode cX7_startsItem 6 = .ok (.iconst 5, 1) := by decide +kernel
theorem dX7_startsItem_7 : decode cX7_startsItem 7 = .ok (.if_icmp .le 9, 3) := by decide +kernel
theorem dX7_startsItem_10 : decode cX7_startsItem 10 = .ok (.iload_n 0, 1) := by decide +kernel
theorem dX7_startsItem_11 : decode cX7_startsItem 11 = .ok (.bipush 42, 2) := by decide +kernel
theorem dX7_startsItem_13 : decode cX7_startsItem 13 = .ok (.if_icmp .lt 7, 3) := by decide +kernel
theorem dX7_startsItem_16 : decode cX7_startsItem 16 = .ok (.iconst 1, 1) := by decide +kernel
theorem dX7_startsItem_17 : decode cX7_startsItem 17 = .ok (.goto 4, 3) := by decide +kernel
theorem dX7_startsItem_20 : decode cX7_startsItem 20 = .ok (.iconst 0, 1) := by decide +kernel
theorem dX7_startsItem_21 : decode cX7_startsItem 21 = .ok (.ireturn, 1) := by decide +kernel
theorem dX7_endsItem_0 : decode cX7_endsItem 0 = .ok (.iload_n 0, 1) := by decide +kernel
theorem dX7_endsItem_1 : decode cX7_endsItem 1 = .ok (.bipush 10, 2) := by decide +kernel
theorem dX7_endsItem_3 : decode cX7_endsItem 3 = .ok (.if_icmp .le 7, 3) := by decide +kernel
theorem dX7_endsItem_6 : decode cX7_endsItem 6 = .ok (.iconst 1, 1) := by decide +kernel
theorem dX7_endsItem_7 : decode cX7_endsItem 7 = .ok (.goto 4, 3) := by decide +kernel
theorem dX7_endsItem_10 : decode cX7_endsItem 10 = .ok (.iconst 0, 1) := by decide +kernel
theorem dX7_endsItem_11 : decode cX7_endsItem 11 = .ok (.ireturn, 1) := by decide +kernel
theorem dX8_init_0 : decode cX8_init 0 = .ok (.aload_n 0, 1) := by decide +kernel
theorem dX8_init_1 : decode cX8_init 1 = .ok (.invokespecial 1, 3) := by decide +kernel
theorem dX8_init_4 : decode cX8_init 4 = .ok (.aload_n 0, 1) := by decide +kernel
theorem dX8_init_5 : decode cX8_init 5 = .ok (.bipush 120, 2) := by decide +kernel
theorem dX8_init_7 : decode cX8_init 7 = .ok (.newarray .int, 2) := by decide +kernel
theorem dX8_init_9 : decode cX8_init 9 = .ok (.putfield 7, 3) := by decide +kernel
theorem dX8_init_12 : decode cX8_init 12 = .ok (.aload_n 0, 1) := by decide +kernel
theorem dX8_init_13 : decode cX8_init 13 = .ok (.sipush 184, 3) := by decide +kernel
theorem dX8_init_16 : decode cX8_init 16 = .ok (.newarray .int, 2) := by decide +kernel
theorem dX8_init_18 : decode cX8_init 18 = .ok (.putfield 13, 3) := by decide +kernel
theorem dX8_init_21 : decode cX8_init 21 = .ok (.aload_n 0, 1) := by decide +kernel
theorem dX8_init_22 : decode cX8_init 22 = .ok (.sipush 184, 3) := by decide +kernel
theorem dX8_init_25 : decode cX8_init 25 = .ok (.newarray .int, 2) := by decide +kernel
theorem dX8_init_27 : decode cX8_init 27 = .ok (.putfield 16, 3) := by decide +kernel
theorem dX8_init_30 : decode cX8_init 30 = .ok (.aload_n 0, 1) := by decide +kernel
theorem dX8_init_31 : decode cX8_init 31 = .ok (.sipush 2576, 3) := by decide +kernel
theorem dX8_init_34 : decode cX8_init 34 = .ok (.newarray .int, 2) := by decide +kernel
theorem dX8_init_36 : decode cX8_init 36 = .ok (.putfield 19, 3) := by decide +kernel
theorem dX8_init_39 : decode cX8_init 39 = .ok (.aload_n 0, 1) := by decide +kernel
theorem dX8_init_40 : decode cX8_init 40 = .ok (.sipush 368, 3) := by decide +kernel
theorem dX8_init_43 : decode cX8_init 43 = .ok (.newarray .int, 2) := by decide +kernel
theorem dX8_init_45 : decode cX8_init 45 = .ok (.putfield 22, 3) := by decide +kernel
theorem dX8_init_48 : decode cX8_init 48 = .ok (.aload_n 0, 1) := by decide +kernel
theorem dX8_init_49 : decode cX8_init 49 = .ok (.iconst 2, 1) := by decide +kernel
theorem dX8_init_50 : decode cX8_init 50 = .ok (.newarray .boolean, 2) := by decide +kernel
theorem dX8_init_52 : decode cX8_init 52 = .ok (.putfield 25, 3) := by decide +kernel
theorem dX8_init_55 : decode cX8_init 55 = .ok (.aload_n 0, 1) := by decide +kernel
theorem dX8_init_56 : decode cX8_init 56 = .ok (.sipush 184, 3) := by decide +kernel
theorem dX8_init_59 : decode cX8_init 59 = .ok (.newarray .int, 2) := by decide +kernel
theorem dX8_init_61 : decode cX8_init 61 = .ok (.putfield 29, 3) := by decide +kernel
theorem dX8_init_64 : decode cX8_init 64 = .ok (.aload_n 0, 1) := by decide +kernel
theorem dX8_init_65 : decode cX8_init 65 = .ok (.sipush 1024, 3) := by decide +kernel
theorem dX8_init_68 : decode cX8_init 68 = .ok (.newarray .int, 2) := by decide +kernel
theorem dX8_init_70 : decode cX8_init 70 = .ok (.putfield 32, 3) := by decide +kernel
theorem dX8_init_73 : decode cX8_init 73 = .ok (.aload_n 0, 1) := by decide +kernel
theorem dX8_init_74 : decode cX8_init 74 = .ok (.sipush 512, 3) := by decide +kernel
theorem dX8_init_77 : decode cX8_init 77 = .ok (.newarray .int, 2) := by decide +kernel
theorem dX8_init_79 : decode cX8_init 79 = .ok (.putfield 35, 3) := by decide +kernel
theorem dX8_init_82 : decode cX8_init 82 = .ok (.aload_n 0, 1) := by decide +kernel
theorem dX8_init_83 : decode cX8_init 83 = .ok (.sipush 128, 3) := by decide +kernel
theorem dX8_init_86 : decode cX8_init 86 = .ok (.newarray .int, 2) := by decide +kernel
theorem dX8_init_88 : decode cX8_init 88 = .ok (.putfield 38, 3) := by decide +kernel
theorem dX8_init_91 : decode cX8_init 91 = .ok (.aload_n 0, 1) := by decide +kernel
theorem dX8_init_92 : decode cX8_init 92 = .ok (.sipush 128, 3) := by decide +kernel
theorem dX8_init_95 : decode cX8_init 95 = .ok (.newarray .int, 2) := by decide +kernel
theorem dX8_init_97 : decode cX8_init 97 = .ok (.putfield 41, 3) := by decide +kernel
theorem dX8_init_100 : decode cX8_init 100 = .ok (.aload_n 0, 1) := by decide +kernel
theorem dX8_init_101 : decode cX8_init 101 = .ok (.sipush 128, 3) := by decide +kernel
theorem dX8_init_104 : decode cX8_init 104 = .ok (.newarray .int, 2) := by decide +kernel
theorem dX8_init_106 : decode cX8_init 106 = .ok (.putfield 44, 3) := by decide +kernel
theorem dX8_init_109 : decode cX8_init 109 = .ok (.aload_n 0, 1) := by decide +kernel
theorem dX8_init_110 : decode cX8_init 110 = .ok (.sipush 128, 3) := by decide +kernel
theorem dX8_init_113 : decode cX8_init 113 = .ok (.newarray .boolean, 2) := by decide +kernel
theorem dX8_init_115 : decode cX8_init 115 = .ok (.putfield 47, 3) := by decide +kernel
theorem dX8_init_118 : decode cX8_init 118 = .ok (.aload_n 0, 1) := by decide +kernel
theorem dX8_init_119 : decode cX8_init 119 = .ok (.sipush 128, 3) := by decide +kernel
theorem dX8_init_122 : decode cX8_init 122 = .ok (.newarray .boolean, 2) := by decide +kernel
theorem dX8_init_124 : decode cX8_init 124 = .ok (.putfield 50, 3) := by decide +kernel
theorem dX8_init_127 : decode cX8_init 127 = .ok (.aload_n 0, 1) := by decide +kernel
theorem dX8_init_128 : decode cX8_init 128 = .ok (.sipush 128, 3) := by decide +kernel
theorem dX8_init_131 : decode cX8_init 131 = .ok (.newarray .boolean, 2) := by decide +kernel
theorem dX8_init_133 : decode cX8_init 133 = .ok (.putfield 53, 3) := by decide +kernel
theorem dX8_init_136 : decode cX8_init 136 = .ok (.aload_n 0, 1) := by decide +kernel
theorem dX8_init_137 : decode cX8_init 137 = .ok (.sipush 512, 3) := by decide +kernel
theorem dX8_init_140 : decode cX8_init 140 = .ok (.newarray .int, 2) := by decide +kernel
theorem dX8_init_142 : decode cX8_init 142 = .ok (.putfield 56, 3) := by decide +kernel
theorem dX8_init_145 : decode cX8_init 145 = .ok (.aload_n 0, 1) := by decide +kernel
theorem dX8_init_146 : decode cX8_init 146 = .ok (.sipush 512, 3) := by decide +kernel
theorem dX8_init_149 : decode cX8_init 149 = .ok (.newarray .int, 2) := by decide +kernel
theorem dX8_init_151 : decode cX8_init 151 = .ok (.putfield 59, 3) := by decide +kernel
theorem dX8_init_154 : decode cX8_init 154 = .ok (.aload_n 0, 1) := by decide +kernel
theorem dX8_init_155 : decode cX8_init 155 = .ok (.sipush 512, 3) := by decide +kernel
theorem dX8_init_158 : decode cX8_init 158 = .ok (.newarray .int, 2) := by decide +kernel
theorem dX8_init_160 : decode cX8_init 160 = .ok (.putfield 62, 3) := by decide +kernel
theorem dX8_init_163 : decode cX8_init 163 = .ok (.aload_n 0, 1) := by decide +kernel
theorem dX8_init_164 : decode cX8_init 164 = .ok (.sipush 512, 3) := by decide +kernel
theorem dX8_init_167 : decode cX8_init 167 = .ok (.newarray .int, 2) := by decide +kernel
theorem dX8_init_169 : decode cX8_init 169 = .ok (.putfield 65, 3) := by decide +kernel
theorem dX8_init_172 : decode cX8_init 172 = .ok (.aload_n 0, 1) := by decide +kernel
theorem dX8_init_173 : decode cX8_init 173 = .ok (.bipush 64, 2) := by decide +kernel
theorem dX8_init_175 : decode cX8_init 175 = .ok (.newarray .int, 2) := by decide +kernel
theorem dX8_init_177 : decode cX8_init 177 = .ok (.putfield 68, 3) := by decide +kernel
theorem dX8_init_180 : decode cX8_init 180 = .ok (.aload_n 0, 1) := by decide +kernel
theorem dX8_init_181 : decode cX8_init 181 = .ok (.getfield 13, 3) := by decide +kernel
theorem dX8_init_184 : decode cX8_init 184 = .ok (.sipush 182, 3) := by decide +kernel
theorem dX8_init_187 : decode cX8_init 187 = .ok (.bipush (-9), 2) := by decide +kernel
theorem dX8_init_189 : decode cX8_init 189 = .ok (.iastore, 1) := by decide +kernel
theorem dX8_init_190 : decode cX8_init 190 = .ok (.aload_n 0, 1) := by decide +kernel
theorem dX8_init_191 : decode cX8_init 191 = .ok (.getfield 29, 3) := by decide +kernel
theorem dX8_init_194 : decode cX8_init 194 = .ok (.sipush 182, 3) := by decide +kernel
theorem dX8_init_197 : decode cX8_init 197 = .ok (.bipush (-9), 2) := by decide +kernel
theorem dX8_init_199 : decode cX8_init 199 = .ok (.iastore, 1) := by decide +kernel
theorem dX8_init_200 : decode cX8_init 200 = .ok (.return_, 1) := by decide +kernel
theorem dX8_thrown_0 : decode cX8_thrown 0 = .ok (.aload_n 0, 1) := by decide +kernel
theorem dX8_thrown_1 : decode cX8_thrown 1 = .ok (.getfield 71, 3) := by decide +kernel
theorem dX8_thrown_4 : decode cX8_thrown 4 = .ok (.ireturn, 1) := by decide +kernel
theorem dX8_refused_0 : decode cX8_refused 0 = .ok (.aload_n 0, 1) := by decide +kernel
theorem dX8_refused_1 : decode cX8_refused 1 = .ok (.iload_n 1, 1) := by decide +kernel
theorem dX8_refused_2 : decode cX8_refused 2 = .ok (.putfield 71, 3) := by decide +kernel
theorem dX8_refused_5 : decode cX8_refused 5 = .ok (.iload_n 1, 1) := by decide +kernel
theorem dX8_refused_6 : decode cX8_refused 6 = .ok (.ifCond .le 7, 3) := by decide +kernel
theorem dX8_refused_9 : decode cX8_refused 9 = .ok (.iconst 1, 1) := by decide +kernel
theorem dX8_refused_10 : decode cX8_refused 10 = .ok (.goto 4, 3) := by decide +kernel
theorem dX8_refused_13 : decode cX8_refused 13 = .ok (.iconst 0, 1) := by decide +kernel
theorem dX8_refused_14 : decode cX8_refused 14 = .ok (.ireturn, 1) := by decide +kernel
theorem dX8_in_0 : decode cX8_in 0 = .ok (.lload_n 0, 1) := by decide +kernel
theorem dX8_in_1 : decode cX8_in 1 = .ok (.lload_n 2, 1) := by decide +kernel
theorem dX8_in_2 : decode cX8_in 2 = .ok (.lcmp, 1) := by decide +kernel
theorem dX8_in_3 : decode cX8_in 3 = .ok (.ifCond .lt 14, 3) := by decide +kernel
theorem dX8_in_6 : decode cX8_in 6 = .ok (.lload_n 0, 1) := by decide +kernel
theorem dX8_in_7 : decode cX8_in 7 = .ok (.lload 4, 2) := by decide +kernel
theorem dX8_in_9 : decode cX8_in 9 = .ok (.lcmp, 1) := by decide +kernel
theorem dX8_in_10 : decode cX8_in 10 = .ok (.ifCond .gt 7, 3) := by decide +kernel
theorem dX8_in_13 : decode cX8_in 13 = .ok (.iconst 1, 1) := by decide +kernel
theorem dX8_in_14 : decode cX8_in 14 = .ok (.goto 4, 3) := by decide +kernel
theorem dX8_in_17 : decode cX8_in 17 = .ok (.iconst 0, 1) := by decide +kernel
theorem dX8_in_18 : decode cX8_in 18 = .ok (.ireturn, 1) := by decide +kernel
theorem dX8_copyPage_0 : decode cX8_copyPage 0 = .ok (.iconst 0, 1) := by decide +kernel
theorem dX8_copyPage_1 : decode cX8_copyPage 1 = .ok (.istore 4, 2) := by decide +kernel
theorem dX8_copyPage_3 : decode cX8_copyPage 3 = .ok (.iload 4, 2) := by decide +kernel
theorem dX8_copyPage_5 : decode cX8_copyPage 5 = .ok (.sipush 184, 3) := by decide +kernel
theorem dX8_copyPage_8 : decode cX8_copyPage 8 = .ok (.if_icmp .ge 21, 3) := by decide +kernel
theorem dX8_copyPage_11 : decode cX8_copyPage 11 = .ok (.aload_n 2, 1) := by decide +kernel
theorem dX8_copyPage_12 : decode cX8_copyPage 12 = .ok (.iload_n 3, 1) := by decide +kernel
theorem dX8_copyPage_13 : decode cX8_copyPage 13 = .ok (.iload 4, 2) := by decide +kernel
theorem dX8_copyPage_15 : decode cX8_copyPage 15 = .ok (.iadd, 1) := by decide +kernel
theorem dX8_copyPage_16 : decode cX8_copyPage 16 = .ok (.aload_n 0, 1) := by decide +kernel
theorem dX8_copyPage_17 : decode cX8_copyPage 17 = .ok (.iload_n 1, 1) := by decide +kernel
theorem dX8_copyPage_18 : decode cX8_copyPage 18 = .ok (.iload 4, 2) := by decide +kernel
theorem dX8_copyPage_20 : decode cX8_copyPage 20 = .ok (.iadd, 1) := by decide +kernel
theorem dX8_copyPage_21 : decode cX8_copyPage 21 = .ok (.iaload, 1) := by decide +kernel
theorem dX8_copyPage_22 : decode cX8_copyPage 22 = .ok (.iastore, 1) := by decide +kernel
theorem dX8_copyPage_23 : decode cX8_copyPage 23 = .ok (.iinc 4 1, 3) := by decide +kernel
theorem dX8_copyPage_26 : decode cX8_copyPage 26 = .ok (.goto (-23), 3) := by decide +kernel
theorem dX8_copyPage_29 : decode cX8_copyPage 29 = .ok (.return_, 1) := by decide +kernel
theorem dX8_isLetter_0 : decode cX8_isLetter 0 = .ok (.iload_n 0, 1) := by decide +kernel
theorem dX8_isLetter_1 : decode cX8_isLetter 1 = .ok (.i2l, 1) := by decide +kernel
theorem dX8_isLetter_2 : decode cX8_isLetter 2 = .ok (.ldc2_w 75, 3) := by decide +kernel
theorem dX8_isLetter_5 : decode cX8_isLetter 5 = .ok (.ldc2_w 77, 3) := by decide +kernel
theorem dX8_isLetter_8 : decode cX8_isLetter 8 = .ok (.invokestatic 79, 3) := by decide +kernel
theorem dX8_isLetter_11 : decode cX8_isLetter 11 = .ok (.ifCond .eq 13, 3) := by decide +kernel
theorem dX8_isLetter_14 : decode cX8_isLetter 14 = .ok (.iload_n 0, 1) := by decide +kernel
theorem dX8_isLetter_15 : decode cX8_isLetter 15 = .ok (.bipush 114, 2) := by decide +kernel
theorem dX8_isLetter_17 : decode cX8_isLetter 17 = .ok (.if_icmp .eq 7, 3) := by decide +kernel
theorem dX8_isLetter_20 : decode cX8_isLetter 20 = .ok (.iconst 1, 1) := by decide +kernel
theorem dX8_isLetter_21 : decode cX8_isLetter 21 = .ok (.goto 4, 3) := by decide +kernel
theorem dX8_isLetter_24 : decode cX8_isLetter 24 = .ok (.iconst 0, 1) := by decide +kernel
theorem dX8_isLetter_25 : decode cX8_isLetter 25 = .ok (.ireturn, 1) := by decide +kernel
theorem dX8_isDigit_0 : decode cX8_isDigit 0 = .ok (.iload_n 0, 1) := by decide +kernel
theorem dX8_isDigit_1 : decode cX8_isDigit 1 = .ok (.i2l, 1) := by decide +kernel
theorem dX8_isDigit_2 : decode cX8_isDigit 2 = .ok (.ldc2_w 83, 3) := by decide +kernel
theorem dX8_isDigit_5 : decode cX8_isDigit 5 = .ok (.ldc2_w 85, 3) := by decide +kernel
theorem dX8_isDigit_8 : decode cX8_isDigit 8 = .ok (.invokestatic 79, 3) := by decide +kernel
theorem dX8_isDigit_11 : decode cX8_isDigit 11 = .ok (.ireturn, 1) := by decide +kernel
theorem dX8_isMark_0 : decode cX8_isMark 0 = .ok (.iload_n 0, 1) := by decide +kernel
theorem dX8_isMark_1 : decode cX8_isMark 1 = .ok (.bipush 43, 2) := by decide +kernel
theorem dX8_isMark_3 : decode cX8_isMark 3 = .ok (.if_icmp .eq 33, 3) := by decide +kernel
theorem dX8_isMark_6 : decode cX8_isMark 6 = .ok (.iload_n 0, 1) := by decide +kernel
theorem dX8_isMark_7 : decode cX8_isMark 7 = .ok (.bipush 45, 2) := by decide +kernel
theorem dX8_isMark_9 : decode cX8_isMark 9 = .ok (.if_icmp .eq 27, 3) := by decide +kernel
theorem dX8_isMark_12 : decode cX8_isMark 12 = .ok (.iload_n 0, 1) := by decide +kernel
theorem dX8_isMark_13 : decode cX8_isMark 13 = .ok (.bipush 42, 2) := by decide +kernel
theorem dX8_isMark_15 : decode cX8_isMark 15 = .ok (.if_icmp .eq 21, 3) := by decide +kernel
theorem dX8_isMark_18 : decode cX8_isMark 18 = .ok (.iload_n 0, 1) := by decide +kernel
theorem dX8_isMark_19 : decode cX8_isMark 19 = .ok (.bipush 61, 2) := by decide +kernel
theorem dX8_isMark_21 : decode cX8_isMark 21 = .ok (.if_icmp .eq 15, 3) := by decide +kernel
theorem dX8_isMark_24 : decode cX8_isMark 24 = .ok (.iload_n 0, 1) := by decide +kernel
theorem dX8_isMark_25 : decode cX8_isMark 25 = .ok (.bipush 44, 2) := by decide +kernel
theorem dX8_isMark_27 : decode cX8_isMark 27 = .ok (.if_icmp .eq 9, 3) := by decide +kernel
theorem dX8_isMark_30 : decode cX8_isMark 30 = .ok (.iload_n 0, 1) := by decide +kernel
theorem dX8_isMark_31 : decode cX8_isMark 31 = .ok (.bipush 46, 2) := by decide +kernel
theorem dX8_isMark_33 : decode cX8_isMark 33 = .ok (.if_icmp .ne 7, 3) := by decide +kernel
theorem dX8_isMark_36 : decode cX8_isMark 36 = .ok (.iconst 1, 1) := by decide +kernel
theorem dX8_isMark_37 : decode cX8_isMark 37 = .ok (.goto 4, 3) := by decide +kernel
theorem dX8_isMark_40 : decode cX8_isMark 40 = .ok (.iconst 0, 1) := by decide +kernel
theorem dX8_isMark_41 : decode cX8_isMark 41 = .ok (.ireturn, 1) := by decide +kernel
theorem dX8_isSymbol_0 : decode cX8_isSymbol 0 = .ok (.iload_n 0, 1) := by decide +kernel
theorem dX8_isSymbol_1 : decode cX8_isSymbol 1 = .ok (.invokestatic 87, 3) := by decide +kernel
theorem dX8_isSymbol_4 : decode cX8_isSymbol 4 = .ok (.ifCond .ne 17, 3) := by decide +kernel
theorem dX8_isSymbol_7 : decode cX8_isSymbol 7 = .ok (.iload_n 0, 1) := by decide +kernel
theorem dX8_isSymbol_8 : decode cX8_isSymbol 8 = .ok (.invokestatic 91, 3) := by decide +kernel
theorem dX8_isSymbol_11 : decode cX8_isSymbol 11 = .ok (.ifCond .ne 10, 3) := by decide +kernel
theorem dX8_isSymbol_14 : decode cX8_isSymbol 14 = .ok (.iload_n 0, 1) := by decide +kernel
theorem dX8_isSymbol_15 : decode cX8_isSymbol 15 = .ok (.invokestatic 94, 3) := by decide +kernel
theorem dX8_isSymbol_18 : decode cX8_isSymbol 18 = .ok (.ifCond .eq 7, 3) := by decide +kernel
theorem dX8_isSymbol_21 : decode cX8_isSymbol 21 = .ok (.iconst 1, 1) := by decide +kernel
theorem dX8_isSymbol_22 : decode cX8_isSymbol 22 = .ok (.goto 4, 3) := by decide +kernel
theorem dX8_isSymbol_25 : decode cX8_isSymbol 25 = .ok (.iconst 0, 1) := by decide +kernel
theorem dX8_isSymbol_26 : decode cX8_isSymbol 26 = .ok (.ireturn, 1) := by decide +kernel
theorem dX8_isBegin_0 : decode cX8_isBegin 0 = .ok (.iload_n 0, 1) := by decide +kernel
theorem dX8_isBegin_1 : decode cX8_isBegin 1 = .ok (.ifCond .ge 13, 3) := by decide +kernel
theorem dX8_isBegin_4 : decode cX8_isBegin 4 = .ok (.iload_n 0, 1) := by decide +kernel
theorem dX8_isBegin_5 : decode cX8_isBegin 5 = .ok (.bipush (-10), 2) := by decide +kernel
theorem dX8_isBegin_7 : decode cX8_isBegin 7 = .ok (.if_icmp .le 7, 3) := by decide +kernel
theorem dX8_isBegin_10 : decode cX8_isBegin 10 = .ok (.iconst 1, 1) := by decide +kernel
theorem dX8_isBegin_11 : decode cX8_isBegin 11 = .ok (.goto 4, 3) := by decide +kernel
theorem dX8_isBegin_14 : decode cX8_isBegin 14 = .ok (.iconst 0, 1) := by decide +kernel
theorem dX8_isBegin_15 : decode cX8_isBegin 15 = .ok (.ireturn, 1) := by decide +kernel
theorem dX8_beginOf_0 : decode cX8_beginOf 0 = .ok (.iconst 0, 1) := by decide +kernel
theorem dX8_beginOf_1 : decode cX8_beginOf 1 = .ok (.istore_n 2, 1) := by decide +kernel
theorem dX8_beginOf_2 : decode cX8_beginOf 2 = .ok (.iload_n 1, 1) := by decide +kernel
theorem dX8_beginOf_3 : decode cX8_beginOf 3 = .ok (.iconst 1, 1) := by decide +kernel
theorem dX8_beginOf_4 : decode cX8_beginOf 4 = .ok (.isub, 1) := by decide +kernel
theorem dX8_beginOf_5 : decode cX8_beginOf 5 = .ok (.istore_n 3, 1) := by decide +kernel
theorem dX8_beginOf_6 : decode cX8_beginOf 6 = .ok (.iload_n 2, 1) := by decide +kernel
theorem dX8_beginOf_7 : decode cX8_beginOf 7 = .ok (.ifCond .gt 12, 3) := by decide +kernel
theorem dX8_beginOf_10 : decode cX8_beginOf 10 = .ok (.aload_n 0, 1) := by decide +kernel
theorem dX8_beginOf_11 : decode cX8_beginOf 11 = .ok (.iload_n 3, 1) := by decide +kernel
theorem dX8_beginOf_12 : decode cX8_beginOf 12 = .ok (.iaload, 1) := by decide +kernel
theorem dX8_beginOf_13 : decode cX8_beginOf 13 = .ok (.invokestatic 97, 3) := by decide +kernel
theorem dX8_beginOf_16 : decode cX8_beginOf 16 = .ok (.ifCond .ne 38, 3) := by decide +kernel
theorem dX8_beginOf_19 : decode cX8_beginOf 19 = .ok (.iload_n 2, 1) := by decide +kernel
theorem dX8_beginOf_20 : decode cX8_beginOf 20 = .ok (.aload_n 0, 1) := by decide +kernel
theorem dX8_beginOf_21 : decode cX8_beginOf 21 = .ok (.iload_n 3, 1) := by decide +kernel
theorem dX8_beginOf_22 : decode cX8_beginOf 22 = .ok (.iaload, 1) := by decide +kernel
theorem dX8_beginOf_23 : decode cX8_beginOf 23 = .ok (.bipush (-11), 2) := by decide +kernel
theorem dX8_beginOf_25 : decode cX8_beginOf 25 = .ok (.if_icmp .ne 7, 3) := by decide +kernel
theorem dX8_beginOf_28 : decode cX8_beginOf 28 = .ok (.iconst 1, 1) := by decide +kernel
theorem dX8_beginOf_29 : decode cX8_beginOf 29 = .ok (.goto 17, 3) := by decide +kernel
theorem dX8_beginOf_32 : decode cX8_beginOf 32 = .ok (.aload_n 0, 1) := by decide +kernel
theorem dX8_beginOf_33 : decode cX8_beginOf 33 = .ok (.iload_n 3, 1) := by decide +kernel
theorem dX8_beginOf_34 : decode cX8_beginOf 34 = .ok (.iaload, 1) := by decide +kernel
theorem dX8_beginOf_35 : decode cX8_beginOf 35 = .ok (.invokestatic 97, 3) := by decide +kernel
theorem dX8_beginOf_38 : decode cX8_beginOf 38 = .ok (.ifCond .eq 7, 3) := by decide +kernel
theorem dX8_beginOf_41 : decode cX8_beginOf 41 = .ok (.iconst (-1), 1) := by decide +kernel
theorem dX8_beginOf_42 : decode cX8_beginOf 42 = .ok (.goto 4, 3) := by decide +kernel
theorem dX8_beginOf_45 : decode cX8_beginOf 45 = .ok (.iconst 0, 1) := by decide +kernel
theorem dX8_beginOf_46 : decode cX8_beginOf 46 = .ok (.iadd, 1) := by decide +kernel
theorem dX8_beginOf_47 : decode cX8_beginOf 47 = .ok (.istore_n 2, 1) := by decide +kernel
theorem dX8_beginOf_48 : decode cX8_beginOf 48 = .ok (.iinc 3 (-1), 3) := by decide +kernel
theorem dX8_beginOf_51 : decode cX8_beginOf 51 = .ok (.goto (-45), 3) := by decide +kernel
theorem dX8_beginOf_54 : decode cX8_beginOf 54 = .ok (.iload_n 3, 1) := by decide +kernel
theorem dX8_beginOf_55 : decode cX8_beginOf 55 = .ok (.ireturn, 1) := by decide +kernel
theorem dX8_endOf_0 : decode cX8_endOf 0 = .ok (.iconst 0, 1) := by decide +kernel
theorem dX8_endOf_1 : decode cX8_endOf 1 = .ok (.istore_n 2, 1) := by decide +kernel
theorem dX8_endOf_2 : decode cX8_endOf 2 = .ok (.iload_n 1, 1) := by decide +kernel
theorem dX8_endOf_3 : decode cX8_endOf 3 = .ok (.istore_n 3, 1) := by decide +kernel
theorem dX8_endOf_4 : decode cX8_endOf 4 = .ok (.iload_n 2, 1) := by decide +kernel
theorem dX8_endOf_5 : decode cX8_endOf 5 = .ok (.ifCond .gt 11, 3) := by decide +kernel
theorem dX8_endOf_8 : decode cX8_endOf 8 = .ok (.aload_n 0, 1) := by decide +kernel
theorem dX8_endOf_9 : decode cX8_endOf 9 = .ok (.iload_n 3, 1) := by decide +kernel
theorem dX8_endOf_10 : decode cX8_endOf 10 = .ok (.iaload, 1) := by decide +kernel
theorem dX8_endOf_11 : decode cX8_endOf 11 = .ok (.bipush (-11), 2) := by decide +kernel
theorem dX8_endOf_13 : decode cX8_endOf 13 = .ok (.if_icmp .eq 38, 3) := by decide +kernel
theorem dX8_endOf_16 : decode cX8_endOf 16 = .ok (.iload_n 2, 1) := by decide +kernel
theorem dX8_endOf_17 : decode cX8_endOf 17 = .ok (.aload_n 0, 1) := by decide +kernel
theorem dX8_endOf_18 : decode cX8_endOf 18 = .ok (.iload_n 3, 1) := by decide +kernel
theorem dX8_endOf_19 : decode cX8_endOf 19 = .ok (.iaload, 1) := by decide +kernel
theorem dX8_endOf_20 : decode cX8_endOf 20 = .ok (.invokestatic 97, 3) := by decide +kernel
theorem dX8_endOf_23 : decode cX8_endOf 23 = .ok (.ifCond .eq 7, 3) := by decide +kernel
theorem dX8_endOf_26 : decode cX8_endOf 26 = .ok (.iconst 1, 1) := by decide +kernel
theorem dX8_endOf_27 : decode cX8_endOf 27 = .ok (.goto 16, 3) := by decide +kernel
theorem dX8_endOf_30 : decode cX8_endOf 30 = .ok (.aload_n 0, 1) := by decide +kernel
theorem dX8_endOf_31 : decode cX8_endOf 31 = .ok (.iload_n 3, 1) := by decide +kernel
theorem dX8_endOf_32 : decode cX8_endOf 32 = .ok (.iaload, 1) := by decide +kernel
theorem dX8_endOf_33 : decode cX8_endOf 33 = .ok (.bipush (-11), 2) := by decide +kernel
theorem dX8_endOf_35 : decode cX8_endOf 35 = .ok (.if_icmp .ne 7, 3) := by decide +kernel
theorem dX8_endOf_38 : decode cX8_endOf 38 = .ok (.iconst (-1), 1) := by decide +kernel
theorem dX8_endOf_39 : decode cX8_endOf 39 = .ok (.goto 4, 3) := by decide +kernel
theorem dX8_endOf_42 : decode cX8_endOf 42 = .ok (.iconst 0, 1) := by decide +kernel
theorem dX8_endOf_43 : decode cX8_endOf 43 = .ok (.iadd, 1) := by decide +kernel
theorem dX8_endOf_44 : decode cX8_endOf 44 = .ok (.istore_n 2, 1) := by decide +kernel
theorem dX8_endOf_45 : decode cX8_endOf 45 = .ok (.iinc 3 1, 3) := by decide +kernel
theorem dX8_endOf_48 : decode cX8_endOf 48 = .ok (.goto (-44), 3) := by decide +kernel
theorem dX8_endOf_51 : decode cX8_endOf 51 = .ok (.iload_n 3, 1) := by decide +kernel
theorem dX8_endOf_52 : decode cX8_endOf 52 = .ok (.ireturn, 1) := by decide +kernel
theorem dX8_rowStart_0 : decode cX8_rowStart 0 = .ok (.iconst 0, 1) := by decide +kernel
theorem dX8_rowStart_1 : decode cX8_rowStart 1 = .ok (.istore_n 2, 1) := by decide +kernel
theorem dX8_rowStart_2 : decode cX8_rowStart 2 = .ok (.iload_n 1, 1) := by decide +kernel
theorem dX8_rowStart_3 : decode cX8_rowStart 3 = .ok (.iconst 1, 1) := by decide +kernel
theorem dX8_rowStart_4 : decode cX8_rowStart 4 = .ok (.isub, 1) := by decide +kernel
theorem dX8_rowStart_5 : decode cX8_rowStart 5 = .ok (.istore_n 3, 1) := by decide +kernel
theorem dX8_rowStart_6 : decode cX8_rowStart 6 = .ok (.iload_n 3, 1) := by decide +kernel
theorem dX8_rowStart_7 : decode cX8_rowStart 7 = .ok (.ifCond .lt 59, 3) := by decide +kernel
theorem dX8_rowStart_10 : decode cX8_rowStart 10 = .ok (.iload_n 2, 1) := by decide +kernel
theorem dX8_rowStart_11 : decode cX8_rowStart 11 = .ok (.ifCond .gt 20, 3) := by decide +kernel
theorem dX8_rowStart_14 : decode cX8_rowStart 14 = .ok (.aload_n 0, 1) := by decide +kernel
theorem dX8_rowStart_15 : decode cX8_rowStart 15 = .ok (.iload_n 3, 1) := by decide +kernel
theorem dX8_rowStart_16 : decode cX8_rowStart 16 = .ok (.iaload, 1) := by decide +kernel
theorem dX8_rowStart_17 : decode cX8_rowStart 17 = .ok (.invokestatic 97, 3) := by decide +kernel
theorem dX8_rowStart_20 : decode cX8_rowStart 20 = .ok (.ifCond .ne 46, 3) := by decide +kernel
theorem dX8_rowStart_23 : decode cX8_rowStart 23 = .ok (.aload_n 0, 1) := by decide +kernel
theorem dX8_rowStart_24 : decode cX8_rowStart 24 = .ok (.iload_n 3, 1) := by decide +kernel
theorem dX8_rowStart_25 : decode cX8_rowStart 25 = .ok (.iaload, 1) := by decide +kernel
theorem dX8_rowStart_26 : decode cX8_rowStart 26 = .ok (.bipush (-10), 2) := by decide +kernel
theorem dX8_rowStart_28 : decode cX8_rowStart 28 = .ok (.if_icmp .eq 38, 3) := by decide +kernel
theorem dX8_rowStart_31 : decode cX8_rowStart 31 = .ok (.iload_n 2, 1) := by decide +kernel
theorem dX8_rowStart_32 : decode cX8_rowStart 32 = .ok (.aload_n 0, 1) := by decide +kernel
theorem dX8_rowStart_33 : decode cX8_rowStart 33 = .ok (.iload_n 3, 1) := by decide +kernel
theorem dX8_rowStart_34 : decode cX8_rowStart 34 = .ok (.iaload, 1) := by decide +kernel
theorem dX8_rowStart_35 : decode cX8_rowStart 35 = .ok (.bipush (-11), 2) := by decide +kernel
theorem dX8_rowStart_37 : decode cX8_rowStart 37 = .ok (.if_icmp .ne 7, 3) := by decide +kernel
theorem dX8_rowStart_40 : decode cX8_rowStart 40 = .ok (.iconst 1, 1) := by decide +kernel
theorem dX8_rowStart_41 : decode cX8_rowStart 41 = .ok (.goto 17, 3) := by decide +kernel
theorem dX8_rowStart_44 : decode cX8_rowStart 44 = .ok (.aload_n 0, 1) := by decide +kernel
theorem dX8_rowStart_45 : decode cX8_rowStart 45 = .ok (.iload_n 3, 1) := by decide +kernel
theorem dX8_rowStart_46 : decode cX8_rowStart 46 = .ok (.iaload, 1) := by decide +kernel
theorem dX8_rowStart_47 : decode cX8_rowStart 47 = .ok (.invokestatic 97, 3) := by decide +kernel
theorem dX8_rowStart_50 : decode cX8_rowStart 50 = .ok (.ifCond .eq 7, 3) := by decide +kernel
theorem dX8_rowStart_53 : decode cX8_rowStart 53 = .ok (.iconst (-1), 1) := by decide +kernel
theorem dX8_rowStart_54 : decode cX8_rowStart 54 = .ok (.goto 4, 3) := by decide +kernel
theorem dX8_rowStart_57 : decode cX8_rowStart 57 = .ok (.iconst 0, 1) := by decide +kernel
theorem dX8_rowStart_58 : decode cX8_rowStart 58 = .ok (.iadd, 1) := by decide +kernel
theorem dX8_rowStart_59 : decode cX8_rowStart 59 = .ok (.istore_n 2, 1) := by decide +kernel
theorem dX8_rowStart_60 : decode cX8_rowStart 60 = .ok (.iinc 3 (-1), 3) := by decide +kernel
theorem dX8_rowStart_63 : decode cX8_rowStart 63 = .ok (.goto (-57), 3) := by decide +kernel
theorem dX8_rowStart_66 : decode cX8_rowStart 66 = .ok (.iload_n 3, 1) := by decide +kernel
theorem dX8_rowStart_67 : decode cX8_rowStart 67 = .ok (.iconst 1, 1) := by decide +kernel
theorem dX8_rowStart_68 : decode cX8_rowStart 68 = .ok (.iadd, 1) := by decide +kernel
theorem dX8_rowStart_69 : decode cX8_rowStart 69 = .ok (.ireturn, 1) := by decide +kernel
theorem dX8_rowEnd_0 : decode cX8_rowEnd 0 = .ok (.iconst 0, 1) := by decide +kernel
theorem dX8_rowEnd_1 : decode cX8_rowEnd 1 = .ok (.istore_n 2, 1) := by decide +kernel
theorem dX8_rowEnd_2 : decode cX8_rowEnd 2 = .ok (.iload_n 1, 1) := by decide +kernel
theorem dX8_rowEnd_3 : decode cX8_rowEnd 3 = .ok (.istore_n 3, 1) := by decide +kernel
theorem dX8_rowEnd_4 : decode cX8_rowEnd 4 = .ok (.iload_n 3, 1) := by decide +kernel
theorem dX8_rowEnd_5 : decode cX8_rowEnd 5 = .ok (.aload_n 0, 1) := by decide +kernel
theorem dX8_rowEnd_6 : decode cX8_rowEnd 6 = .ok (.sipush 180, 3) := by decide +kernel
theorem dX8_rowEnd_9 : decode cX8_rowEnd 9 = .ok (.iaload, 1) := by decide +kernel
theorem dX8_rowEnd_10 : decode cX8_rowEnd 10 = .ok (.if_icmp .ge 58, 3) := by decide +kernel
theorem dX8_rowEnd_13 : decode cX8_rowEnd 13 = .ok (.iload_n 2, 1) := by decide +kernel
theorem dX8_rowEnd_14 : decode cX8_rowEnd 14 = .ok (.ifCond .gt 19, 3) := by decide +kernel
theorem dX8_rowEnd_17 : decode cX8_rowEnd 17 = .ok (.aload_n 0, 1) := by decide +kernel
theorem dX8_rowEnd_18 : decode cX8_rowEnd 18 = .ok (.iload_n 3, 1) := by decide +kernel
theorem dX8_rowEnd_19 : decode cX8_rowEnd 19 = .ok (.iaload, 1) := by decide +kernel
theorem dX8_rowEnd_20 : decode cX8_rowEnd 20 = .ok (.bipush (-11), 2) := by decide +kernel
theorem dX8_rowEnd_22 : decode cX8_rowEnd 22 = .ok (.if_icmp .eq 46, 3) := by decide +kernel
theorem dX8_rowEnd_25 : decode cX8_rowEnd 25 = .ok (.aload_n 0, 1) := by decide +kernel
theorem dX8_rowEnd_26 : decode cX8_rowEnd 26 = .ok (.iload_n 3, 1) := by decide +kernel
theorem dX8_rowEnd_27 : decode cX8_rowEnd 27 = .ok (.iaload, 1) := by decide +kernel
theorem dX8_rowEnd_28 : decode cX8_rowEnd 28 = .ok (.bipush (-10), 2) := by decide +kernel
theorem dX8_rowEnd_30 : decode cX8_rowEnd 30 = .ok (.if_icmp .eq 38, 3) := by decide +kernel
theorem dX8_rowEnd_33 : decode cX8_rowEnd 33 = .ok (.iload_n 2, 1) := by decide +kernel
theorem dX8_rowEnd_34 : decode cX8_rowEnd 34 = .ok (.aload_n 0, 1) := by decide +kernel
theorem dX8_rowEnd_35 : decode cX8_rowEnd 35 = .ok (.iload_n 3, 1) := by decide +kernel
theorem dX8_rowEnd_36 : decode cX8_rowEnd 36 = .ok (.iaload, 1) := by decide +kernel
theorem dX8_rowEnd_37 : decode cX8_rowEnd 37 = .ok (.invokestatic 97, 3) := by decide +kernel
theorem dX8_rowEnd_40 : decode cX8_rowEnd 40 = .ok (.ifCond .eq 7, 3) := by decide +kernel
theorem dX8_rowEnd_43 : decode cX8_rowEnd 43 = .ok (.iconst 1, 1) := by decide +kernel
theorem dX8_rowEnd_44 : decode cX8_rowEnd 44 = .ok (.goto 16, 3) := by decide +kernel
theorem dX8_rowEnd_47 : decode cX8_rowEnd 47 = .ok (.aload_n 0, 1) := by decide +kernel
theorem dX8_rowEnd_48 : decode cX8_rowEnd 48 = .ok (.iload_n 3, 1) := by decide +kernel
theorem dX8_rowEnd_49 : decode cX8_rowEnd 49 = .ok (.iaload, 1) := by decide +kernel
theorem dX8_rowEnd_50 : decode cX8_rowEnd 50 = .ok (.bipush (-11), 2) := by decide +kernel
theorem dX8_rowEnd_52 : decode cX8_rowEnd 52 = .ok (.if_icmp .ne 7, 3) := by decide +kernel
theorem dX8_rowEnd_55 : decode cX8_rowEnd 55 = .ok (.iconst (-1), 1) := by decide +kernel
theorem dX8_rowEnd_56 : decode cX8_rowEnd 56 = .ok (.goto 4, 3) := by decide +kernel
theorem dX8_rowEnd_59 : decode cX8_rowEnd 59 = .ok (.iconst 0, 1) := by decide +kernel
theorem dX8_rowEnd_60 : decode cX8_rowEnd 60 = .ok (.iadd, 1) := by decide +kernel
theorem dX8_rowEnd_61 : decode cX8_rowEnd 61 = .ok (.istore_n 2, 1) := by decide +kernel
theorem dX8_rowEnd_62 : decode cX8_rowEnd 62 = .ok (.iinc 3 1, 3) := by decide +kernel
theorem dX8_rowEnd_65 : decode cX8_rowEnd 65 = .ok (.goto (-61), 3) := by decide +kernel
theorem dX8_rowEnd_68 : decode cX8_rowEnd 68 = .ok (.iload_n 3, 1) := by decide +kernel
theorem dX8_rowEnd_69 : decode cX8_rowEnd 69 = .ok (.ireturn, 1) := by decide +kernel
theorem dX8_itemStart_0 : decode cX8_itemStart 0 = .ok (.aload_n 0, 1) := by decide +kernel
theorem dX8_itemStart_1 : decode cX8_itemStart 1 = .ok (.iload_n 1, 1) := by decide +kernel
theorem dX8_itemStart_2 : decode cX8_itemStart 2 = .ok (.iconst 1, 1) := by decide +kernel
theorem dX8_itemStart_3 : decode cX8_itemStart 3 = .ok (.isub, 1) := by decide +kernel
theorem dX8_itemStart_4 : decode cX8_itemStart 4 = .ok (.iaload, 1) := by decide +kernel
theorem dX8_itemStart_5 : decode cX8_itemStart 5 = .ok (.bipush (-11), 2) := by decide +kernel
theorem dX8_itemStart_7 : decode cX8_itemStart 7 = .ok (.if_icmp .ne 13, 3) := by decide +kernel
theorem dX8_itemStart_10 : decode cX8_itemStart 10 = .ok (.aload_n 0, 1) := by decide +kernel
theorem dX8_itemStart_11 : decode cX8_itemStart 11 = .ok (.iload_n 1, 1) := by decide +kernel
theorem dX8_itemStart_12 : decode cX8_itemStart 12 = .ok (.iconst 1, 1) := by decide +kernel
theorem dX8_itemStart_13 : decode cX8_itemStart 13 = .ok (.isub, 1) := by decide +kernel
theorem dX8_itemStart_14 : decode cX8_itemStart 14 = .ok (.invokestatic 100, 3) := by decide +kernel
theorem dX8_itemStart_17 : decode cX8_itemStart 17 = .ok (.goto 6, 3) := by decide +kernel
theorem dX8_itemStart_20 : decode cX8_itemStart 20 = .ok (.iload_n 1, 1) := by decide +kernel
theorem dX8_itemStart_21 : decode cX8_itemStart 21 = .ok (.iconst 1, 1) := by decide +kernel
theorem dX8_itemStart_22 : decode cX8_itemStart 22 = .ok (.isub, 1) := by decide +kernel
theorem dX8_itemStart_23 : decode cX8_itemStart 23 = .ok (.ireturn, 1) := by decide +kernel
theorem dX8_itemEnd_0 : decode cX8_itemEnd 0 = .ok (.aload_n 0, 1) := by decide +kernel
theorem dX8_itemEnd_1 : decode cX8_itemEnd 1 = .ok (.iload_n 1, 1) := by decide +kernel
theorem dX8_itemEnd_2 : decode cX8_itemEnd 2 = .ok (.iaload, 1) := by decide +kernel
theorem dX8_itemEnd_3 : decode cX8_itemEnd 3 = .ok (.invokestatic 97, 3) := by decide +kernel
theorem dX8_itemEnd_6 : decode cX8_itemEnd 6 = .ok (.ifCond .eq 15, 3) := by decide +kernel
theorem dX8_itemEnd_9 : decode cX8_itemEnd 9 = .ok (.aload_n 0, 1) := by decide +kernel
theorem dX8_itemEnd_10 : decode cX8_itemEnd 10 = .ok (.iload_n 1, 1) := by decide +kernel
theorem dX8_itemEnd_11 : decode cX8_itemEnd 11 = .ok (.iconst 1, 1) := by decide +kernel
theorem dX8_itemEnd_12 : decode cX8_itemEnd 12 = .ok (.iadd, 1) := by decide +kernel
theorem dX8_itemEnd_13 : decode cX8_itemEnd 13 = .ok (.invokestatic 104, 3) := by decide +kernel
theorem dX8_itemEnd_16 : decode cX8_itemEnd 16 = .ok (.iconst 1, 1) := by decide +kernel
theorem dX8_itemEnd_17 : decode cX8_itemEnd 17 = .ok (.iadd, 1) := by decide +kernel
theorem dX8_itemEnd_18 : decode cX8_itemEnd 18 = .ok (.goto 6, 3) := by decide +kernel
theorem dX8_itemEnd_21 : decode cX8_itemEnd 21 = .ok (.iload_n 1, 1) := by decide +kernel
theorem dX8_itemEnd_22 : decode cX8_itemEnd 22 = .ok (.iconst 1, 1) := by decide +kernel
theorem dX8_itemEnd_23 : decode cX8_itemEnd 23 = .ok (.iadd, 1) := by decide +kernel
theorem dX8_itemEnd_24 : decode cX8_itemEnd 24 = .ok (.ireturn, 1) := by decide +kernel
theorem dX8_itemsIn_0 : decode cX8_itemsIn 0 = .ok (.iconst 0, 1) := by decide +kernel
theorem dX8_itemsIn_1 : decode cX8_itemsIn 1 = .ok (.istore_n 3, 1) := by decide +kernel
theorem dX8_itemsIn_2 : decode cX8_itemsIn 2 = .ok (.iload_n 1, 1) := by decide +kernel
theorem dX8_itemsIn_3 : decode cX8_itemsIn 3 = .ok (.istore 4, 2) := by decide +kernel
theorem dX8_itemsIn_5 : decode cX8_itemsIn 5 = .ok (.iload 4, 2) := by decide +kernel
theorem dX8_itemsIn_7 : decode cX8_itemsIn 7 = .ok (.iload_n 2, 1) := by decide +kernel
theorem dX8_itemsIn_8 : decode cX8_itemsIn 8 = .ok (.if_icmp .ge 17, 3) := by decide +kernel
theorem dX8_itemsIn_11 : decode cX8_itemsIn 11 = .ok (.iinc 3 1, 3) := by decide +kernel
theorem dX8_itemsIn_14 : decode cX8_itemsIn 14 = .ok (.aload_n 0, 1) := by decide +kernel
theorem dX8_itemsIn_15 : decode cX8_itemsIn 15 = .ok (.iload 4, 2) := by decide +kernel
theorem dX8_itemsIn_17 : decode cX8_itemsIn 17 = .ok (.invokestatic 107, 3) := by decide +kernel
theorem dX8_itemsIn_20 : decode cX8_itemsIn 20 = .ok (.istore 4, 2) := by decide +kernel
theorem dX8_itemsIn_22 : decode cX8_itemsIn 22 = .ok (.goto (-17), 3) := by decide +kernel
theorem dX8_itemsIn_25 : decode cX8_itemsIn 25 = .ok (.iload_n 3, 1) := by decide +kernel
theorem dX8_itemsIn_26 : decode cX8_itemsIn 26 = .ok (.ireturn, 1) := by decide +kernel
theorem dX8_allIn_0 : decode cX8_allIn 0 = .ok (.iconst 0, 1) := by decide +kernel
theorem dX8_allIn_1 : decode cX8_allIn 1 = .ok (.istore_n 3, 1) := by decide +kernel
theorem dX8_allIn_2 : decode cX8_allIn 2 = .ok (.iload_n 1, 1) := by decide +kernel
theorem dX8_allIn_3 : decode cX8_allIn 3 = .ok (.istore 4, 2) := by decide +kernel
theorem dX8_allIn_5 : decode cX8_allIn 5 = .ok (.iload 4, 2) := by decide +kernel
theorem dX8_allIn_7 : decode cX8_allIn 7 = .ok (.iload_n 2, 1) := by decide +kernel
theorem dX8_allIn_8 : decode cX8_allIn 8 = .ok (.if_icmp .ge 34, 3) := by decide +kernel
theorem dX8_allIn_11 : decode cX8_allIn 11 = .ok (.iload_n 3, 1) := by decide +kernel
theorem dX8_allIn_12 : decode cX8_allIn 12 = .ok (.aload_n 0, 1) := by decide +kernel
theorem dX8_allIn_13 : decode cX8_allIn 13 = .ok (.iload 4, 2) := by decide +kernel
theorem dX8_allIn_15 : decode cX8_allIn 15 = .ok (.iaload, 1) := by decide +kernel
theorem dX8_allIn_16 : decode cX8_allIn 16 = .ok (.ifCond .gt 13, 3) := by decide +kernel
theorem dX8_allIn_19 : decode cX8_allIn 19 = .ok (.aload_n 0, 1) := by decide +kernel
theorem dX8_allIn_20 : decode cX8_allIn 20 = .ok (.iload 4, 2) := by decide +kernel
theorem dX8_allIn_22 : decode cX8_allIn 22 = .ok (.iaload, 1) := by decide +kernel
theorem dX8_allIn_23 : decode cX8_allIn 23 = .ok (.invokestatic 97, 3) := by decide +kernel
theorem dX8_allIn_26 : decode cX8_allIn 26 = .ok (.ifCond .eq 7, 3) := by decide +kernel
theorem dX8_allIn_29 : decode cX8_allIn 29 = .ok (.iconst 1, 1) := by decide +kernel
theorem dX8_allIn_30 : decode cX8_allIn 30 = .ok (.goto 4, 3) := by decide +kernel
theorem dX8_allIn_33 : decode cX8_allIn 33 = .ok (.iconst 0, 1) := by decide +kernel
theorem dX8_allIn_34 : decode cX8_allIn 34 = .ok (.iadd, 1) := by decide +kernel
theorem dX8_allIn_35 : decode cX8_allIn 35 = .ok (.istore_n 3, 1) := by decide +kernel
theorem dX8_allIn_36 : decode cX8_allIn 36 = .ok (.iinc 4 1, 3) := by decide +kernel
theorem dX8_allIn_39 : decode cX8_allIn 39 = .ok (.goto (-34), 3) := by decide +kernel
theorem dX8_allIn_42 : decode cX8_allIn 42 = .ok (.iload_n 3, 1) := by decide +kernel
theorem dX8_allIn_43 : decode cX8_allIn 43 = .ok (.ireturn, 1) := by decide +kernel
theorem dX8_levelAt_0 : decode cX8_levelAt 0 = .ok (.iconst 0, 1) := by decide +kernel
theorem dX8_levelAt_1 : decode cX8_levelAt 1 = .ok (.istore_n 2, 1) := by decide +kernel
theorem dX8_levelAt_2 : decode cX8_levelAt 2 = .ok (.iconst 0, 1) := by decide +kernel
theorem dX8_levelAt_3 : decode cX8_levelAt 3 = .ok (.istore_n 3, 1) := by decide +kernel
theorem dX8_levelAt_4 : decode cX8_levelAt 4 = .ok (.iload_n 3, 1) := by decide +kernel
theorem dX8_levelAt_5 : decode cX8_levelAt 5 = .ok (.iload_n 1, 1) := by decide +kernel
theorem dX8_levelAt_6 : decode cX8_levelAt 6 = .ok (.if_icmp .ge 38, 3) := by decide +kernel
theorem dX8_levelAt_9 : decode cX8_levelAt 9 = .ok (.iload_n 2, 1) := by decide +kernel
theorem dX8_levelAt_10 : decode cX8_levelAt 10 = .ok (.aload_n 0, 1) := by decide +kernel
theorem dX8_levelAt_11 : decode cX8_levelAt 11 = .ok (.iload_n 3, 1) := by decide +kernel
theorem dX8_levelAt_12 : decode cX8_levelAt 12 = .ok (.iaload, 1) := by decide +kernel
theorem dX8_levelAt_13 : decode cX8_levelAt 13 = .ok (.invokestatic 97, 3) := by decide +kernel
theorem dX8_levelAt_16 : decode cX8_levelAt 16 = .ok (.ifCond .eq 7, 3) := by decide +kernel
theorem dX8_levelAt_19 : decode cX8_levelAt 19 = .ok (.iconst 1, 1) := by decide +kernel
theorem dX8_levelAt_20 : decode cX8_levelAt 20 = .ok (.goto 16, 3) := by decide +kernel
theorem dX8_levelAt_23 : decode cX8_levelAt 23 = .ok (.aload_n 0, 1) := by decide +kernel
theorem dX8_levelAt_24 : decode cX8_levelAt 24 = .ok (.iload_n 3, 1) := by decide +kernel
theorem dX8_levelAt_25 : decode cX8_levelAt 25 = .ok (.iaload, 1) := by decide +kernel
theorem dX8_levelAt_26 : decode cX8_levelAt 26 = .ok (.bipush (-11), 2) := by decide +kernel
theorem dX8_levelAt_28 : decode cX8_levelAt 28 = .ok (.if_icmp .ne 7, 3) := by decide +kernel
theorem dX8_levelAt_31 : decode cX8_levelAt 31 = .ok (.iconst (-1), 1) := by decide +kernel
theorem dX8_levelAt_32 : decode cX8_levelAt 32 = .ok (.goto 4, 3) := by decide +kernel
theorem dX8_levelAt_35 : decode cX8_levelAt 35 = .ok (.iconst 0, 1) := by decide +kernel
theorem dX8_levelAt_36 : decode cX8_levelAt 36 = .ok (.iadd, 1) := by decide +kernel
theorem dX8_levelAt_37 : decode cX8_levelAt 37 = .ok (.istore_n 2, 1) := by decide +kernel
theorem dX8_levelAt_38 : decode cX8_levelAt 38 = .ok (.iinc 3 1, 3) := by decide +kernel
theorem dX8_levelAt_41 : decode cX8_levelAt 41 = .ok (.goto (-37), 3) := by decide +kernel
theorem dX8_levelAt_44 : decode cX8_levelAt 44 = .ok (.iload_n 2, 1) := by decide +kernel
theorem dX8_levelAt_45 : decode cX8_levelAt 45 = .ok (.ireturn, 1) := by decide +kernel
theorem dX8_deepest_0 : decode cX8_deepest 0 = .ok (.iconst 0, 1) := by decide +kernel
theorem dX8_deepest_1 : decode cX8_deepest 1 = .ok (.istore_n 3, 1) := by decide +kernel
theorem dX8_deepest_2 : decode cX8_deepest 2 = .ok (.iconst 0, 1) := by decide +kernel
theorem dX8_deepest_3 : decode cX8_deepest 3 = .ok (.istore 4, 2) := by decide +kernel
theorem dX8_deepest_5 : decode cX8_deepest 5 = .ok (.iload_n 1, 1) := by decide +kernel
theorem dX8_deepest_6 : decode cX8_deepest 6 = .ok (.istore 5, 2) := by decide +kernel
theorem dX8_deepest_8 : decode cX8_deepest 8 = .ok (.iload 5, 2) := by decide +kernel
theorem dX8_deepest_10 : decode cX8_deepest 10 = .ok (.iload_n 2, 1) := by decide +kernel
theorem dX8_deepest_11 : decode cX8_deepest 11 = .ok (.if_icmp .ge 54, 3) := by decide +kernel
theorem dX8_deepest_14 : decode cX8_deepest 14 = .ok (.iload_n 3, 1) := by decide +kernel
theorem dX8_deepest_15 : decode cX8_deepest 15 = .ok (.aload_n 0, 1) := by decide +kernel
theorem dX8_deepest_16 : decode cX8_deepest 16 = .ok (.iload 5, 2) := by decide +kernel
theorem dX8_deepest_18 : decode cX8_deepest 18 = .ok (.iaload, 1) := by decide +kernel
theorem dX8_deepest_19 : decode cX8_deepest 19 = .ok (.invokestatic 97, 3) := by decide +kernel
theorem dX8_deepest_22 : decode cX8_deepest 22 = .ok (.ifCond .eq 7, 3) := by decide +kernel
theorem dX8_deepest_25 : decode cX8_deepest 25 = .ok (.iconst 1, 1) := by decide +kernel
theorem dX8_deepest_26 : decode cX8_deepest 26 = .ok (.goto 17, 3) := by decide +kernel
theorem dX8_deepest_29 : decode cX8_deepest 29 = .ok (.aload_n 0, 1) := by decide +kernel
theorem dX8_deepest_30 : decode cX8_deepest 30 = .ok (.iload 5, 2) := by decide +kernel
theorem dX8_deepest_32 : decode cX8_deepest 32 = .ok (.iaload, 1) := by decide +kernel
theorem dX8_deepest_33 : decode cX8_deepest 33 = .ok (.bipush (-11), 2) := by decide +kernel
theorem dX8_deepest_35 : decode cX8_deepest 35 = .ok (.if_icmp .ne 7, 3) := by decide +kernel
theorem dX8_deepest_38 : decode cX8_deepest 38 = .ok (.iconst (-1), 1) := by decide +kernel
theorem dX8_deepest_39 : decode cX8_deepest 39 = .ok (.goto 4, 3) := by decide +kernel
theorem dX8_deepest_42 : decode cX8_deepest 42 = .ok (.iconst 0, 1) := by decide +kernel
theorem dX8_deepest_43 : decode cX8_deepest 43 = .ok (.iadd, 1) := by decide +kernel
theorem dX8_deepest_44 : decode cX8_deepest 44 = .ok (.istore_n 3, 1) := by decide +kernel
theorem dX8_deepest_45 : decode cX8_deepest 45 = .ok (.iload_n 3, 1) := by decide +kernel
theorem dX8_deepest_46 : decode cX8_deepest 46 = .ok (.iload 4, 2) := by decide +kernel
theorem dX8_deepest_48 : decode cX8_deepest 48 = .ok (.if_icmp .le 7, 3) := by decide +kernel
theorem dX8_deepest_51 : decode cX8_deepest 51 = .ok (.iload_n 3, 1) := by decide +kernel
theorem dX8_deepest_52 : decode cX8_deepest 52 = .ok (.goto 5, 3) := by decide +kernel
theorem dX8_deepest_55 : decode cX8_deepest 55 = .ok (.iload 4, 2) := by decide +kernel
theorem dX8_deepest_57 : decode cX8_deepest 57 = .ok (.istore 4, 2) := by decide +kernel
theorem dX8_deepest_59 : decode cX8_deepest 59 = .ok (.iinc 5 1, 3) := by decide +kernel
theorem dX8_deepest_62 : decode cX8_deepest 62 = .ok (.goto (-54), 3) := by decide +kernel
theorem dX8_deepest_65 : decode cX8_deepest 65 = .ok (.iload 4, 2) := by decide +kernel
theorem dX8_deepest_67 : decode cX8_deepest 67 = .ok (.ireturn, 1) := by decide +kernel
theorem dX8_remove_0 : decode cX8_remove 0 = .ok (.iload_n 2, 1) := by decide +kernel
theorem dX8_remove_1 : decode cX8_remove 1 = .ok (.istore_n 3, 1) := by decide +kernel
theorem dX8_remove_2 : decode cX8_remove 2 = .ok (.iload_n 3, 1) := by decide +kernel
theorem dX8_remove_3 : decode cX8_remove 3 = .ok (.aload_n 0, 1) := by decide +kernel
theorem dX8_remove_4 : decode cX8_remove 4 = .ok (.sipush 180, 3) := by decide +kernel
theorem dX8_remove_7 : decode cX8_remove 7 = .ok (.iaload, 1) := by decide +kernel
theorem dX8_remove_8 : decode cX8_remove 8 = .ok (.if_icmp .ge 19, 3) := by decide +kernel
theorem dX8_remove_11 : decode cX8_remove 11 = .ok (.aload_n 0, 1) := by decide +kernel
theorem dX8_remove_12 : decode cX8_remove 12 = .ok (.iload_n 1, 1) := by decide +kernel
theorem dX8_remove_13 : decode cX8_remove 13 = .ok (.iload_n 3, 1) := by decide +kernel
theorem dX8_remove_14 : decode cX8_remove 14 = .ok (.iadd, 1) := by decide +kernel
theorem dX8_remove_15 : decode cX8_remove 15 = .ok (.iload_n 2, 1) := by decide +kernel
theorem dX8_remove_16 : decode cX8_remove 16 = .ok (.isub, 1) := by decide +kernel
theorem dX8_remove_17 : decode cX8_remove 17 = .ok (.aload_n 0, 1) := by decide +kernel
theorem dX8_remove_18 : decode cX8_remove 18 = .ok (.iload_n 3, 1) := by decide +kernel
theorem dX8_remove_19 : decode cX8_remove 19 = .ok (.iaload, 1) := by decide +kernel
theorem dX8_remove_20 : decode cX8_remove 20 = .ok (.iastore, 1) := by decide +kernel
theorem dX8_remove_21 : decode cX8_remove 21 = .ok (.iinc 3 1, 3) := by decide +kernel
theorem dX8_remove_24 : decode cX8_remove 24 = .ok (.goto (-22), 3) := by decide +kernel
theorem dX8_remove_27 : decode cX8_remove 27 = .ok (.aload_n 0, 1) := by decide +kernel
theorem dX8_remove_28 : decode cX8_remove 28 = .ok (.sipush 180, 3) := by decide +kernel
theorem dX8_remove_31 : decode cX8_remove 31 = .ok (.dup2, 1) := by decide +kernel
theorem dX8_remove_32 : decode cX8_remove 32 = .ok (.iaload, 1) := by decide +kernel
theorem dX8_remove_33 : decode cX8_remove 33 = .ok (.iload_n 2, 1) := by decide +kernel
theorem dX8_remove_34 : decode cX8_remove 34 = .ok (.iload_n 1, 1) := by decide +kernel
theorem dX8_remove_35 : decode cX8_remove 35 = .ok (.isub, 1) := by decide +kernel
theorem dX8_remove_36 : decode cX8_remove 36 = .ok (.isub, 1) := by decide +kernel
theorem dX8_remove_37 : decode cX8_remove 37 = .ok (.iastore, 1) := by decide +kernel
theorem dX8_remove_38 : decode cX8_remove 38 = .ok (.return_, 1) := by decide +kernel
theorem dX8_put_0 : decode cX8_put 0 = .ok (.aload_n 0, 1) := by decide +kernel
theorem dX8_put_1 : decode cX8_put 1 = .ok (.sipush 180, 3) := by decide +kernel
theorem dX8_put_4 : decode cX8_put 4 = .ok (.iaload, 1) := by decide +kernel
theorem dX8_put_5 : decode cX8_put 5 = .ok (.istore_n 3, 1) := by decide +kernel
theorem dX8_put_6 : decode cX8_put 6 = .ok (.iload_n 3, 1) := by decide +kernel
theorem dX8_put_7 : decode cX8_put 7 = .ok (.iload_n 1, 1) := by decide +kernel
theorem dX8_put_8 : decode cX8_put 8 = .ok (.if_icmp .le 17, 3) := by decide +kernel
theorem dX8_put_11 : decode cX8_put 11 = .ok (.aload_n 0, 1) := by decide +kernel
theorem dX8_put_12 : decode cX8_put 12 = .ok (.iload_n 3, 1) := by decide +kernel
theorem dX8_put_13 : decode cX8_put 13 = .ok (.aload_n 0, 1) := by decide +kernel
theorem dX8_put_14 : decode cX8_put 14 = .ok (.iload_n 3, 1) := by decide +kernel
theorem dX8_put_15 : decode cX8_put 15 = .ok (.iconst 1, 1) := by decide +kernel
theorem dX8_put_16 : decode cX8_put 16 = .ok (.isub, 1) := by decide +kernel
theorem dX8_put_17 : decode cX8_put 17 = .ok (.iaload, 1) := by decide +kernel
theorem dX8_put_18 : decode cX8_put 18 = .ok (.iastore, 1) := by decide +kernel
theorem dX8_put_19 : decode cX8_put 19 = .ok (.iinc 3 (-1), 3) := by decide +kernel
theorem dX8_put_22 : decode cX8_put 22 = .ok (.goto (-16), 3) := by decide +kernel
theorem dX8_put_25 : decode cX8_put 25 = .ok (.aload_n 0, 1) := by decide +kernel
theorem dX8_put_26 : decode cX8_put 26 = .ok (.iload_n 1, 1) := by decide +kernel
theorem dX8_put_27 : decode cX8_put 27 = .ok (.iload_n 2, 1) := by decide +kernel
theorem dX8_put_28 : decode cX8_put 28 = .ok (.iastore, 1) := by decide +kernel
theorem dX8_put_29 : decode cX8_put 29 = .ok (.aload_n 0, 1) := by decide +kernel
theorem dX8_put_30 : decode cX8_put 30 = .ok (.sipush 180, 3) := by decide +kernel
theorem dX8_put_33 : decode cX8_put 33 = .ok (.dup2, 1) := by decide +kernel
theorem dX8_put_34 : decode cX8_put 34 = .ok (.iaload, 1) := by decide +kernel
theorem dX8_put_35 : decode cX8_put 35 = .ok (.iconst 1, 1) := by decide +kernel
theorem dX8_put_36 : decode cX8_put 36 = .ok (.iadd, 1) := by decide +kernel
theorem dX8_put_37 : decode cX8_put 37 = .ok (.iastore, 1) := by decide +kernel
theorem dX8_put_38 : decode cX8_put 38 = .ok (.return_, 1) := by decide +kernel
theorem dX8_clear_0 : decode cX8_clear 0 = .ok (.aload_n 0, 1) := by decide +kernel
theorem dX8_clear_1 : decode cX8_clear 1 = .ok (.sipush 182, 3) := by decide +kernel
theorem dX8_clear_4 : decode cX8_clear 4 = .ok (.iaload, 1) := by decide +kernel
theorem dX8_clear_5 : decode cX8_clear 5 = .ok (.bipush (-9), 2) := by decide +kernel
theorem dX8_clear_7 : decode cX8_clear 7 = .ok (.if_icmp .eq 34, 3) := by decide +kernel
theorem dX8_clear_10 : decode cX8_clear 10 = .ok (.aload_n 0, 1) := by decide +kernel
theorem dX8_clear_11 : decode cX8_clear 11 = .ok (.aload_n 0, 1) := by decide +kernel
theorem dX8_clear_12 : decode cX8_clear 12 = .ok (.sipush 182, 3) := by decide +kernel
theorem dX8_clear_15 : decode cX8_clear 15 = .ok (.iaload, 1) := by decide +kernel
theorem dX8_clear_16 : decode cX8_clear 16 = .ok (.aload_n 0, 1) := by decide +kernel
theorem dX8_clear_17 : decode cX8_clear 17 = .ok (.sipush 181, 3) := by decide +kernel
theorem dX8_clear_20 : decode cX8_clear 20 = .ok (.iaload, 1) := by decide +kernel
theorem dX8_clear_21 : decode cX8_clear 21 = .ok (.invokestatic 110, 3) := by decide +kernel
theorem dX8_clear_24 : decode cX8_clear 24 = .ok (.aload_n 0, 1) := by decide +kernel
theorem dX8_clear_25 : decode cX8_clear 25 = .ok (.sipush 181, 3) := by decide +kernel
theorem dX8_clear_28 : decode cX8_clear 28 = .ok (.aload_n 0, 1) := by decide +kernel
theorem dX8_clear_29 : decode cX8_clear 29 = .ok (.sipush 182, 3) := by decide +kernel
theorem dX8_clear_32 : decode cX8_clear 32 = .ok (.iaload, 1) := by decide +kernel
theorem dX8_clear_33 : decode cX8_clear 33 = .ok (.iastore, 1) := by decide +kernel
theorem dX8_clear_34 : decode cX8_clear 34 = .ok (.aload_n 0, 1) := by decide +kernel
theorem dX8_clear_35 : decode cX8_clear 35 = .ok (.sipush 182, 3) := by decide +kernel
theorem dX8_clear_38 : decode cX8_clear 38 = .ok (.bipush (-9), 2) := by decide +kernel
theorem dX8_clear_40 : decode cX8_clear 40 = .ok (.iastore, 1) := by decide +kernel
theorem dX8_clear_41 : decode cX8_clear 41 = .ok (.return_, 1) := by decide +kernel
theorem dX8_types_0 : decode cX8_types 0 = .ok (.aload_n 0, 1) := by decide +kernel
theorem dX8_types_1 : decode cX8_types 1 = .ok (.sipush 182, 3) := by decide +kernel
theorem dX8_types_4 : decode cX8_types 4 = .ok (.iaload, 1) := by decide +kernel
theorem dX8_types_5 : decode cX8_types 5 = .ok (.bipush (-9), 2) := by decide +kernel
theorem dX8_types_7 : decode cX8_types 7 = .ok (.if_icmp .ne 7, 3) := by decide +kernel
theorem dX8_types_10 : decode cX8_types 10 = .ok (.iconst 0, 1) := by decide +kernel
theorem dX8_types_11 : decode cX8_types 11 = .ok (.goto 17, 3) := by decide +kernel
theorem dX8_types_14 : decode cX8_types 14 = .ok (.aload_n 0, 1) := by decide +kernel
theorem dX8_types_15 : decode cX8_types 15 = .ok (.aload_n 0, 1) := by decide +kernel
theorem dX8_types_16 : decode cX8_types 16 = .ok (.sipush 182, 3) := by decide +kernel
theorem dX8_types_19 : decode cX8_types 19 = .ok (.iaload, 1) := by decide +kernel
theorem dX8_types_20 : decode cX8_types 20 = .ok (.aload_n 0, 1) := by decide +kernel
theorem dX8_types_21 : decode cX8_types 21 = .ok (.sipush 181, 3) := by decide +kernel
theorem dX8_types_24 : decode cX8_types 24 = .ok (.iaload, 1) := by decide +kernel
theorem dX8_types_25 : decode cX8_types 25 = .ok (.invokestatic 114, 3) := by decide +kernel
theorem dX8_types_28 : decode cX8_types 28 = .ok (.istore_n 2, 1) := by decide +kernel
theorem dX8_types_29 : decode cX8_types 29 = .ok (.iload_n 1, 1) := by decide +kernel
theorem dX8_types_30 : decode cX8_types 30 = .ok (.invokestatic 118, 3) := by decide +kernel
theorem dX8_types_33 : decode cX8_types 33 = .ok (.ifCond .eq 20, 3) := by decide +kernel
theorem dX8_types_36 : decode cX8_types 36 = .ok (.aload_n 0, 1) := by decide +kernel
theorem dX8_types_37 : decode cX8_types 37 = .ok (.iconst 0, 1) := by decide +kernel
theorem dX8_types_38 : decode cX8_types 38 = .ok (.aload_n 0, 1) := by decide +kernel
theorem dX8_types_39 : decode cX8_types 39 = .ok (.sipush 180, 3) := by decide +kernel
theorem dX8_types_42 : decode cX8_types 42 = .ok (.iaload, 1) := by decide +kernel
theorem dX8_types_43 : decode cX8_types 43 = .ok (.invokestatic 114, 3) := by decide +kernel
theorem dX8_types_46 : decode cX8_types 46 = .ok (.iload_n 2, 1) := by decide +kernel
theorem dX8_types_47 : decode cX8_types 47 = .ok (.isub, 1) := by decide +kernel
theorem dX8_types_48 : decode cX8_types 48 = .ok (.bipush 60, 2) := by decide +kernel
theorem dX8_types_50 : decode cX8_types 50 = .ok (.if_icmp .ne 5, 3) := by decide +kernel
theorem dX8_types_53 : decode cX8_types 53 = .ok (.iconst 0, 1) := by decide +kernel
theorem dX8_types_54 : decode cX8_types 54 = .ok (.ireturn, 1) := by decide +kernel
theorem dX8_types_55 : decode cX8_types 55 = .ok (.aload_n 0, 1) := by decide +kernel
theorem dX8_types_56 : decode cX8_types 56 = .ok (.invokestatic 121, 3) := by decide +kernel
theorem dX8_types_59 : decode cX8_types 59 = .ok (.aload_n 0, 1) := by decide +kernel
theorem dX8_types_60 : decode cX8_types 60 = .ok (.aload_n 0, 1) := by decide +kernel
theorem dX8_types_61 : decode cX8_types 61 = .ok (.sipush 181, 3) := by decide +kernel
theorem dX8_types_64 : decode cX8_types 64 = .ok (.iaload, 1) := by decide +kernel
theorem dX8_types_65 : decode cX8_types 65 = .ok (.iload_n 1, 1) := by decide +kernel
theorem dX8_types_66 : decode cX8_types 66 = .ok (.invokestatic 125, 3) := by decide +kernel
theorem dX8_types_69 : decode cX8_types 69 = .ok (.aload_n 0, 1) := by decide +kernel
theorem dX8_types_70 : decode cX8_types 70 = .ok (.sipush 181, 3) := by decide +kernel
theorem dX8_types_73 : decode cX8_types 73 = .ok (.dup2, 1) := by decide +kernel
theorem dX8_types_74 : decode cX8_types 74 = .ok (.iaload, 1) := by decide +kernel
theorem dX8_types_75 : decode cX8_types 75 = .ok (.iconst 1, 1) := by decide +kernel
theorem dX8_types_76 : decode cX8_types 76 = .ok (.iadd, 1) := by decide +kernel
theorem dX8_types_77 : decode cX8_types 77 = .ok (.iastore, 1) := by decide +kernel
theorem dX8_types_78 : decode cX8_types 78 = .ok (.iconst 1, 1) := by decide +kernel
theorem dX8_types_79 : decode cX8_types 79 = .ok (.ireturn, 1) := by decide +kernel
theorem dX8_wraps_0 : decode cX8_wraps 0 = .ok (.aload_n 0, 1) := by decide +kernel
theorem dX8_wraps_1 : decode cX8_wraps 1 = .ok (.sipush 181, 3) := by decide +kernel
theorem dX8_wraps_4 : decode cX8_wraps 4 = .ok (.iaload, 1) := by decide +kernel
theorem dX8_wraps_5 : decode cX8_wraps 5 = .ok (.istore_n 2, 1) := by decide +kernel
theorem dX8_wraps_6 : decode cX8_wraps 6 = .ok (.aload_n 0, 1) := by decide +kernel
theorem dX8_wraps_7 : decode cX8_wraps 7 = .ok (.sipush 182, 3) := by decide +kernel
theorem dX8_wraps_10 : decode cX8_wraps 10 = .ok (.iaload, 1) := by decide +kernel
theorem dX8_wraps_11 : decode cX8_wraps 11 = .ok (.bipush (-9), 2) := by decide +kernel
theorem dX8_wraps_13 : decode cX8_wraps 13 = .ok (.if_icmp .ne 7, 3) := by decide +kernel
theorem dX8_wraps_16 : decode cX8_wraps 16 = .ok (.iload_n 2, 1) := by decide +kernel
theorem dX8_wraps_17 : decode cX8_wraps 17 = .ok (.goto 8, 3) := by decide +kernel
theorem dX8_wraps_20 : decode cX8_wraps 20 = .ok (.aload_n 0, 1) := by decide +kernel
theorem dX8_wraps_21 : decode cX8_wraps 21 = .ok (.sipush 182, 3) := by decide +kernel
theorem dX8_wraps_24 : decode cX8_wraps 24 = .ok (.iaload, 1) := by decide +kernel
theorem dX8_wraps_25 : decode cX8_wraps 25 = .ok (.istore_n 3, 1) := by decide +kernel
theorem dX8_wraps_26 : decode cX8_wraps 26 = .ok (.iload_n 1, 1) := by decide +kernel
theorem dX8_wraps_27 : decode cX8_wraps 27 = .ok (.i2l, 1) := by decide +kernel
theorem dX8_wraps_28 : decode cX8_wraps 28 = .ok (.lconst 1, 1) := by decide +kernel
theorem dX8_wraps_29 : decode cX8_wraps 29 = .ok (.ldc2_w 128, 3) := by decide +kernel
theorem dX8_wraps_32 : decode cX8_wraps 32 = .ok (.invokestatic 79, 3) := by decide +kernel
theorem dX8_wraps_35 : decode cX8_wraps 35 = .ok (.ifCond .eq 36, 3) := by decide +kernel
theorem dX8_wraps_38 : decode cX8_wraps 38 = .ok (.aload_n 0, 1) := by decide +kernel
theorem dX8_wraps_39 : decode cX8_wraps 39 = .ok (.iconst 0, 1) := by decide +kernel
theorem dX8_wraps_40 : decode cX8_wraps 40 = .ok (.aload_n 0, 1) := by decide +kernel
theorem dX8_wraps_41 : decode cX8_wraps 41 = .ok (.sipush 180, 3) := by decide +kernel
theorem dX8_wraps_44 : decode cX8_wraps 44 = .ok (.iaload, 1) := by decide +kernel
theorem dX8_wraps_45 : decode cX8_wraps 45 = .ok (.invokestatic 114, 3) := by decide +kernel
theorem dX8_wraps_48 : decode cX8_wraps 48 = .ok (.bipush 60, 2) := by decide +kernel
theorem dX8_wraps_50 : decode cX8_wraps 50 = .ok (.if_icmp .eq 21, 3) := by decide +kernel
theorem dX8_wraps_53 : decode cX8_wraps 53 = .ok (.aload_n 0, 1) := by decide +kernel
theorem dX8_wraps_54 : decode cX8_wraps 54 = .ok (.iload_n 3, 1) := by decide +kernel
theorem dX8_wraps_55 : decode cX8_wraps 55 = .ok (.invokestatic 130, 3) := by decide +kernel
theorem dX8_wraps_58 : decode cX8_wraps 58 = .ok (.iconst 1, 1) := by decide +kernel
theorem dX8_wraps_59 : decode cX8_wraps 59 = .ok (.iadd, 1) := by decide +kernel
theorem dX8_wraps_60 : decode cX8_wraps 60 = .ok (.aload_n 0, 1) := by decide +kernel
theorem dX8_wraps_61 : decode cX8_wraps 61 = .ok (.iload_n 3, 1) := by decide +kernel
theorem dX8_wraps_62 : decode cX8_wraps 62 = .ok (.iload_n 2, 1) := by decide +kernel
theorem dX8_wraps_63 : decode cX8_wraps 63 = .ok (.invokestatic 133, 3) := by decide +kernel
theorem dX8_wraps_66 : decode cX8_wraps 66 = .ok (.iadd, 1) := by decide +kernel
theorem dX8_wraps_67 : decode cX8_wraps 67 = .ok (.iconst 5, 1) := by decide +kernel
theorem dX8_wraps_68 : decode cX8_wraps 68 = .ok (.if_icmp .le 5, 3) := by decide +kernel
theorem dX8_wraps_71 : decode cX8_wraps 71 = .ok (.iconst 0, 1) := by decide +kernel
theorem dX8_wraps_72 : decode cX8_wraps 72 = .ok (.ireturn, 1) := by decide +kernel
theorem dX8_wraps_73 : decode cX8_wraps 73 = .ok (.aload_n 0, 1) := by decide +kernel
theorem dX8_wraps_74 : decode cX8_wraps 74 = .ok (.iload_n 2, 1) := by decide +kernel
theorem dX8_wraps_75 : decode cX8_wraps 75 = .ok (.bipush (-11), 2) := by decide +kernel
theorem dX8_wraps_77 : decode cX8_wraps 77 = .ok (.invokestatic 125, 3) := by decide +kernel
theorem dX8_wraps_80 : decode cX8_wraps 80 = .ok (.iload_n 1, 1) := by decide +kernel
theorem dX8_wraps_81 : decode cX8_wraps 81 = .ok (.iconst 1, 1) := by decide +kernel
theorem dX8_wraps_82 : decode cX8_wraps 82 = .ok (.if_icmp .ne 10, 3) := by decide +kernel
theorem dX8_wraps_85 : decode cX8_wraps 85 = .ok (.aload_n 0, 1) := by decide +kernel
theorem dX8_wraps_86 : decode cX8_wraps 86 = .ok (.iload_n 2, 1) := by decide +kernel
theorem dX8_wraps_87 : decode cX8_wraps 87 = .ok (.bipush (-10), 2) := by decide +kernel
theorem dX8_wraps_89 : decode cX8_wraps 89 = .ok (.invokestatic 125, 3) := by decide +kernel
theorem dX8_wraps_92 : decode cX8_wraps 92 = .ok (.aload_n 0, 1) := by decide +kernel
theorem dX8_wraps_93 : decode cX8_wraps 93 = .ok (.iload_n 3, 1) := by decide +kernel
theorem dX8_wraps_94 : decode cX8_wraps 94 = .ok (.iload_n 1, 1) := by decide +kernel
theorem dX8_wraps_95 : decode cX8_wraps 95 = .ok (.ineg, 1) := by decide +kernel
theorem dX8_wraps_96 : decode cX8_wraps 96 = .ok (.invokestatic 125, 3) := by decide +kernel
theorem dX8_wraps_99 : decode cX8_wraps 99 = .ok (.aload_n 0, 1) := by decide +kernel
theorem dX8_wraps_100 : decode cX8_wraps 100 = .ok (.sipush 181, 3) := by decide +kernel
theorem dX8_wraps_103 : decode cX8_wraps 103 = .ok (.iload_n 3, 1) := by decide +kernel
theorem dX8_wraps_104 : decode cX8_wraps 104 = .ok (.iload_n 2, 1) := by decide +kernel
theorem dX8_wraps_105 : decode cX8_wraps 105 = .ok (.if_icmp .ne 9, 3) := by decide +kernel
theorem dX8_wraps_108 : decode cX8_wraps 108 = .ok (.iload_n 3, 1) := by decide +kernel
theorem dX8_wraps_109 : decode cX8_wraps 109 = .ok (.iconst 1, 1) := by decide +kernel
theorem dX8_wraps_110 : decode cX8_wraps 110 = .ok (.iadd, 1) := by decide +kernel
theorem dX8_wraps_111 : decode cX8_wraps 111 = .ok (.goto 6, 3) := by decide +kernel
theorem dX8_wraps_114 : decode cX8_wraps 114 = .ok (.iload_n 2, 1) := by decide +kernel
theorem dX8_wraps_115 : decode cX8_wraps 115 = .ok (.iconst 2, 1) := by decide +kernel
theorem dX8_wraps_116 : decode cX8_wraps 116 = .ok (.iadd, 1) := by decide +kernel
theorem dX8_wraps_117 : decode cX8_wraps 117 = .ok (.iastore, 1) := by decide +kernel
theorem dX8_wraps_118 : decode cX8_wraps 118 = .ok (.aload_n 0, 1) := by decide +kernel
theorem dX8_wraps_119 : decode cX8_wraps 119 = .ok (.sipush 182, 3) := by decide +kernel
theorem dX8_wraps_122 : decode cX8_wraps 122 = .ok (.bipush (-9), 2) := by decide +kernel
theorem dX8_wraps_124 : decode cX8_wraps 124 = .ok (.iastore, 1) := by decide +kernel
theorem dX8_wraps_125 : decode cX8_wraps 125 = .ok (.iconst 1, 1) := by decide +kernel
theorem dX8_wraps_126 : decode cX8_wraps 126 = .ok (.ireturn, 1) := by decide +kernel
theorem dX8_backs_0 : decode cX8_backs 0 = .ok (.aload_n 0, 1) := by decide +kernel
theorem dX8_backs_1 : decode cX8_backs 1 = .ok (.sipush 181, 3) := by decide +kernel
theorem dX8_backs_4 : decode cX8_backs 4 = .ok (.iaload, 1) := by decide +kernel
theorem dX8_backs_5 : decode cX8_backs 5 = .ok (.istore_n 1, 1) := by decide +kernel
theorem dX8_backs_6 : decode cX8_backs 6 = .ok (.aload_n 0, 1) := by decide +kernel
theorem dX8_backs_7 : decode cX8_backs 7 = .ok (.sipush 182, 3) := by decide +kernel
theorem dX8_backs_10 : decode cX8_backs 10 = .ok (.iaload, 1) := by decide +kernel
theorem dX8_backs_11 : decode cX8_backs 11 = .ok (.bipush (-9), 2) := by decide +kernel
theorem dX8_backs_13 : decode cX8_backs 13 = .ok (.if_icmp .eq 9, 3) := by decide +kernel
theorem dX8_backs_16 : decode cX8_backs 16 = .ok (.aload_n 0, 1) := by decide +kernel
theorem dX8_backs_17 : decode cX8_backs 17 = .ok (.invokestatic 121, 3) := by decide +kernel
theorem dX8_backs_20 : decode cX8_backs 20 = .ok (.iconst 1, 1) := by decide +kernel
theorem dX8_backs_21 : decode cX8_backs 21 = .ok (.ireturn, 1) := by decide +kernel
theorem dX8_backs_22 : decode cX8_backs 22 = .ok (.aload_n 0, 1) := by decide +kernel
theorem dX8_backs_23 : decode cX8_backs 23 = .ok (.iload_n 1, 1) := by decide +kernel
theorem dX8_backs_24 : decode cX8_backs 24 = .ok (.invokestatic 136, 3) := by decide +kernel
theorem dX8_backs_27 : decode cX8_backs 27 = .ok (.istore_n 2, 1) := by decide +kernel
theorem dX8_backs_28 : decode cX8_backs 28 = .ok (.iload_n 1, 1) := by decide +kernel
theorem dX8_backs_29 : decode cX8_backs 29 = .ok (.iload_n 2, 1) := by decide +kernel
theorem dX8_backs_30 : decode cX8_backs 30 = .ok (.if_icmp .le 56, 3) := by decide +kernel
theorem dX8_backs_33 : decode cX8_backs 33 = .ok (.aload_n 0, 1) := by decide +kernel
theorem dX8_backs_34 : decode cX8_backs 34 = .ok (.iload_n 1, 1) := by decide +kernel
theorem dX8_backs_35 : decode cX8_backs 35 = .ok (.invokestatic 139, 3) := by decide +kernel
theorem dX8_backs_38 : decode cX8_backs 38 = .ok (.istore_n 3, 1) := by decide +kernel
theorem dX8_backs_39 : decode cX8_backs 39 = .ok (.aload_n 0, 1) := by decide +kernel
theorem dX8_backs_40 : decode cX8_backs 40 = .ok (.iload_n 3, 1) := by decide +kernel
theorem dX8_backs_41 : decode cX8_backs 41 = .ok (.iload_n 1, 1) := by decide +kernel
theorem dX8_backs_42 : decode cX8_backs 42 = .ok (.invokestatic 114, 3) := by decide +kernel
theorem dX8_backs_45 : decode cX8_backs 45 = .ok (.iconst 1, 1) := by decide +kernel
theorem dX8_backs_46 : decode cX8_backs 46 = .ok (.if_icmp .ne 7, 3) := by decide +kernel
theorem dX8_backs_49 : decode cX8_backs 49 = .ok (.iconst 1, 1) := by decide +kernel
theorem dX8_backs_50 : decode cX8_backs 50 = .ok (.goto 4, 3) := by decide +kernel
theorem dX8_backs_53 : decode cX8_backs 53 = .ok (.iconst 0, 1) := by decide +kernel
theorem dX8_backs_54 : decode cX8_backs 54 = .ok (.istore 4, 2) := by decide +kernel
theorem dX8_backs_56 : decode cX8_backs 56 = .ok (.iload 4, 2) := by decide +kernel
theorem dX8_backs_58 : decode cX8_backs 58 = .ok (.ifCond .eq 9, 3) := by decide +kernel
theorem dX8_backs_61 : decode cX8_backs 61 = .ok (.aload_n 0, 1) := by decide +kernel
theorem dX8_backs_62 : decode cX8_backs 62 = .ok (.iload_n 3, 1) := by decide +kernel
theorem dX8_backs_63 : decode cX8_backs 63 = .ok (.iload_n 1, 1) := by decide +kernel
theorem dX8_backs_64 : decode cX8_backs 64 = .ok (.invokestatic 110, 3) := by decide +kernel
theorem dX8_backs_67 : decode cX8_backs 67 = .ok (.aload_n 0, 1) := by decide +kernel
theorem dX8_backs_68 : decode cX8_backs 68 = .ok (.sipush 181, 3) := by decide +kernel
theorem dX8_backs_71 : decode cX8_backs 71 = .ok (.iload 4, 2) := by decide +kernel
theorem dX8_backs_73 : decode cX8_backs 73 = .ok (.ifCond .eq 7, 3) := by decide +kernel
theorem dX8_backs_76 : decode cX8_backs 76 = .ok (.iload_n 3, 1) := by decide +kernel
theorem dX8_backs_77 : decode cX8_backs 77 = .ok (.goto 6, 3) := by decide +kernel
theorem dX8_backs_80 : decode cX8_backs 80 = .ok (.iload_n 1, 1) := by decide +kernel
theorem dX8_backs_81 : decode cX8_backs 81 = .ok (.iconst 1, 1) := by decide +kernel
theorem dX8_backs_82 : decode cX8_backs 82 = .ok (.isub, 1) := by decide +kernel
theorem dX8_backs_83 : decode cX8_backs 83 = .ok (.iastore, 1) := by decide +kernel
theorem dX8_backs_84 : decode cX8_backs 84 = .ok (.iconst 1, 1) := by decide +kernel
theorem dX8_backs_85 : decode cX8_backs 85 = .ok (.ireturn, 1) := by decide +kernel
theorem dX8_backs_86 : decode cX8_backs 86 = .ok (.iload_n 2, 1) := by decide +kernel
theorem dX8_backs_87 : decode cX8_backs 87 = .ok (.ifCond .ne 5, 3) := by decide +kernel
theorem dX8_backs_90 : decode cX8_backs 90 = .ok (.iconst 0, 1) := by decide +kernel
theorem dX8_backs_91 : decode cX8_backs 91 = .ok (.ireturn, 1) := by decide +kernel
theorem dX8_backs_92 : decode cX8_backs 92 = .ok (.aload_n 0, 1) := by decide +kernel
theorem dX8_backs_93 : decode cX8_backs 93 = .ok (.iload_n 2, 1) := by decide +kernel
theorem dX8_backs_94 : decode cX8_backs 94 = .ok (.iconst 1, 1) := by decide +kernel
theorem dX8_backs_95 : decode cX8_backs 95 = .ok (.isub, 1) := by decide +kernel
theorem dX8_backs_96 : decode cX8_backs 96 = .ok (.iaload, 1) := by decide +kernel
theorem dX8_backs_97 : decode cX8_backs 97 = .ok (.bipush (-10), 2) := by decide +kernel
theorem dX8_backs_99 : decode cX8_backs 99 = .ok (.if_icmp .ne 7, 3) := by decide +kernel
theorem dX8_backs_102 : decode cX8_backs 102 = .ok (.iconst 1, 1) := by decide +kernel
theorem dX8_backs_103 : decode cX8_backs 103 = .ok (.goto 4, 3) := by decide +kernel
theorem dX8_backs_106 : decode cX8_backs 106 = .ok (.iconst 0, 1) := by decide +kernel
theorem dX8_backs_107 : decode cX8_backs 107 = .ok (.istore_n 3, 1) := by decide +kernel
theorem dX8_backs_108 : decode cX8_backs 108 = .ok (.iload_n 3, 1) := by decide +kernel
theorem dX8_backs_109 : decode cX8_backs 109 = .ok (.ifCond .eq 13, 3) := by decide +kernel
theorem dX8_backs_112 : decode cX8_backs 112 = .ok (.aload_n 0, 1) := by decide +kernel
theorem dX8_backs_113 : decode cX8_backs 113 = .ok (.iload_n 2, 1) := by decide +kernel
theorem dX8_backs_114 : decode cX8_backs 114 = .ok (.iconst 1, 1) := by decide +kernel
theorem dX8_backs_115 : decode cX8_backs 115 = .ok (.isub, 1) := by decide +kernel
theorem dX8_backs_116 : decode cX8_backs 116 = .ok (.invokestatic 100, 3) := by decide +kernel
theorem dX8_backs_119 : decode cX8_backs 119 = .ok (.goto 6, 3) := by decide +kernel
theorem dX8_backs_122 : decode cX8_backs 122 = .ok (.iload_n 2, 1) := by decide +kernel
theorem dX8_backs_123 : decode cX8_backs 123 = .ok (.iconst 1, 1) := by decide +kernel
theorem dX8_backs_124 : decode cX8_backs 124 = .ok (.isub, 1) := by decide +kernel
theorem dX8_backs_125 : decode cX8_backs 125 = .ok (.istore 4, 2) := by decide +kernel
theorem dX8_backs_127 : decode cX8_backs 127 = .ok (.aload_n 0, 1) := by decide +kernel
theorem dX8_backs_128 : decode cX8_backs 128 = .ok (.iload_n 2, 1) := by decide +kernel
theorem dX8_backs_129 : decode cX8_backs 129 = .ok (.invokestatic 104, 3) := by decide +kernel
theorem dX8_backs_132 : decode cX8_backs 132 = .ok (.istore 5, 2) := by decide +kernel
theorem dX8_backs_134 : decode cX8_backs 134 = .ok (.iload_n 3, 1) := by decide +kernel
theorem dX8_backs_135 : decode cX8_backs 135 = .ok (.ifCond .eq 9, 3) := by decide +kernel
theorem dX8_backs_138 : decode cX8_backs 138 = .ok (.iload_n 2, 1) := by decide +kernel
theorem dX8_backs_139 : decode cX8_backs 139 = .ok (.iconst 1, 1) := by decide +kernel
theorem dX8_backs_140 : decode cX8_backs 140 = .ok (.isub, 1) := by decide +kernel
theorem dX8_backs_141 : decode cX8_backs 141 = .ok (.goto 8, 3) := by decide +kernel
theorem dX8_backs_144 : decode cX8_backs 144 = .ok (.aload_n 0, 1) := by decide +kernel
theorem dX8_backs_145 : decode cX8_backs 145 = .ok (.iload_n 2, 1) := by decide +kernel
theorem dX8_backs_146 : decode cX8_backs 146 = .ok (.invokestatic 142, 3) := by decide +kernel
theorem dX8_backs_149 : decode cX8_backs 149 = .ok (.istore 6, 2) := by decide +kernel
theorem dX8_backs_151 : decode cX8_backs 151 = .ok (.aload_n 0, 1) := by decide +kernel
theorem dX8_backs_152 : decode cX8_backs 152 = .ok (.iload 5, 2) := by decide +kernel
theorem dX8_backs_154 : decode cX8_backs 154 = .ok (.iload 5, 2) := by decide +kernel
theorem dX8_backs_156 : decode cX8_backs 156 = .ok (.iconst 1, 1) := by decide +kernel
theorem dX8_backs_157 : decode cX8_backs 157 = .ok (.iadd, 1) := by decide +kernel
theorem dX8_backs_158 : decode cX8_backs 158 = .ok (.invokestatic 110, 3) := by decide +kernel
theorem dX8_backs_161 : decode cX8_backs 161 = .ok (.iload 6, 2) := by decide +kernel
theorem dX8_backs_163 : decode cX8_backs 163 = .ok (.iload 5, 2) := by decide +kernel
theorem dX8_backs_165 : decode cX8_backs 165 = .ok (.if_icmp .ge 13, 3) := by decide +kernel
theorem dX8_backs_168 : decode cX8_backs 168 = .ok (.aload_n 0, 1) := by decide +kernel
theorem dX8_backs_169 : decode cX8_backs 169 = .ok (.iload 6, 2) := by decide +kernel
theorem dX8_backs_171 : decode cX8_backs 171 = .ok (.iload 6, 2) := by decide +kernel
theorem dX8_backs_173 : decode cX8_backs 173 = .ok (.iconst 1, 1) := by decide +kernel
theorem dX8_backs_174 : decode cX8_backs 174 = .ok (.iadd, 1) := by decide +kernel
theorem dX8_backs_175 : decode cX8_backs 175 = .ok (.invokestatic 110, 3) := by decide +kernel
theorem dX8_backs_178 : decode cX8_backs 178 = .ok (.aload_n 0, 1) := by decide +kernel
theorem dX8_backs_179 : decode cX8_backs 179 = .ok (.iload 4, 2) := by decide +kernel
theorem dX8_backs_181 : decode cX8_backs 181 = .ok (.iload 4, 2) := by decide +kernel
theorem dX8_backs_183 : decode cX8_backs 183 = .ok (.iconst 1, 1) := by decide +kernel
theorem dX8_backs_184 : decode cX8_backs 184 = .ok (.iadd, 1) := by decide +kernel
theorem dX8_backs_185 : decode cX8_backs 185 = .ok (.invokestatic 110, 3) := by decide +kernel
theorem dX8_backs_188 : decode cX8_backs 188 = .ok (.aload_n 0, 1) := by decide +kernel
theorem dX8_backs_189 : decode cX8_backs 189 = .ok (.sipush 181, 3) := by decide +kernel
theorem dX8_backs_192 : decode cX8_backs 192 = .ok (.iload_n 3, 1) := by decide +kernel
theorem dX8_backs_193 : decode cX8_backs 193 = .ok (.ifCond .eq 9, 3) := by decide +kernel
theorem dX8_backs_196 : decode cX8_backs 196 = .ok (.iload_n 2, 1) := by decide +kernel
theorem dX8_backs_197 : decode cX8_backs 197 = .ok (.iconst 2, 1) := by decide +kernel
theorem dX8_backs_198 : decode cX8_backs 198 = .ok (.isub, 1) := by decide +kernel
theorem dX8_backs_199 : decode cX8_backs 199 = .ok (.goto 6, 3) := by decide +kernel
theorem dX8_backs_202 : decode cX8_backs 202 = .ok (.iload_n 2, 1) := by decide +kernel
theorem dX8_backs_203 : decode cX8_backs 203 = .ok (.iconst 1, 1) := by decide +kernel
theorem dX8_backs_204 : decode cX8_backs 204 = .ok (.isub, 1) := by decide +kernel
theorem dX8_backs_205 : decode cX8_backs 205 = .ok (.iastore, 1) := by decide +kernel
theorem dX8_backs_206 : decode cX8_backs 206 = .ok (.iconst 1, 1) := by decide +kernel
theorem dX8_backs_207 : decode cX8_backs 207 = .ok (.ireturn, 1) := by decide +kernel
theorem dX8_grows_0 : decode cX8_grows 0 = .ok (.aload_n 0, 1) := by decide +kernel
theorem dX8_grows_1 : decode cX8_grows 1 = .ok (.sipush 181, 3) := by decide +kernel
theorem dX8_grows_4 : decode cX8_grows 4 = .ok (.iaload, 1) := by decide +kernel
theorem dX8_grows_5 : decode cX8_grows 5 = .ok (.istore_n 1, 1) := by decide +kernel
theorem dX8_grows_6 : decode cX8_grows 6 = .ok (.aload_n 0, 1) := by decide +kernel
theorem dX8_grows_7 : decode cX8_grows 7 = .ok (.iload_n 1, 1) := by decide +kernel
theorem dX8_grows_8 : decode cX8_grows 8 = .ok (.invokestatic 136, 3) := by decide +kernel
theorem dX8_grows_11 : decode cX8_grows 11 = .ok (.istore_n 2, 1) := by decide +kernel
theorem dX8_grows_12 : decode cX8_grows 12 = .ok (.aload_n 0, 1) := by decide +kernel
theorem dX8_grows_13 : decode cX8_grows 13 = .ok (.iload_n 1, 1) := by decide +kernel
theorem dX8_grows_14 : decode cX8_grows 14 = .ok (.invokestatic 142, 3) := by decide +kernel
theorem dX8_grows_17 : decode cX8_grows 17 = .ok (.istore_n 3, 1) := by decide +kernel
theorem dX8_grows_18 : decode cX8_grows 18 = .ok (.aload_n 0, 1) := by decide +kernel
theorem dX8_grows_19 : decode cX8_grows 19 = .ok (.sipush 182, 3) := by decide +kernel
theorem dX8_grows_22 : decode cX8_grows 22 = .ok (.iaload, 1) := by decide +kernel
theorem dX8_grows_23 : decode cX8_grows 23 = .ok (.bipush (-9), 2) := by decide +kernel
theorem dX8_grows_25 : decode cX8_grows 25 = .ok (.if_icmp .ne 20, 3) := by decide +kernel
theorem dX8_grows_28 : decode cX8_grows 28 = .ok (.iload_n 1, 1) := by decide +kernel
theorem dX8_grows_29 : decode cX8_grows 29 = .ok (.iload_n 2, 1) := by decide +kernel
theorem dX8_grows_30 : decode cX8_grows 30 = .ok (.if_icmp .le 15, 3) := by decide +kernel
theorem dX8_grows_33 : decode cX8_grows 33 = .ok (.aload_n 0, 1) := by decide +kernel
theorem dX8_grows_34 : decode cX8_grows 34 = .ok (.sipush 182, 3) := by decide +kernel
theorem dX8_grows_37 : decode cX8_grows 37 = .ok (.aload_n 0, 1) := by decide +kernel
theorem dX8_grows_38 : decode cX8_grows 38 = .ok (.iload_n 1, 1) := by decide +kernel
theorem dX8_grows_39 : decode cX8_grows 39 = .ok (.invokestatic 139, 3) := by decide +kernel
theorem dX8_grows_42 : decode cX8_grows 42 = .ok (.iastore, 1) := by decide +kernel
theorem dX8_grows_43 : decode cX8_grows 43 = .ok (.iconst 1, 1) := by decide +kernel
theorem dX8_grows_44 : decode cX8_grows 44 = .ok (.ireturn, 1) := by decide +kernel
theorem dX8_grows_45 : decode cX8_grows 45 = .ok (.iload_n 2, 1) := by decide +kernel
theorem dX8_grows_46 : decode cX8_grows 46 = .ok (.iload_n 3, 1) := by decide +kernel
theorem dX8_grows_47 : decode cX8_grows 47 = .ok (.if_icmp .ge 41, 3) := by decide +kernel
theorem dX8_grows_50 : decode cX8_grows 50 = .ok (.aload_n 0, 1) := by decide +kernel
theorem dX8_grows_51 : decode cX8_grows 51 = .ok (.sipush 182, 3) := by decide +kernel
theorem dX8_grows_54 : decode cX8_grows 54 = .ok (.iaload, 1) := by decide +kernel
theorem dX8_grows_55 : decode cX8_grows 55 = .ok (.bipush (-9), 2) := by decide +kernel
theorem dX8_grows_57 : decode cX8_grows 57 = .ok (.if_icmp .eq 17, 3) := by decide +kernel
theorem dX8_grows_60 : decode cX8_grows 60 = .ok (.aload_n 0, 1) := by decide +kernel
theorem dX8_grows_61 : decode cX8_grows 61 = .ok (.sipush 182, 3) := by decide +kernel
theorem dX8_grows_64 : decode cX8_grows 64 = .ok (.iaload, 1) := by decide +kernel
theorem dX8_grows_65 : decode cX8_grows 65 = .ok (.iload_n 2, 1) := by decide +kernel
theorem dX8_grows_66 : decode cX8_grows 66 = .ok (.if_icmp .gt 8, 3) := by decide +kernel
theorem dX8_grows_69 : decode cX8_grows 69 = .ok (.iload_n 1, 1) := by decide +kernel
theorem dX8_grows_70 : decode cX8_grows 70 = .ok (.iload_n 3, 1) := by decide +kernel
theorem dX8_grows_71 : decode cX8_grows 71 = .ok (.if_icmp .ge 17, 3) := by decide +kernel
theorem dX8_grows_74 : decode cX8_grows 74 = .ok (.aload_n 0, 1) := by decide +kernel
theorem dX8_grows_75 : decode cX8_grows 75 = .ok (.sipush 182, 3) := by decide +kernel
theorem dX8_grows_78 : decode cX8_grows 78 = .ok (.iload_n 2, 1) := by decide +kernel
theorem dX8_grows_79 : decode cX8_grows 79 = .ok (.iastore, 1) := by decide +kernel
theorem dX8_grows_80 : decode cX8_grows 80 = .ok (.aload_n 0, 1) := by decide +kernel
theorem dX8_grows_81 : decode cX8_grows 81 = .ok (.sipush 181, 3) := by decide +kernel
theorem dX8_grows_84 : decode cX8_grows 84 = .ok (.iload_n 3, 1) := by decide +kernel
theorem dX8_grows_85 : decode cX8_grows 85 = .ok (.iastore, 1) := by decide +kernel
theorem dX8_grows_86 : decode cX8_grows 86 = .ok (.iconst 1, 1) := by decide +kernel
theorem dX8_grows_87 : decode cX8_grows 87 = .ok (.ireturn, 1) := by decide +kernel
theorem dX8_grows_88 : decode cX8_grows 88 = .ok (.iload_n 2, 1) := by decide +kernel
theorem dX8_grows_89 : decode cX8_grows 89 = .ok (.ifCond .ne 5, 3) := by decide +kernel
theorem dX8_grows_92 : decode cX8_grows 92 = .ok (.iconst 0, 1) := by decide +kernel
theorem dX8_grows_93 : decode cX8_grows 93 = .ok (.ireturn, 1) := by decide +kernel
theorem dX8_grows_94 : decode cX8_grows 94 = .ok (.aload_n 0, 1) := by decide +kernel
theorem dX8_grows_95 : decode cX8_grows 95 = .ok (.iload_n 3, 1) := by decide +kernel
theorem dX8_grows_96 : decode cX8_grows 96 = .ok (.invokestatic 104, 3) := by decide +kernel
theorem dX8_grows_99 : decode cX8_grows 99 = .ok (.istore 4, 2) := by decide +kernel
theorem dX8_grows_101 : decode cX8_grows 101 = .ok (.aload_n 0, 1) := by decide +kernel
theorem dX8_grows_102 : decode cX8_grows 102 = .ok (.sipush 182, 3) := by decide +kernel
theorem dX8_grows_105 : decode cX8_grows 105 = .ok (.aload_n 0, 1) := by decide +kernel
theorem dX8_grows_106 : decode cX8_grows 106 = .ok (.iload 4, 2) := by decide +kernel
theorem dX8_grows_108 : decode cX8_grows 108 = .ok (.invokestatic 100, 3) := by decide +kernel
theorem dX8_grows_111 : decode cX8_grows 111 = .ok (.iastore, 1) := by decide +kernel
theorem dX8_grows_112 : decode cX8_grows 112 = .ok (.aload_n 0, 1) := by decide +kernel
theorem dX8_grows_113 : decode cX8_grows 113 = .ok (.sipush 181, 3) := by decide +kernel
theorem dX8_grows_116 : decode cX8_grows 116 = .ok (.iload 4, 2) := by decide +kernel
theorem dX8_grows_118 : decode cX8_grows 118 = .ok (.iconst 1, 1) := by decide +kernel
theorem dX8_grows_119 : decode cX8_grows 119 = .ok (.iadd, 1) := by decide +kernel
theorem dX8_grows_120 : decode cX8_grows 120 = .ok (.iastore, 1) := by decide +kernel
theorem dX8_grows_121 : decode cX8_grows 121 = .ok (.iconst 1, 1) := by decide +kernel
theorem dX8_grows_122 : decode cX8_grows 122 = .ok (.ireturn, 1) := by decide +kernel
theorem dX8_moves_0 : decode cX8_moves 0 = .ok (.aload_n 0, 1) := by decide +kernel
theorem dX8_moves_1 : decode cX8_moves 1 = .ok (.sipush 181, 3) := by decide +kernel
theorem dX8_moves_4 : decode cX8_moves 4 = .ok (.iaload, 1) := by decide +kernel
theorem dX8_moves_5 : decode cX8_moves 5 = .ok (.iload_n 1, 1) := by decide +kernel
theorem dX8_moves_6 : decode cX8_moves 6 = .ok (.iadd, 1) := by decide +kernel
theorem dX8_moves_7 : decode cX8_moves 7 = .ok (.istore_n 2, 1) := by decide +kernel
theorem dX8_moves_8 : decode cX8_moves 8 = .ok (.aload_n 0, 1) := by decide +kernel
theorem dX8_moves_9 : decode cX8_moves 9 = .ok (.sipush 181, 3) := by decide +kernel
theorem dX8_moves_12 : decode cX8_moves 12 = .ok (.iload_n 2, 1) := by decide +kernel
theorem dX8_moves_13 : decode cX8_moves 13 = .ok (.ifCond .ge 7, 3) := by decide +kernel
theorem dX8_moves_16 : decode cX8_moves 16 = .ok (.iconst 0, 1) := by decide +kernel
theorem dX8_moves_17 : decode cX8_moves 17 = .ok (.goto 21, 3) := by decide +kernel
theorem dX8_moves_20 : decode cX8_moves 20 = .ok (.iload_n 2, 1) := by decide +kernel
theorem dX8_moves_21 : decode cX8_moves 21 = .ok (.aload_n 0, 1) := by decide +kernel
theorem dX8_moves_22 : decode cX8_moves 22 = .ok (.sipush 180, 3) := by decide +kernel
theorem dX8_moves_25 : decode cX8_moves 25 = .ok (.iaload, 1) := by decide +kernel
theorem dX8_moves_26 : decode cX8_moves 26 = .ok (.if_icmp .le 11, 3) := by decide +kernel
theorem dX8_moves_29 : decode cX8_moves 29 = .ok (.aload_n 0, 1) := by decide +kernel
theorem dX8_moves_30 : decode cX8_moves 30 = .ok (.sipush 180, 3) := by decide +kernel
theorem dX8_moves_33 : decode cX8_moves 33 = .ok (.iaload, 1) := by decide +kernel
theorem dX8_moves_34 : decode cX8_moves 34 = .ok (.goto 4, 3) := by decide +kernel
theorem dX8_moves_37 : decode cX8_moves 37 = .ok (.iload_n 2, 1) := by decide +kernel
theorem dX8_moves_38 : decode cX8_moves 38 = .ok (.iastore, 1) := by decide +kernel
theorem dX8_moves_39 : decode cX8_moves 39 = .ok (.aload_n 0, 1) := by decide +kernel
theorem dX8_moves_40 : decode cX8_moves 40 = .ok (.sipush 182, 3) := by decide +kernel
theorem dX8_moves_43 : decode cX8_moves 43 = .ok (.bipush (-9), 2) := by decide +kernel
theorem dX8_moves_45 : decode cX8_moves 45 = .ok (.iastore, 1) := by decide +kernel
theorem dX8_moves_46 : decode cX8_moves 46 = .ok (.return_, 1) := by decide +kernel
theorem dX8_append_0 : decode cX8_append 0 = .ok (.aload_n 0, 1) := by decide +kernel
theorem dX8_append_1 : decode cX8_append 1 = .ok (.iload_n 1, 1) := by decide +kernel
theorem dX8_append_2 : decode cX8_append 2 = .ok (.i2l, 1) := by decide +kernel
theorem dX8_append_3 : decode cX8_append 3 = .ok (.lconst 0, 1) := by decide +kernel
theorem dX8_append_4 : decode cX8_append 4 = .ok (.ldc2_w 145, 3) := by decide +kernel
theorem dX8_append_7 : decode cX8_append 7 = .ok (.invokestatic 79, 3) := by decide +kernel
theorem dX8_append_10 : decode cX8_append 10 = .ok (.ifCond .ne 7, 3) := by decide +kernel
theorem dX8_append_13 : decode cX8_append 13 = .ok (.iconst 1, 1) := by decide +kernel
theorem dX8_append_14 : decode cX8_append 14 = .ok (.goto 17, 3) := by decide +kernel
theorem dX8_append_17 : decode cX8_append 17 = .ok (.aload_n 0, 1) := by decide +kernel
theorem dX8_append_18 : decode cX8_append 18 = .ok (.getfield 147, 3) := by decide +kernel
theorem dX8_append_21 : decode cX8_append 21 = .ok (.bipush 120, 2) := by decide +kernel
theorem dX8_append_23 : decode cX8_append 23 = .ok (.if_icmp .ne 7, 3) := by decide +kernel
theorem dX8_append_26 : decode cX8_append 26 = .ok (.iconst 2, 1) := by decide +kernel
theorem dX8_append_27 : decode cX8_append 27 = .ok (.goto 4, 3) := by decide +kernel
theorem dX8_append_30 : decode cX8_append 30 = .ok (.iconst 0, 1) := by decide +kernel
theorem dX8_append_31 : decode cX8_append 31 = .ok (.invokevirtual 150, 3) := by decide +kernel
theorem dX8_append_34 : decode cX8_append 34 = .ok (.ifCond .eq 5, 3) := by decide +kernel
theorem dX8_append_37 : decode cX8_append 37 = .ok (.iconst 0, 1) := by decide +kernel
theorem dX8_append_38 : decode cX8_append 38 = .ok (.ireturn, 1) := by decide +kernel
theorem dX8_append_39 : decode cX8_append 39 = .ok (.aload_n 0, 1) := by decide +kernel
theorem dX8_append_40 : decode cX8_append 40 = .ok (.getfield 7, 3) := by decide +kernel
theorem dX8_append_43 : decode cX8_append 43 = .ok (.aload_n 0, 1) := by decide +kernel
theorem dX8_append_44 : decode cX8_append 44 = .ok (.getfield 147, 3) := by decide +kernel
theorem dX8_append_47 : decode cX8_append 47 = .ok (.iload_n 1, 1) := by decide +kernel
theorem dX8_append_48 : decode cX8_append 48 = .ok (.iastore, 1) := by decide +kernel
theorem dX8_append_49 : decode cX8_append 49 = .ok (.aload_n 0, 1) := by decide +kernel
theorem dX8_append_50 : decode cX8_append 50 = .ok (.dup, 1) := by decide +kernel
theorem dX8_append_51 : decode cX8_append 51 = .ok (.getfield 147, 3) := by decide +kernel
theorem dX8_append_54 : decode cX8_append 54 = .ok (.iconst 1, 1) := by decide +kernel
theorem dX8_append_55 : decode cX8_append 55 = .ok (.iadd, 1) := by decide +kernel
theorem dX8_append_56 : decode cX8_append 56 = .ok (.putfield 147, 3) := by decide +kernel
theorem dX8_append_59 : decode cX8_append 59 = .ok (.aload_n 0, 1) := by decide +kernel
theorem dX8_append_60 : decode cX8_append 60 = .ok (.getfield 147, 3) := by decide +kernel
theorem dX8_append_63 : decode cX8_append 63 = .ok (.ireturn, 1) := by decide +kernel
theorem dX8_clearText_0 : decode cX8_clearText 0 = .ok (.aload_n 0, 1) := by decide +kernel
theorem dX8_clearText_1 : decode cX8_clearText 1 = .ok (.iconst 0, 1) := by decide +kernel
theorem dX8_clearText_2 : decode cX8_clearText 2 = .ok (.putfield 71, 3) := by decide +kernel
theorem dX8_clearText_5 : decode cX8_clearText 5 = .ok (.aload_n 0, 1) := by decide +kernel
theorem dX8_clearText_6 : decode cX8_clearText 6 = .ok (.getfield 147, 3) := by decide +kernel
theorem dX8_clearText_9 : decode cX8_clearText 9 = .ok (.istore_n 1, 1) := by decide +kernel
theorem dX8_clearText_10 : decode cX8_clearText 10 = .ok (.aload_n 0, 1) := by decide +kernel
theorem dX8_clearText_11 : decode cX8_clearText 11 = .ok (.iconst 0, 1) := by decide +kernel
theorem dX8_clearText_12 : decode cX8_clearText 12 = .ok (.putfield 147, 3) := by decide +kernel
theorem dX8_clearText_15 : decode cX8_clearText 15 = .ok (.iload_n 1, 1) := by decide +kernel
theorem dX8_clearText_16 : decode cX8_clearText 16 = .ok (.ireturn, 1) := by decide +kernel
theorem dX8_add_0 : decode cX8_add 0 = .ok (.aload_n 0, 1) := by decide +kernel
theorem dX8_add_1 : decode cX8_add 1 = .ok (.getfield 35, 3) := by decide +kernel
theorem dX8_add_4 : decode cX8_add 4 = .ok (.aload_n 0, 1) := by decide +kernel
theorem dX8_add_5 : decode cX8_add 5 = .ok (.getfield 153, 3) := by decide +kernel
theorem dX8_add_8 : decode cX8_add 8 = .ok (.iload_n 1, 1) := by decide +kernel
theorem dX8_add_9 : decode cX8_add 9 = .ok (.iastore, 1) := by decide +kernel
theorem dX8_add_10 : decode cX8_add 10 = .ok (.aload_n 0, 1) := by decide +kernel
theorem dX8_add_11 : decode cX8_add 11 = .ok (.dup, 1) := by decide +kernel
theorem dX8_add_12 : decode cX8_add 12 = .ok (.getfield 153, 3) := by decide +kernel
theorem dX8_add_15 : decode cX8_add 15 = .ok (.iconst 1, 1) := by decide +kernel
theorem dX8_add_16 : decode cX8_add 16 = .ok (.iadd, 1) := by decide +kernel
theorem dX8_add_17 : decode cX8_add 17 = .ok (.putfield 153, 3) := by decide +kernel
theorem dX8_add_20 : decode cX8_add 20 = .ok (.return_, 1) := by decide +kernel
theorem dX8_insert_0 : decode cX8_insert 0 = .ok (.aload_n 0, 1) := by decide +kernel
theorem dX8_insert_1 : decode cX8_insert 1 = .ok (.getfield 153, 3) := by decide +kernel
theorem dX8_insert_4 : decode cX8_insert 4 = .ok (.istore_n 3, 1) := by decide +kernel
theorem dX8_insert_5 : decode cX8_insert 5 = .ok (.iload_n 3, 1) := by decide +kernel
theorem dX8_insert_6 : decode cX8_insert 6 = .ok (.iload_n 1, 1) := by decide +kernel
theorem dX8_insert_7 : decode cX8_insert 7 = .ok (.if_icmp .le 23, 3) := by decide +kernel
theorem dX8_insert_10 : decode cX8_insert 10 = .ok (.aload_n 0, 1) := by decide +kernel
theorem dX8_insert_11 : decode cX8_insert 11 = .ok (.getfield 35, 3) := by decide +kernel
theorem dX8_insert_14 : decode cX8_insert 14 = .ok (.iload_n 3, 1) := by decide +kernel
theorem dX8_insert_15 : decode cX8_insert 15 = .ok (.aload_n 0, 1) := by decide +kernel
theorem dX8_insert_16 : decode cX8_insert 16 = .ok (.getfield 35, 3) := by decide +kernel
theorem dX8_insert_19 : decode cX8_insert 19 = .ok (.iload_n 3, 1) := by decide +kernel
theorem dX8_insert_20 : decode cX8_insert 20 = .ok (.iconst 1, 1) := by decide +kernel
theorem dX8_insert_21 : decode cX8_insert 21 = .ok (.isub, 1) := by decide +kernel
theorem dX8_insert_22 : decode cX8_insert 22 = .ok (.iaload, 1) := by decide +kernel
theorem dX8_insert_23 : decode cX8_insert 23 = .ok (.iastore, 1) := by decide +kernel
theorem dX8_insert_24 : decode cX8_insert 24 = .ok (.iinc 3 (-1), 3) := by decide +kernel
theorem dX8_insert_27 : decode cX8_insert 27 = .ok (.goto (-22), 3) := by decide +kernel
theorem dX8_insert_30 : decode cX8_insert 30 = .ok (.aload_n 0, 1) := by decide +kernel
theorem dX8_insert_31 : decode cX8_insert 31 = .ok (.getfield 35, 3) := by decide +kernel
theorem dX8_insert_34 : decode cX8_insert 34 = .ok (.iload_n 1, 1) := by decide +kernel
theorem dX8_insert_35 : decode cX8_insert 35 = .ok (.iload_n 2, 1) := by decide +kernel
theorem dX8_insert_36 : decode cX8_insert 36 = .ok (.iastore, 1) := by decide +kernel
theorem dX8_insert_37 : decode cX8_insert 37 = .ok (.aload_n 0, 1) := by decide +kernel
theorem dX8_insert_38 : decode cX8_insert 38 = .ok (.dup, 1) := by decide +kernel
theorem dX8_insert_39 : decode cX8_insert 39 = .ok (.getfield 153, 3) := by decide +kernel
theorem dX8_insert_42 : decode cX8_insert 42 = .ok (.iconst 1, 1) := by decide +kernel
theorem dX8_insert_43 : decode cX8_insert 43 = .ok (.iadd, 1) := by decide +kernel
theorem dX8_insert_44 : decode cX8_insert 44 = .ok (.putfield 153, 3) := by decide +kernel
theorem dX8_insert_47 : decode cX8_insert 47 = .ok (.return_, 1) := by decide +kernel
theorem dX8_unwrap_0 : decode cX8_unwrap 0 = .ok (.aload_n 0, 1) := by decide +kernel
theorem dX8_unwrap_1 : decode cX8_unwrap 1 = .ok (.getfield 47, 3) := by decide +kernel
theorem dX8_unwrap_4 : decode cX8_unwrap 4 = .ok (.aload_n 0, 1) := by decide +kernel
theorem dX8_unwrap_5 : decode cX8_unwrap 5 = .ok (.getfield 156, 3) := by decide +kernel
theorem dX8_unwrap_8 : decode cX8_unwrap 8 = .ok (.baload, 1) := by decide +kernel
theorem dX8_unwrap_9 : decode cX8_unwrap 9 = .ok (.ifCond .eq 63, 3) := by decide +kernel
theorem dX8_unwrap_12 : decode cX8_unwrap 12 = .ok (.aload_n 0, 1) := by decide +kernel
theorem dX8_unwrap_13 : decode cX8_unwrap 13 = .ok (.dup, 1) := by decide +kernel
theorem dX8_unwrap_14 : decode cX8_unwrap 14 = .ok (.getfield 153, 3) := by decide +kernel
theorem dX8_unwrap_17 : decode cX8_unwrap 17 = .ok (.iconst 1, 1) := by decide +kernel
theorem dX8_unwrap_18 : decode cX8_unwrap 18 = .ok (.isub, 1) := by decide +kernel
theorem dX8_unwrap_19 : decode cX8_unwrap 19 = .ok (.putfield 153, 3) := by decide +kernel
theorem dX8_unwrap_22 : decode cX8_unwrap 22 = .ok (.aload_n 0, 1) := by decide +kernel
theorem dX8_unwrap_23 : decode cX8_unwrap 23 = .ok (.getfield 44, 3) := by decide +kernel
theorem dX8_unwrap_26 : decode cX8_unwrap 26 = .ok (.aload_n 0, 1) := by decide +kernel
theorem dX8_unwrap_27 : decode cX8_unwrap 27 = .ok (.getfield 156, 3) := by decide +kernel
theorem dX8_unwrap_30 : decode cX8_unwrap 30 = .ok (.iaload, 1) := by decide +kernel
theorem dX8_unwrap_31 : decode cX8_unwrap 31 = .ok (.istore_n 1, 1) := by decide +kernel
theorem dX8_unwrap_32 : decode cX8_unwrap 32 = .ok (.iload_n 1, 1) := by decide +kernel
theorem dX8_unwrap_33 : decode cX8_unwrap 33 = .ok (.iconst 1, 1) := by decide +kernel
theorem dX8_unwrap_34 : decode cX8_unwrap 34 = .ok (.iadd, 1) := by decide +kernel
theorem dX8_unwrap_35 : decode cX8_unwrap 35 = .ok (.aload_n 0, 1) := by decide +kernel
theorem dX8_unwrap_36 : decode cX8_unwrap 36 = .ok (.getfield 153, 3) := by decide +kernel
theorem dX8_unwrap_39 : decode cX8_unwrap 39 = .ok (.if_icmp .ge 23, 3) := by decide +kernel
theorem dX8_unwrap_42 : decode cX8_unwrap 42 = .ok (.aload_n 0, 1) := by decide +kernel
theorem dX8_unwrap_43 : decode cX8_unwrap 43 = .ok (.getfield 35, 3) := by decide +kernel
theorem dX8_unwrap_46 : decode cX8_unwrap 46 = .ok (.iload_n 1, 1) := by decide +kernel
theorem dX8_unwrap_47 : decode cX8_unwrap 47 = .ok (.aload_n 0, 1) := by decide +kernel
theorem dX8_unwrap_48 : decode cX8_unwrap 48 = .ok (.getfield 35, 3) := by decide +kernel
theorem dX8_unwrap_51 : decode cX8_unwrap 51 = .ok (.iload_n 1, 1) := by decide +kernel
theorem dX8_unwrap_52 : decode cX8_unwrap 52 = .ok (.iconst 1, 1) := by decide +kernel
theorem dX8_unwrap_53 : decode cX8_unwrap 53 = .ok (.iadd, 1) := by decide +kernel
theorem dX8_unwrap_54 : decode cX8_unwrap 54 = .ok (.iaload, 1) := by decide +kernel
theorem dX8_unwrap_55 : decode cX8_unwrap 55 = .ok (.iastore, 1) := by decide +kernel
theorem dX8_unwrap_56 : decode cX8_unwrap 56 = .ok (.iinc 1 1, 3) := by decide +kernel
theorem dX8_unwrap_59 : decode cX8_unwrap 59 = .ok (.goto (-27), 3) := by decide +kernel
theorem dX8_unwrap_62 : decode cX8_unwrap 62 = .ok (.aload_n 0, 1) := by decide +kernel
theorem dX8_unwrap_63 : decode cX8_unwrap 63 = .ok (.dup, 1) := by decide +kernel
theorem dX8_unwrap_64 : decode cX8_unwrap 64 = .ok (.getfield 153, 3) := by decide +kernel
theorem dX8_unwrap_67 : decode cX8_unwrap 67 = .ok (.iconst 1, 1) := by decide +kernel
theorem dX8_unwrap_68 : decode cX8_unwrap 68 = .ok (.isub, 1) := by decide +kernel
theorem dX8_unwrap_69 : decode cX8_unwrap 69 = .ok (.putfield 153, 3) := by decide +kernel
theorem dX8_unwrap_72 : decode cX8_unwrap 72 = .ok (.aload_n 0, 1) := by decide +kernel
theorem dX8_unwrap_73 : decode cX8_unwrap 73 = .ok (.getfield 47, 3) := by decide +kernel
theorem dX8_unwrap_76 : decode cX8_unwrap 76 = .ok (.aload_n 0, 1) := by decide +kernel
theorem dX8_unwrap_77 : decode cX8_unwrap 77 = .ok (.getfield 156, 3) := by decide +kernel
theorem dX8_unwrap_80 : decode cX8_unwrap 80 = .ok (.iconst 0, 1) := by decide +kernel
theorem dX8_unwrap_81 : decode cX8_unwrap 81 = .ok (.bastore, 1) := by decide +kernel
theorem dX8_unwrap_82 : decode cX8_unwrap 82 = .ok (.return_, 1) := by decide +kernel
theorem dX8_closeChain_0 : decode cX8_closeChain 0 = .ok (.aload_n 0, 1) := by decide +kernel
theorem dX8_closeChain_1 : decode cX8_closeChain 1 = .ok (.getfield 50, 3) := by decide +kernel
theorem dX8_closeChain_4 : decode cX8_closeChain 4 = .ok (.aload_n 0, 1) := by decide +kernel
theorem dX8_closeChain_5 : decode cX8_closeChain 5 = .ok (.getfield 156, 3) := by decide +kernel
theorem dX8_closeChain_8 : decode cX8_closeChain 8 = .ok (.baload, 1) := by decide +kernel
theorem dX8_closeChain_9 : decode cX8_closeChain 9 = .ok (.ifCond .eq 13, 3) := by decide +kernel
theorem dX8_closeChain_12 : decode cX8_closeChain 12 = .ok (.aload_n 0, 1) := by decide +kernel
theorem dX8_closeChain_13 : decode cX8_closeChain 13 = .ok (.invokevirtual 159, 3) := by decide +kernel
theorem dX8_closeChain_16 : decode cX8_closeChain 16 = .ok (.aload_n 0, 1) := by decide +kernel
theorem dX8_closeChain_17 : decode cX8_closeChain 17 = .ok (.bipush (-11), 2) := by decide +kernel
theorem dX8_closeChain_19 : decode cX8_closeChain 19 = .ok (.invokevirtual 162, 3) := by decide +kernel
theorem dX8_closeChain_22 : decode cX8_closeChain 22 = .ok (.aload_n 0, 1) := by decide +kernel
theorem dX8_closeChain_23 : decode cX8_closeChain 23 = .ok (.getfield 50, 3) := by decide +kernel
theorem dX8_closeChain_26 : decode cX8_closeChain 26 = .ok (.aload_n 0, 1) := by decide +kernel
theorem dX8_closeChain_27 : decode cX8_closeChain 27 = .ok (.getfield 156, 3) := by decide +kernel
theorem dX8_closeChain_30 : decode cX8_closeChain 30 = .ok (.iconst 0, 1) := by decide +kernel
theorem dX8_closeChain_31 : decode cX8_closeChain 31 = .ok (.bastore, 1) := by decide +kernel
theorem dX8_closeChain_32 : decode cX8_closeChain 32 = .ok (.aload_n 0, 1) := by decide +kernel
theorem dX8_closeChain_33 : decode cX8_closeChain 33 = .ok (.getfield 47, 3) := by decide +kernel
theorem dX8_closeChain_36 : decode cX8_closeChain 36 = .ok (.aload_n 0, 1) := by decide +kernel
theorem dX8_closeChain_37 : decode cX8_closeChain 37 = .ok (.getfield 156, 3) := by decide +kernel
theorem dX8_closeChain_40 : decode cX8_closeChain 40 = .ok (.iconst 0, 1) := by decide +kernel
theorem dX8_closeChain_41 : decode cX8_closeChain 41 = .ok (.bastore, 1) := by decide +kernel
theorem dX8_closeChain_42 : decode cX8_closeChain 42 = .ok (.aload_n 0, 1) := by decide +kernel
theorem dX8_closeChain_43 : decode cX8_closeChain 43 = .ok (.getfield 41, 3) := by decide +kernel
theorem dX8_closeChain_46 : decode cX8_closeChain 46 = .ok (.aload_n 0, 1) := by decide +kernel
theorem dX8_closeChain_47 : decode cX8_closeChain 47 = .ok (.getfield 156, 3) := by decide +kernel
theorem dX8_closeChain_50 : decode cX8_closeChain 50 = .ok (.bipush (-9), 2) := by decide +kernel
theorem dX8_closeChain_52 : decode cX8_closeChain 52 = .ok (.iastore, 1) := by decide +kernel
theorem dX8_closeChain_53 : decode cX8_closeChain 53 = .ok (.return_, 1) := by decide +kernel
theorem dX8_openRow_0 : decode cX8_openRow 0 = .ok (.aload_n 0, 1) := by decide +kernel
theorem dX8_openRow_1 : decode cX8_openRow 1 = .ok (.dup, 1) := by decide +kernel
theorem dX8_openRow_2 : decode cX8_openRow 2 = .ok (.getfield 156, 3) := by decide +kernel
theorem dX8_openRow_5 : decode cX8_openRow 5 = .ok (.iconst 1, 1) := by decide +kernel
theorem dX8_openRow_6 : decode cX8_openRow 6 = .ok (.iadd, 1) := by decide +kernel
theorem dX8_openRow_7 : decode cX8_openRow 7 = .ok (.putfield 156, 3) := by decide +kernel
theorem dX8_openRow_10 : decode cX8_openRow 10 = .ok (.aload_n 0, 1) := by decide +kernel
theorem dX8_openRow_11 : decode cX8_openRow 11 = .ok (.getfield 38, 3) := by decide +kernel
theorem dX8_openRow_14 : decode cX8_openRow 14 = .ok (.aload_n 0, 1) := by decide +kernel
theorem dX8_openRow_15 : decode cX8_openRow 15 = .ok (.getfield 156, 3) := by decide +kernel
theorem dX8_openRow_18 : decode cX8_openRow 18 = .ok (.iload_n 1, 1) := by decide +kernel
theorem dX8_openRow_19 : decode cX8_openRow 19 = .ok (.iastore, 1) := by decide +kernel
theorem dX8_openRow_20 : decode cX8_openRow 20 = .ok (.aload_n 0, 1) := by decide +kernel
theorem dX8_openRow_21 : decode cX8_openRow 21 = .ok (.getfield 41, 3) := by decide +kernel
theorem dX8_openRow_24 : decode cX8_openRow 24 = .ok (.aload_n 0, 1) := by decide +kernel
theorem dX8_openRow_25 : decode cX8_openRow 25 = .ok (.getfield 156, 3) := by decide +kernel
theorem dX8_openRow_28 : decode cX8_openRow 28 = .ok (.bipush (-9), 2) := by decide +kernel
theorem dX8_openRow_30 : decode cX8_openRow 30 = .ok (.iastore, 1) := by decide +kernel
theorem dX8_openRow_31 : decode cX8_openRow 31 = .ok (.aload_n 0, 1) := by decide +kernel
theorem dX8_openRow_32 : decode cX8_openRow 32 = .ok (.getfield 47, 3) := by decide +kernel
theorem dX8_openRow_35 : decode cX8_openRow 35 = .ok (.aload_n 0, 1) := by decide +kernel
theorem dX8_openRow_36 : decode cX8_openRow 36 = .ok (.getfield 156, 3) := by decide +kernel
theorem dX8_openRow_39 : decode cX8_openRow 39 = .ok (.iconst 0, 1) := by decide +kernel
theorem dX8_openRow_40 : decode cX8_openRow 40 = .ok (.bastore, 1) := by decide +kernel
theorem dX8_openRow_41 : decode cX8_openRow 41 = .ok (.aload_n 0, 1) := by decide +kernel
theorem dX8_openRow_42 : decode cX8_openRow 42 = .ok (.getfield 50, 3) := by decide +kernel
theorem dX8_openRow_45 : decode cX8_openRow 45 = .ok (.aload_n 0, 1) := by decide +kernel
theorem dX8_openRow_46 : decode cX8_openRow 46 = .ok (.getfield 156, 3) := by decide +kernel
theorem dX8_openRow_49 : decode cX8_openRow 49 = .ok (.iconst 0, 1) := by decide +kernel
theorem dX8_openRow_50 : decode cX8_openRow 50 = .ok (.bastore, 1) := by decide +kernel
theorem dX8_openRow_51 : decode cX8_openRow 51 = .ok (.aload_n 0, 1) := by decide +kernel
theorem dX8_openRow_52 : decode cX8_openRow 52 = .ok (.getfield 53, 3) := by decide +kernel
theorem dX8_openRow_55 : decode cX8_openRow 55 = .ok (.aload_n 0, 1) := by decide +kernel
theorem dX8_openRow_56 : decode cX8_openRow 56 = .ok (.getfield 156, 3) := by decide +kernel
theorem dX8_openRow_59 : decode cX8_openRow 59 = .ok (.iconst 0, 1) := by decide +kernel
theorem dX8_openRow_60 : decode cX8_openRow 60 = .ok (.bastore, 1) := by decide +kernel
theorem dX8_openRow_61 : decode cX8_openRow 61 = .ok (.return_, 1) := by decide +kernel
theorem dX8_line_0 : decode cX8_line 0 = .ok (.aload_n 0, 1) := by decide +kernel
theorem dX8_line_1 : decode cX8_line 1 = .ok (.getfield 50, 3) := by decide +kernel
theorem dX8_line_4 : decode cX8_line 4 = .ok (.aload_n 0, 1) := by decide +kernel
theorem dX8_line_5 : decode cX8_line 5 = .ok (.getfield 156, 3) := by decide +kernel
theorem dX8_line_8 : decode cX8_line 8 = .ok (.baload, 1) := by decide +kernel
theorem dX8_line_9 : decode cX8_line 9 = .ok (.ifCond .eq 16, 3) := by decide +kernel
theorem dX8_line_12 : decode cX8_line 12 = .ok (.aload_n 0, 1) := by decide +kernel
theorem dX8_line_13 : decode cX8_line 13 = .ok (.invokevirtual 159, 3) := by decide +kernel
theorem dX8_line_16 : decode cX8_line 16 = .ok (.aload_n 0, 1) := by decide +kernel
theorem dX8_line_17 : decode cX8_line 17 = .ok (.bipush (-11), 2) := by decide +kernel
theorem dX8_line_19 : decode cX8_line 19 = .ok (.invokevirtual 162, 3) := by decide +kernel
theorem dX8_line_22 : decode cX8_line 22 = .ok (.goto 7, 3) := by decide +kernel
theorem dX8_line_25 : decode cX8_line 25 = .ok (.aload_n 0, 1) := by decide +kernel
theorem dX8_line_26 : decode cX8_line 26 = .ok (.invokevirtual 159, 3) := by decide +kernel
theorem dX8_line_29 : decode cX8_line 29 = .ok (.aload_n 0, 1) := by decide +kernel
theorem dX8_line_30 : decode cX8_line 30 = .ok (.aload_n 0, 1) := by decide +kernel
theorem dX8_line_31 : decode cX8_line 31 = .ok (.getfield 41, 3) := by decide +kernel
theorem dX8_line_34 : decode cX8_line 34 = .ok (.aload_n 0, 1) := by decide +kernel
theorem dX8_line_35 : decode cX8_line 35 = .ok (.getfield 156, 3) := by decide +kernel
theorem dX8_line_38 : decode cX8_line 38 = .ok (.iaload, 1) := by decide +kernel
theorem dX8_line_39 : decode cX8_line 39 = .ok (.iconst (-1), 1) := by decide +kernel
theorem dX8_line_40 : decode cX8_line 40 = .ok (.invokevirtual 166, 3) := by decide +kernel
theorem dX8_line_43 : decode cX8_line 43 = .ok (.aload_n 0, 1) := by decide +kernel
theorem dX8_line_44 : decode cX8_line 44 = .ok (.bipush (-10), 2) := by decide +kernel
theorem dX8_line_46 : decode cX8_line 46 = .ok (.invokevirtual 162, 3) := by decide +kernel
theorem dX8_line_49 : decode cX8_line 49 = .ok (.aload_n 0, 1) := by decide +kernel
theorem dX8_line_50 : decode cX8_line 50 = .ok (.getfield 50, 3) := by decide +kernel
theorem dX8_line_53 : decode cX8_line 53 = .ok (.aload_n 0, 1) := by decide +kernel
theorem dX8_line_54 : decode cX8_line 54 = .ok (.getfield 156, 3) := by decide +kernel
theorem dX8_line_57 : decode cX8_line 57 = .ok (.iconst 1, 1) := by decide +kernel
theorem dX8_line_58 : decode cX8_line 58 = .ok (.bastore, 1) := by decide +kernel
theorem dX8_line_59 : decode cX8_line 59 = .ok (.aload_n 0, 1) := by decide +kernel
theorem dX8_line_60 : decode cX8_line 60 = .ok (.getfield 44, 3) := by decide +kernel
theorem dX8_line_63 : decode cX8_line 63 = .ok (.aload_n 0, 1) := by decide +kernel
theorem dX8_line_64 : decode cX8_line 64 = .ok (.getfield 156, 3) := by decide +kernel
theorem dX8_line_67 : decode cX8_line 67 = .ok (.aload_n 0, 1) := by decide +kernel
theorem dX8_line_68 : decode cX8_line 68 = .ok (.getfield 153, 3) := by decide +kernel
theorem dX8_line_71 : decode cX8_line 71 = .ok (.iastore, 1) := by decide +kernel
theorem dX8_line_72 : decode cX8_line 72 = .ok (.return_, 1) := by decide +kernel
theorem dX8_readText_0 : decode cX8_readText 0 = .ok (.aload_n 0, 1) := by decide +kernel
theorem dX8_readText_1 : decode cX8_readText 1 = .ok (.iconst 0, 1) := by decide +kernel
theorem dX8_readText_2 : decode cX8_readText 2 = .ok (.putfield 153, 3) := by decide +kernel
theorem dX8_readText_5 : decode cX8_readText 5 = .ok (.aload_n 0, 1) := by decide +kernel
theorem dX8_readText_6 : decode cX8_readText 6 = .ok (.iconst (-1), 1) := by decide +kernel
theorem dX8_readText_7 : decode cX8_readText 7 = .ok (.putfield 156, 3) := by decide +kernel
theorem dX8_readText_10 : decode cX8_readText 10 = .ok (.aload_n 0, 1) := by decide +kernel
theorem dX8_readText_11 : decode cX8_readText 11 = .ok (.iconst 0, 1) := by decide +kernel
theorem dX8_readText_12 : decode cX8_readText 12 = .ok (.invokevirtual 170, 3) := by decide +kernel
theorem dX8_readText_15 : decode cX8_readText 15 = .ok (.iconst 0, 1) := by decide +kernel
theorem dX8_readText_16 : decode cX8_readText 16 = .ok (.istore_n 1, 1) := by decide +kernel
theorem dX8_readText_17 : decode cX8_readText 17 = .ok (.iconst 0, 1) := by decide +kernel
theorem dX8_readText_18 : decode cX8_readText 18 = .ok (.istore_n 2, 1) := by decide +kernel
theorem dX8_readText_19 : decode cX8_readText 19 = .ok (.iload_n 2, 1) := by decide +kernel
theorem dX8_readText_20 : decode cX8_readText 20 = .ok (.aload_n 0, 1) := by decide +kernel
theorem dX8_readText_21 : decode cX8_readText 21 = .ok (.getfield 147, 3) := by decide +kernel
theorem dX8_readText_24 : decode cX8_readText 24 = .ok (.if_icmp .ge 538, 3) := by decide +kernel
theorem dX8_readText_27 : decode cX8_readText 27 = .ok (.aload_n 0, 1) := by decide +kernel
theorem dX8_readText_28 : decode cX8_readText 28 = .ok (.getfield 7, 3) := by decide +kernel
theorem dX8_readText_31 : decode cX8_readText 31 = .ok (.iload_n 2, 1) := by decide +kernel
theorem dX8_readText_32 : decode cX8_readText 32 = .ok (.iaload, 1) := by decide +kernel
theorem dX8_readText_33 : decode cX8_readText 33 = .ok (.istore_n 3, 1) := by decide +kernel
theorem dX8_readText_34 : decode cX8_readText 34 = .ok (.iload_n 3, 1) := by decide +kernel
theorem dX8_readText_35 : decode cX8_readText 35 = .ok (.invokestatic 87, 3) := by decide +kernel
theorem dX8_readText_38 : decode cX8_readText 38 = .ok (.ifCond .ne 22, 3) := by decide +kernel
theorem dX8_readText_41 : decode cX8_readText 41 = .ok (.iload_n 3, 1) := by decide +kernel
theorem dX8_readText_42 : decode cX8_readText 42 = .ok (.invokestatic 91, 3) := by decide +kernel
theorem dX8_readText_45 : decode cX8_readText 45 = .ok (.ifCond .ne 15, 3) := by decide +kernel
theorem dX8_readText_48 : decode cX8_readText 48 = .ok (.iload_n 3, 1) := by decide +kernel
theorem dX8_readText_49 : decode cX8_readText 49 = .ok (.bipush 40, 2) := by decide +kernel
theorem dX8_readText_51 : decode cX8_readText 51 = .ok (.if_icmp .eq 9, 3) := by decide +kernel
theorem dX8_readText_54 : decode cX8_readText 54 = .ok (.iload_n 3, 1) := by decide +kernel
theorem dX8_readText_55 : decode cX8_readText 55 = .ok (.bipush 114, 2) := by decide +kernel
theorem dX8_readText_57 : decode cX8_readText 57 = .ok (.if_icmp .ne 7, 3) := by decide +kernel
theorem dX8_readText_60 : decode cX8_readText 60 = .ok (.iconst 1, 1) := by decide +kernel
theorem dX8_readText_61 : decode cX8_readText 61 = .ok (.goto 4, 3) := by decide +kernel
theorem dX8_readText_64 : decode cX8_readText 64 = .ok (.iconst 0, 1) := by decide +kernel
theorem dX8_readText_65 : decode cX8_readText 65 = .ok (.istore 4, 2) := by decide +kernel
theorem dX8_readText_67 : decode cX8_readText 67 = .ok (.iload_n 1, 1) := by decide +kernel
theorem dX8_readText_68 : decode cX8_readText 68 = .ok (.iconst 1, 1) := by decide +kernel
theorem dX8_readText_69 : decode cX8_readText 69 = .ok (.if_icmp .le 8, 3) := by decide +kernel
theorem dX8_readText_72 : decode cX8_readText 72 = .ok (.iload 4, 2) := by decide +kernel
theorem dX8_readText_74 : decode cX8_readText 74 = .ok (.goto 62, 3) := by decide +kernel
theorem dX8_readText_77 : decode cX8_readText 77 = .ok (.iload 4, 2) := by decide +kernel
theorem dX8_readText_79 : decode cX8_readText 79 = .ok (.ifCond .ne 52, 3) := by decide +kernel
theorem dX8_readText_82 : decode cX8_readText 82 = .ok (.iload_n 3, 1) := by decide +kernel
theorem dX8_readText_83 : decode cX8_readText 83 = .ok (.bipush 32, 2) := by decide +kernel
theorem dX8_readText_85 : decode cX8_readText 85 = .ok (.if_icmp .eq 46, 3) := by decide +kernel
theorem dX8_readText_88 : decode cX8_readText 88 = .ok (.iload_n 3, 1) := by decide +kernel
theorem dX8_readText_89 : decode cX8_readText 89 = .ok (.invokestatic 94, 3) := by decide +kernel
theorem dX8_readText_92 : decode cX8_readText 92 = .ok (.ifCond .ne 39, 3) := by decide +kernel
theorem dX8_readText_95 : decode cX8_readText 95 = .ok (.iload_n 3, 1) := by decide +kernel
theorem dX8_readText_96 : decode cX8_readText 96 = .ok (.bipush 94, 2) := by decide +kernel
theorem dX8_readText_98 : decode cX8_readText 98 = .ok (.if_icmp .eq 33, 3) := by decide +kernel
theorem dX8_readText_101 : decode cX8_readText 101 = .ok (.iload_n 3, 1) := by decide +kernel
theorem dX8_readText_102 : decode cX8_readText 102 = .ok (.bipush 95, 2) := by decide +kernel
theorem dX8_readText_104 : decode cX8_readText 104 = .ok (.if_icmp .eq 27, 3) := by decide +kernel
theorem dX8_readText_107 : decode cX8_readText 107 = .ok (.iload_n 3, 1) := by decide +kernel
theorem dX8_readText_108 : decode cX8_readText 108 = .ok (.bipush 41, 2) := by decide +kernel
theorem dX8_readText_110 : decode cX8_readText 110 = .ok (.if_icmp .ne 10, 3) := by decide +kernel
theorem dX8_readText_113 : decode cX8_readText 113 = .ok (.aload_n 0, 1) := by decide +kernel
theorem dX8_readText_114 : decode cX8_readText 114 = .ok (.getfield 156, 3) := by decide +kernel
theorem dX8_readText_117 : decode cX8_readText 117 = .ok (.ifCond .gt 14, 3) := by decide +kernel
theorem dX8_readText_120 : decode cX8_readText 120 = .ok (.iload_n 3, 1) := by decide +kernel
theorem dX8_readText_121 : decode cX8_readText 121 = .ok (.bipush 47, 2) := by decide +kernel
theorem dX8_readText_123 : decode cX8_readText 123 = .ok (.if_icmp .ne 12, 3) := by decide +kernel
theorem dX8_readText_126 : decode cX8_readText 126 = .ok (.iload_n 1, 1) := by decide +kernel
theorem dX8_readText_127 : decode cX8_readText 127 = .ok (.iconst 1, 1) := by decide +kernel
theorem dX8_readText_128 : decode cX8_readText 128 = .ok (.if_icmp .ne 7, 3) := by decide +kernel
theorem dX8_readText_131 : decode cX8_readText 131 = .ok (.iconst 1, 1) := by decide +kernel
theorem dX8_readText_132 : decode cX8_readText 132 = .ok (.goto 4, 3) := by decide +kernel
theorem dX8_readText_135 : decode cX8_readText 135 = .ok (.iconst 0, 1) := by decide +kernel
theorem dX8_readText_136 : decode cX8_readText 136 = .ok (.istore 5, 2) := by decide +kernel
theorem dX8_readText_138 : decode cX8_readText 138 = .ok (.iload 5, 2) := by decide +kernel
theorem dX8_readText_140 : decode cX8_readText 140 = .ok (.ifCond .ne 5, 3) := by decide +kernel
theorem dX8_readText_143 : decode cX8_readText 143 = .ok (.iload_n 2, 1) := by decide +kernel
theorem dX8_readText_144 : decode cX8_readText 144 = .ok (.ireturn, 1) := by decide +kernel
theorem dX8_readText_145 : decode cX8_readText 145 = .ok (.iload_n 3, 1) := by decide +kernel
theorem dX8_readText_146 : decode cX8_readText 146 = .ok (.bipush 114, 2) := by decide +kernel
theorem dX8_readText_148 : decode cX8_readText 148 = .ok (.if_icmp .ne 30, 3) := by decide +kernel
theorem dX8_readText_151 : decode cX8_readText 151 = .ok (.iload_n 2, 1) := by decide +kernel
theorem dX8_readText_152 : decode cX8_readText 152 = .ok (.iconst 1, 1) := by decide +kernel
theorem dX8_readText_153 : decode cX8_readText 153 = .ok (.iadd, 1) := by decide +kernel
theorem dX8_readText_154 : decode cX8_readText 154 = .ok (.aload_n 0, 1) := by decide +kernel
theorem dX8_readText_155 : decode cX8_readText 155 = .ok (.getfield 147, 3) := by decide +kernel
theorem dX8_readText_158 : decode cX8_readText 158 = .ok (.if_icmp .eq 16, 3) := by decide +kernel
theorem dX8_readText_161 : decode cX8_readText 161 = .ok (.aload_n 0, 1) := by decide +kernel
theorem dX8_readText_162 : decode cX8_readText 162 = .ok (.getfield 7, 3) := by decide +kernel
theorem dX8_readText_165 : decode cX8_readText 165 = .ok (.iload_n 2, 1) := by decide +kernel
theorem dX8_readText_166 : decode cX8_readText 166 = .ok (.iconst 1, 1) := by decide +kernel
theorem dX8_readText_167 : decode cX8_readText 167 = .ok (.iadd, 1) := by decide +kernel
theorem dX8_readText_168 : decode cX8_readText 168 = .ok (.iaload, 1) := by decide +kernel
theorem dX8_readText_169 : decode cX8_readText 169 = .ok (.bipush 40, 2) := by decide +kernel
theorem dX8_readText_171 : decode cX8_readText 171 = .ok (.if_icmp .eq 7, 3) := by decide +kernel
theorem dX8_readText_174 : decode cX8_readText 174 = .ok (.iload_n 2, 1) := by decide +kernel
theorem dX8_readText_175 : decode cX8_readText 175 = .ok (.iconst 1, 1) := by decide +kernel
theorem dX8_readText_176 : decode cX8_readText 176 = .ok (.iadd, 1) := by decide +kernel
theorem dX8_readText_177 : decode cX8_readText 177 = .ok (.ireturn, 1) := by decide +kernel
theorem dX8_readText_178 : decode cX8_readText 178 = .ok (.iload 4, 2) := by decide +kernel
theorem dX8_readText_180 : decode cX8_readText 180 = .ok (.ifCond .eq 169, 3) := by decide +kernel
theorem dX8_readText_183 : decode cX8_readText 183 = .ok (.iload_n 1, 1) := by decide +kernel
theorem dX8_readText_184 : decode cX8_readText 184 = .ok (.iconst 2, 1) := by decide +kernel
theorem dX8_readText_185 : decode cX8_readText 185 = .ok (.if_icmp .ge 33, 3) := by decide +kernel
theorem dX8_readText_188 : decode cX8_readText 188 = .ok (.aload_n 0, 1) := by decide +kernel
theorem dX8_readText_189 : decode cX8_readText 189 = .ok (.invokevirtual 173, 3) := by decide +kernel
theorem dX8_readText_192 : decode cX8_readText 192 = .ok (.aload_n 0, 1) := by decide +kernel
theorem dX8_readText_193 : decode cX8_readText 193 = .ok (.getfield 41, 3) := by decide +kernel
theorem dX8_readText_196 : decode cX8_readText 196 = .ok (.aload_n 0, 1) := by decide +kernel
theorem dX8_readText_197 : decode cX8_readText 197 = .ok (.getfield 156, 3) := by decide +kernel
theorem dX8_readText_200 : decode cX8_readText 200 = .ok (.aload_n 0, 1) := by decide +kernel
theorem dX8_readText_201 : decode cX8_readText 201 = .ok (.getfield 153, 3) := by decide +kernel
theorem dX8_readText_204 : decode cX8_readText 204 = .ok (.iastore, 1) := by decide +kernel
theorem dX8_readText_205 : decode cX8_readText 205 = .ok (.aload_n 0, 1) := by decide +kernel
theorem dX8_readText_206 : decode cX8_readText 206 = .ok (.getfield 44, 3) := by decide +kernel
theorem dX8_readText_209 : decode cX8_readText 209 = .ok (.aload_n 0, 1) := by decide +kernel
theorem dX8_readText_210 : decode cX8_readText 210 = .ok (.getfield 156, 3) := by decide +kernel
theorem dX8_readText_213 : decode cX8_readText 213 = .ok (.aload_n 0, 1) := by decide +kernel
theorem dX8_readText_214 : decode cX8_readText 214 = .ok (.getfield 153, 3) := by decide +kernel
theorem dX8_readText_217 : decode cX8_readText 217 = .ok (.iastore, 1) := by decide +kernel
theorem dX8_readText_218 : decode cX8_readText 218 = .ok (.iload_n 1, 1) := by decide +kernel
theorem dX8_readText_219 : decode cX8_readText 219 = .ok (.iconst 3, 1) := by decide +kernel
theorem dX8_readText_220 : decode cX8_readText 220 = .ok (.if_icmp .ne 7, 3) := by decide +kernel
theorem dX8_readText_223 : decode cX8_readText 223 = .ok (.iconst 1, 1) := by decide +kernel
theorem dX8_readText_224 : decode cX8_readText 224 = .ok (.goto 4, 3) := by decide +kernel
theorem dX8_readText_227 : decode cX8_readText 227 = .ok (.iconst 0, 1) := by decide +kernel
theorem dX8_readText_228 : decode cX8_readText 228 = .ok (.istore 6, 2) := by decide +kernel
theorem dX8_readText_230 : decode cX8_readText 230 = .ok (.iload_n 3, 1) := by decide +kernel
theorem dX8_readText_231 : decode cX8_readText 231 = .ok (.bipush 114, 2) := by decide +kernel
theorem dX8_readText_233 : decode cX8_readText 233 = .ok (.if_icmp .ne 31, 3) := by decide +kernel
theorem dX8_readText_236 : decode cX8_readText 236 = .ok (.aload_n 0, 1) := by decide +kernel
theorem dX8_readText_237 : decode cX8_readText 237 = .ok (.bipush (-4), 2) := by decide +kernel
theorem dX8_readText_239 : decode cX8_readText 239 = .ok (.invokevirtual 162, 3) := by decide +kernel
theorem dX8_readText_242 : decode cX8_readText 242 = .ok (.aload_n 0, 1) := by decide +kernel
theorem dX8_readText_243 : decode cX8_readText 243 = .ok (.iload 6, 2) := by decide +kernel
theorem dX8_readText_245 : decode cX8_readText 245 = .ok (.ifCond .eq 7, 3) := by decide +kernel
theorem dX8_readText_248 : decode cX8_readText 248 = .ok (.iconst 4, 1) := by decide +kernel
theorem dX8_readText_249 : decode cX8_readText 249 = .ok (.goto 4, 3) := by decide +kernel
theorem dX8_readText_252 : decode cX8_readText 252 = .ok (.iconst 2, 1) := by decide +kernel
theorem dX8_readText_253 : decode cX8_readText 253 = .ok (.invokevirtual 170, 3) := by decide +kernel
theorem dX8_readText_256 : decode cX8_readText 256 = .ok (.iinc 2 1, 3) := by decide +kernel
theorem dX8_readText_259 : decode cX8_readText 259 = .ok (.iconst 0, 1) := by decide +kernel
theorem dX8_readText_260 : decode cX8_readText 260 = .ok (.istore_n 1, 1) := by decide +kernel
theorem dX8_readText_261 : decode cX8_readText 261 = .ok (.goto 85, 3) := by decide +kernel
theorem dX8_readText_264 : decode cX8_readText 264 = .ok (.iload_n 3, 1) := by decide +kernel
theorem dX8_readText_265 : decode cX8_readText 265 = .ok (.bipush 40, 2) := by decide +kernel
theorem dX8_readText_267 : decode cX8_readText 267 = .ok (.if_icmp .ne 33, 3) := by decide +kernel
theorem dX8_readText_270 : decode cX8_readText 270 = .ok (.iload 6, 2) := by decide +kernel
theorem dX8_readText_272 : decode cX8_readText 272 = .ok (.ifCond .ne 9, 3) := by decide +kernel
theorem dX8_readText_275 : decode cX8_readText 275 = .ok (.aload_n 0, 1) := by decide +kernel
theorem dX8_readText_276 : decode cX8_readText 276 = .ok (.bipush (-5), 2) := by decide +kernel
theorem dX8_readText_278 : decode cX8_readText 278 = .ok (.invokevirtual 162, 3) := by decide +kernel
theorem dX8_readText_281 : decode cX8_readText 281 = .ok (.aload_n 0, 1) := by decide +kernel
theorem dX8_readText_282 : decode cX8_readText 282 = .ok (.iload 6, 2) := by decide +kernel
theorem dX8_readText_284 : decode cX8_readText 284 = .ok (.ifCond .eq 7, 3) := by decide +kernel
theorem dX8_readText_287 : decode cX8_readText 287 = .ok (.iconst 3, 1) := by decide +kernel
theorem dX8_readText_288 : decode cX8_readText 288 = .ok (.goto 4, 3) := by decide +kernel
theorem dX8_readText_291 : decode cX8_readText 291 = .ok (.iconst 1, 1) := by decide +kernel
theorem dX8_readText_292 : decode cX8_readText 292 = .ok (.invokevirtual 170, 3) := by decide +kernel
theorem dX8_readText_295 : decode cX8_readText 295 = .ok (.iconst 0, 1) := by decide +kernel
theorem dX8_readText_296 : decode cX8_readText 296 = .ok (.istore_n 1, 1) := by decide +kernel
theorem dX8_readText_297 : decode cX8_readText 297 = .ok (.goto 49, 3) := by decide +kernel
theorem dX8_readText_300 : decode cX8_readText 300 = .ok (.aload_n 0, 1) := by decide +kernel
theorem dX8_readText_301 : decode cX8_readText 301 = .ok (.iload_n 3, 1) := by decide +kernel
theorem dX8_readText_302 : decode cX8_readText 302 = .ok (.invokevirtual 162, 3) := by decide +kernel
theorem dX8_readText_305 : decode cX8_readText 305 = .ok (.iconst 1, 1) := by decide +kernel
theorem dX8_readText_306 : decode cX8_readText 306 = .ok (.istore_n 1, 1) := by decide +kernel
theorem dX8_readText_307 : decode cX8_readText 307 = .ok (.iload 6, 2) := by decide +kernel
theorem dX8_readText_309 : decode cX8_readText 309 = .ok (.ifCond .eq 27, 3) := by decide +kernel
theorem dX8_readText_312 : decode cX8_readText 312 = .ok (.aload_n 0, 1) := by decide +kernel
theorem dX8_readText_313 : decode cX8_readText 313 = .ok (.bipush (-11), 2) := by decide +kernel
theorem dX8_readText_315 : decode cX8_readText 315 = .ok (.invokevirtual 162, 3) := by decide +kernel
theorem dX8_readText_318 : decode cX8_readText 318 = .ok (.aload_n 0, 1) := by decide +kernel
theorem dX8_readText_319 : decode cX8_readText 319 = .ok (.getfield 53, 3) := by decide +kernel
theorem dX8_readText_322 : decode cX8_readText 322 = .ok (.aload_n 0, 1) := by decide +kernel
theorem dX8_readText_323 : decode cX8_readText 323 = .ok (.getfield 156, 3) := by decide +kernel
theorem dX8_readText_326 : decode cX8_readText 326 = .ok (.baload, 1) := by decide +kernel
theorem dX8_readText_327 : decode cX8_readText 327 = .ok (.ifCond .eq 7, 3) := by decide +kernel
theorem dX8_readText_330 : decode cX8_readText 330 = .ok (.iconst 1, 1) := by decide +kernel
theorem dX8_readText_331 : decode cX8_readText 331 = .ok (.goto 4, 3) := by decide +kernel
theorem dX8_readText_334 : decode cX8_readText 334 = .ok (.iconst 0, 1) := by decide +kernel
theorem dX8_readText_335 : decode cX8_readText 335 = .ok (.istore_n 1, 1) := by decide +kernel
theorem dX8_readText_336 : decode cX8_readText 336 = .ok (.aload_n 0, 1) := by decide +kernel
theorem dX8_readText_337 : decode cX8_readText 337 = .ok (.getfield 47, 3) := by decide +kernel
theorem dX8_readText_340 : decode cX8_readText 340 = .ok (.aload_n 0, 1) := by decide +kernel
theorem dX8_readText_341 : decode cX8_readText 341 = .ok (.getfield 156, 3) := by decide +kernel
theorem dX8_readText_344 : decode cX8_readText 344 = .ok (.iconst 0, 1) := by decide +kernel
theorem dX8_readText_345 : decode cX8_readText 345 = .ok (.bastore, 1) := by decide +kernel
theorem dX8_readText_346 : decode cX8_readText 346 = .ok (.goto 210, 3) := by decide +kernel
theorem dX8_readText_349 : decode cX8_readText 349 = .ok (.iload_n 3, 1) := by decide +kernel
theorem dX8_readText_350 : decode cX8_readText 350 = .ok (.bipush 94, 2) := by decide +kernel
theorem dX8_readText_352 : decode cX8_readText 352 = .ok (.if_icmp .eq 9, 3) := by decide +kernel
theorem dX8_readText_355 : decode cX8_readText 355 = .ok (.iload_n 3, 1) := by decide +kernel
theorem dX8_readText_356 : decode cX8_readText 356 = .ok (.bipush 95, 2) := by decide +kernel
theorem dX8_readText_358 : decode cX8_readText 358 = .ok (.if_icmp .ne 70, 3) := by decide +kernel
theorem dX8_readText_361 : decode cX8_readText 361 = .ok (.aload_n 0, 1) := by decide +kernel
theorem dX8_readText_362 : decode cX8_readText 362 = .ok (.getfield 53, 3) := by decide +kernel
theorem dX8_readText_365 : decode cX8_readText 365 = .ok (.aload_n 0, 1) := by decide +kernel
theorem dX8_readText_366 : decode cX8_readText 366 = .ok (.getfield 156, 3) := by decide +kernel
theorem dX8_readText_369 : decode cX8_readText 369 = .ok (.iload_n 1, 1) := by decide +kernel
theorem dX8_readText_370 : decode cX8_readText 370 = .ok (.iconst 1, 1) := by decide +kernel
theorem dX8_readText_371 : decode cX8_readText 371 = .ok (.if_icmp .ne 7, 3) := by decide +kernel
theorem dX8_readText_374 : decode cX8_readText 374 = .ok (.iconst 1, 1) := by decide +kernel
theorem dX8_readText_375 : decode cX8_readText 375 = .ok (.goto 4, 3) := by decide +kernel
theorem dX8_readText_378 : decode cX8_readText 378 = .ok (.iconst 0, 1) := by decide +kernel
theorem dX8_readText_379 : decode cX8_readText 379 = .ok (.bastore, 1) := by decide +kernel
theorem dX8_readText_380 : decode cX8_readText 380 = .ok (.aload_n 0, 1) := by decide +kernel
theorem dX8_readText_381 : decode cX8_readText 381 = .ok (.getfield 53, 3) := by decide +kernel
theorem dX8_readText_384 : decode cX8_readText 384 = .ok (.aload_n 0, 1) := by decide +kernel
theorem dX8_readText_385 : decode cX8_readText 385 = .ok (.getfield 156, 3) := by decide +kernel
theorem dX8_readText_388 : decode cX8_readText 388 = .ok (.baload, 1) := by decide +kernel
theorem dX8_readText_389 : decode cX8_readText 389 = .ok (.ifCond .ne 7, 3) := by decide +kernel
theorem dX8_readText_392 : decode cX8_readText 392 = .ok (.aload_n 0, 1) := by decide +kernel
theorem dX8_readText_393 : decode cX8_readText 393 = .ok (.invokevirtual 173, 3) := by decide +kernel
theorem dX8_readText_396 : decode cX8_readText 396 = .ok (.aload_n 0, 1) := by decide +kernel
theorem dX8_readText_397 : decode cX8_readText 397 = .ok (.getfield 47, 3) := by decide +kernel
theorem dX8_readText_400 : decode cX8_readText 400 = .ok (.aload_n 0, 1) := by decide +kernel
theorem dX8_readText_401 : decode cX8_readText 401 = .ok (.getfield 156, 3) := by decide +kernel
theorem dX8_readText_404 : decode cX8_readText 404 = .ok (.iconst 0, 1) := by decide +kernel
theorem dX8_readText_405 : decode cX8_readText 405 = .ok (.bastore, 1) := by decide +kernel
theorem dX8_readText_406 : decode cX8_readText 406 = .ok (.aload_n 0, 1) := by decide +kernel
theorem dX8_readText_407 : decode cX8_readText 407 = .ok (.iload_n 3, 1) := by decide +kernel
theorem dX8_readText_408 : decode cX8_readText 408 = .ok (.bipush 94, 2) := by decide +kernel
theorem dX8_readText_410 : decode cX8_readText 410 = .ok (.if_icmp .ne 8, 3) := by decide +kernel
theorem dX8_readText_413 : decode cX8_readText 413 = .ok (.bipush (-2), 2) := by decide +kernel
theorem dX8_readText_415 : decode cX8_readText 415 = .ok (.goto 5, 3) := by decide +kernel
theorem dX8_readText_418 : decode cX8_readText 418 = .ok (.bipush (-3), 2) := by decide +kernel
theorem dX8_readText_420 : decode cX8_readText 420 = .ok (.invokevirtual 162, 3) := by decide +kernel
theorem dX8_readText_423 : decode cX8_readText 423 = .ok (.iconst 3, 1) := by decide +kernel
theorem dX8_readText_424 : decode cX8_readText 424 = .ok (.istore_n 1, 1) := by decide +kernel
theorem dX8_readText_425 : decode cX8_readText 425 = .ok (.goto 131, 3) := by decide +kernel
theorem dX8_readText_428 : decode cX8_readText 428 = .ok (.iload_n 3, 1) := by decide +kernel
theorem dX8_readText_429 : decode cX8_readText 429 = .ok (.bipush 47, 2) := by decide +kernel
theorem dX8_readText_431 : decode cX8_readText 431 = .ok (.if_icmp .ne 12, 3) := by decide +kernel
theorem dX8_readText_434 : decode cX8_readText 434 = .ok (.aload_n 0, 1) := by decide +kernel
theorem dX8_readText_435 : decode cX8_readText 435 = .ok (.invokevirtual 176, 3) := by decide +kernel
theorem dX8_readText_438 : decode cX8_readText 438 = .ok (.iconst 2, 1) := by decide +kernel
theorem dX8_readText_439 : decode cX8_readText 439 = .ok (.istore_n 1, 1) := by decide +kernel
theorem dX8_readText_440 : decode cX8_readText 440 = .ok (.goto 116, 3) := by decide +kernel
theorem dX8_readText_443 : decode cX8_readText 443 = .ok (.iload_n 3, 1) := by decide +kernel
theorem dX8_readText_444 : decode cX8_readText 444 = .ok (.bipush 41, 2) := by decide +kernel
theorem dX8_readText_446 : decode cX8_readText 446 = .ok (.if_icmp .ne 93, 3) := by decide +kernel
theorem dX8_readText_449 : decode cX8_readText 449 = .ok (.aload_n 0, 1) := by decide +kernel
theorem dX8_readText_450 : decode cX8_readText 450 = .ok (.invokevirtual 173, 3) := by decide +kernel
theorem dX8_readText_453 : decode cX8_readText 453 = .ok (.aload_n 0, 1) := by decide +kernel
theorem dX8_readText_454 : decode cX8_readText 454 = .ok (.getfield 38, 3) := by decide +kernel
theorem dX8_readText_457 : decode cX8_readText 457 = .ok (.aload_n 0, 1) := by decide +kernel
theorem dX8_readText_458 : decode cX8_readText 458 = .ok (.getfield 156, 3) := by decide +kernel
theorem dX8_readText_461 : decode cX8_readText 461 = .ok (.iaload, 1) := by decide +kernel
theorem dX8_readText_462 : decode cX8_readText 462 = .ok (.istore 6, 2) := by decide +kernel
theorem dX8_readText_464 : decode cX8_readText 464 = .ok (.aload_n 0, 1) := by decide +kernel
theorem dX8_readText_465 : decode cX8_readText 465 = .ok (.dup, 1) := by decide +kernel
theorem dX8_readText_466 : decode cX8_readText 466 = .ok (.getfield 156, 3) := by decide +kernel
theorem dX8_readText_469 : decode cX8_readText 469 = .ok (.iconst 1, 1) := by decide +kernel
theorem dX8_readText_470 : decode cX8_readText 470 = .ok (.isub, 1) := by decide +kernel
theorem dX8_readText_471 : decode cX8_readText 471 = .ok (.putfield 156, 3) := by decide +kernel
theorem dX8_readText_474 : decode cX8_readText 474 = .ok (.aload_n 0, 1) := by decide +kernel
theorem dX8_readText_475 : decode cX8_readText 475 = .ok (.bipush (-11), 2) := by decide +kernel
theorem dX8_readText_477 : decode cX8_readText 477 = .ok (.invokevirtual 162, 3) := by decide +kernel
theorem dX8_readText_480 : decode cX8_readText 480 = .ok (.iload 6, 2) := by decide +kernel
theorem dX8_readText_482 : decode cX8_readText 482 = .ok (.iconst 4, 1) := by decide +kernel
theorem dX8_readText_483 : decode cX8_readText 483 = .ok (.if_icmp .ne 9, 3) := by decide +kernel
theorem dX8_readText_486 : decode cX8_readText 486 = .ok (.aload_n 0, 1) := by decide +kernel
theorem dX8_readText_487 : decode cX8_readText 487 = .ok (.bipush (-11), 2) := by decide +kernel
theorem dX8_readText_489 : decode cX8_readText 489 = .ok (.invokevirtual 162, 3) := by decide +kernel
theorem dX8_readText_492 : decode cX8_readText 492 = .ok (.aload_n 0, 1) := by decide +kernel
theorem dX8_readText_493 : decode cX8_readText 493 = .ok (.getfield 47, 3) := by decide +kernel
theorem dX8_readText_496 : decode cX8_readText 496 = .ok (.aload_n 0, 1) := by decide +kernel
theorem dX8_readText_497 : decode cX8_readText 497 = .ok (.getfield 156, 3) := by decide +kernel
theorem dX8_readText_500 : decode cX8_readText 500 = .ok (.iload 6, 2) := by decide +kernel
theorem dX8_readText_502 : decode cX8_readText 502 = .ok (.iconst 1, 1) := by decide +kernel
theorem dX8_readText_503 : decode cX8_readText 503 = .ok (.if_icmp .ne 7, 3) := by decide +kernel
theorem dX8_readText_506 : decode cX8_readText 506 = .ok (.iconst 1, 1) := by decide +kernel
theorem dX8_readText_507 : decode cX8_readText 507 = .ok (.goto 4, 3) := by decide +kernel
theorem dX8_readText_510 : decode cX8_readText 510 = .ok (.iconst 0, 1) := by decide +kernel
theorem dX8_readText_511 : decode cX8_readText 511 = .ok (.bastore, 1) := by decide +kernel
theorem dX8_readText_512 : decode cX8_readText 512 = .ok (.iload 6, 2) := by decide +kernel
theorem dX8_readText_514 : decode cX8_readText 514 = .ok (.iconst 3, 1) := by decide +kernel
theorem dX8_readText_515 : decode cX8_readText 515 = .ok (.if_icmp .lt 15, 3) := by decide +kernel
theorem dX8_readText_518 : decode cX8_readText 518 = .ok (.aload_n 0, 1) := by decide +kernel
theorem dX8_readText_519 : decode cX8_readText 519 = .ok (.getfield 53, 3) := by decide +kernel
theorem dX8_readText_522 : decode cX8_readText 522 = .ok (.aload_n 0, 1) := by decide +kernel
theorem dX8_readText_523 : decode cX8_readText 523 = .ok (.getfield 156, 3) := by decide +kernel
theorem dX8_readText_526 : decode cX8_readText 526 = .ok (.baload, 1) := by decide +kernel
theorem dX8_readText_527 : decode cX8_readText 527 = .ok (.ifCond .eq 7, 3) := by decide +kernel
theorem dX8_readText_530 : decode cX8_readText 530 = .ok (.iconst 1, 1) := by decide +kernel
theorem dX8_readText_531 : decode cX8_readText 531 = .ok (.goto 4, 3) := by decide +kernel
theorem dX8_readText_534 : decode cX8_readText 534 = .ok (.iconst 0, 1) := by decide +kernel
theorem dX8_readText_535 : decode cX8_readText 535 = .ok (.istore_n 1, 1) := by decide +kernel
theorem dX8_readText_536 : decode cX8_readText 536 = .ok (.goto 20, 3) := by decide +kernel
theorem dX8_readText_539 : decode cX8_readText 539 = .ok (.aload_n 0, 1) := by decide +kernel
theorem dX8_readText_540 : decode cX8_readText 540 = .ok (.invokevirtual 173, 3) := by decide +kernel
theorem dX8_readText_543 : decode cX8_readText 543 = .ok (.iload_n 3, 1) := by decide +kernel
theorem dX8_readText_544 : decode cX8_readText 544 = .ok (.bipush 32, 2) := by decide +kernel
theorem dX8_readText_546 : decode cX8_readText 546 = .ok (.if_icmp .eq 8, 3) := by decide +kernel
theorem dX8_readText_549 : decode cX8_readText 549 = .ok (.aload_n 0, 1) := by decide +kernel
theorem dX8_readText_550 : decode cX8_readText 550 = .ok (.iload_n 3, 1) := by decide +kernel
theorem dX8_readText_551 : decode cX8_readText 551 = .ok (.invokevirtual 162, 3) := by decide +kernel
theorem dX8_readText_554 : decode cX8_readText 554 = .ok (.iconst 0, 1) := by decide +kernel
theorem dX8_readText_555 : decode cX8_readText 555 = .ok (.istore_n 1, 1) := by decide +kernel
theorem dX8_readText_556 : decode cX8_readText 556 = .ok (.iinc 2 1, 3) := by decide +kernel
theorem dX8_readText_559 : decode cX8_readText 559 = .ok (.goto (-540), 3) := by decide +kernel
theorem dX8_readText_562 : decode cX8_readText 562 = .ok (.iload_n 1, 1) := by decide +kernel
theorem dX8_readText_563 : decode cX8_readText 563 = .ok (.iconst 1, 1) := by decide +kernel
theorem dX8_readText_564 : decode cX8_readText 564 = .ok (.if_icmp .gt 10, 3) := by decide +kernel
theorem dX8_readText_567 : decode cX8_readText 567 = .ok (.aload_n 0, 1) := by decide +kernel
theorem dX8_readText_568 : decode cX8_readText 568 = .ok (.getfield 156, 3) := by decide +kernel
theorem dX8_readText_571 : decode cX8_readText 571 = .ok (.ifCond .le 8, 3) := by decide +kernel
theorem dX8_readText_574 : decode cX8_readText 574 = .ok (.aload_n 0, 1) := by decide +kernel
theorem dX8_readText_575 : decode cX8_readText 575 = .ok (.getfield 147, 3) := by decide +kernel
theorem dX8_readText_578 : decode cX8_readText 578 = .ok (.ireturn, 1) := by decide +kernel
theorem dX8_readText_579 : decode cX8_readText 579 = .ok (.aload_n 0, 1) := by decide +kernel
theorem dX8_readText_580 : decode cX8_readText 580 = .ok (.invokevirtual 173, 3) := by decide +kernel
theorem dX8_readText_583 : decode cX8_readText 583 = .ok (.bipush (-9), 2) := by decide +kernel
theorem dX8_readText_585 : decode cX8_readText 585 = .ok (.ireturn, 1) := by decide +kernel
theorem dX8_errorPosition_0 : decode cX8_errorPosition 0 = .ok (.aload_n 0, 1) := by decide +kernel
theorem dX8_errorPosition_1 : decode cX8_errorPosition 1 = .ok (.iconst 0, 1) := by decide +kernel
theorem dX8_errorPosition_2 : decode cX8_errorPosition 2 = .ok (.putfield 71, 3) := by decide +kernel
theorem dX8_errorPosition_5 : decode cX8_errorPosition 5 = .ok (.aload_n 0, 1) := by decide +kernel
theorem dX8_errorPosition_6 : decode cX8_errorPosition 6 = .ok (.invokevirtual 178, 3) := by decide +kernel
theorem dX8_errorPosition_9 : decode cX8_errorPosition 9 = .ok (.ireturn, 1) := by decide +kernel
theorem dX8_load_0 : decode cX8_load 0 = .ok (.aload_n 0, 1) := by decide +kernel
theorem dX8_load_1 : decode cX8_load 1 = .ok (.aload_n 0, 1) := by decide +kernel
theorem dX8_load_2 : decode cX8_load 2 = .ok (.invokevirtual 178, 3) := by decide +kernel
theorem dX8_load_5 : decode cX8_load 5 = .ok (.bipush (-9), 2) := by decide +kernel
theorem dX8_load_7 : decode cX8_load 7 = .ok (.if_icmp .ne 36, 3) := by decide +kernel
theorem dX8_load_10 : decode cX8_load 10 = .ok (.aload_n 0, 1) := by decide +kernel
theorem dX8_load_11 : decode cX8_load 11 = .ok (.getfield 35, 3) := by decide +kernel
theorem dX8_load_14 : decode cX8_load 14 = .ok (.iconst 0, 1) := by decide +kernel
theorem dX8_load_15 : decode cX8_load 15 = .ok (.aload_n 0, 1) := by decide +kernel
theorem dX8_load_16 : decode cX8_load 16 = .ok (.getfield 153, 3) := by decide +kernel
theorem dX8_load_19 : decode cX8_load 19 = .ok (.invokestatic 114, 3) := by decide +kernel
theorem dX8_load_22 : decode cX8_load 22 = .ok (.bipush 60, 2) := by decide +kernel
theorem dX8_load_24 : decode cX8_load 24 = .ok (.if_icmp .gt 19, 3) := by decide +kernel
theorem dX8_load_27 : decode cX8_load 27 = .ok (.aload_n 0, 1) := by decide +kernel
theorem dX8_load_28 : decode cX8_load 28 = .ok (.getfield 35, 3) := by decide +kernel
theorem dX8_load_31 : decode cX8_load 31 = .ok (.iconst 0, 1) := by decide +kernel
theorem dX8_load_32 : decode cX8_load 32 = .ok (.aload_n 0, 1) := by decide +kernel
theorem dX8_load_33 : decode cX8_load 33 = .ok (.getfield 153, 3) := by decide +kernel
theorem dX8_load_36 : decode cX8_load 36 = .ok (.invokestatic 133, 3) := by decide +kernel
theorem dX8_load_39 : decode cX8_load 39 = .ok (.iconst 5, 1) := by decide +kernel
theorem dX8_load_40 : decode cX8_load 40 = .ok (.if_icmp .le 7, 3) := by decide +kernel
theorem dX8_load_43 : decode cX8_load 43 = .ok (.iconst 1, 1) := by decide +kernel
theorem dX8_load_44 : decode cX8_load 44 = .ok (.goto 4, 3) := by decide +kernel
theorem dX8_load_47 : decode cX8_load 47 = .ok (.iconst 0, 1) := by decide +kernel
theorem dX8_load_48 : decode cX8_load 48 = .ok (.invokevirtual 150, 3) := by decide +kernel
theorem dX8_load_51 : decode cX8_load 51 = .ok (.ifCond .eq 5, 3) := by decide +kernel
theorem dX8_load_54 : decode cX8_load 54 = .ok (.iconst 0, 1) := by decide +kernel
theorem dX8_load_55 : decode cX8_load 55 = .ok (.ireturn, 1) := by decide +kernel
theorem dX8_load_56 : decode cX8_load 56 = .ok (.iconst 0, 1) := by decide +kernel
theorem dX8_load_57 : decode cX8_load 57 = .ok (.istore_n 1, 1) := by decide +kernel
theorem dX8_load_58 : decode cX8_load 58 = .ok (.iload_n 1, 1) := by decide +kernel
theorem dX8_load_59 : decode cX8_load 59 = .ok (.aload_n 0, 1) := by decide +kernel
theorem dX8_load_60 : decode cX8_load 60 = .ok (.getfield 153, 3) := by decide +kernel
theorem dX8_load_63 : decode cX8_load 63 = .ok (.if_icmp .ge 21, 3) := by decide +kernel
theorem dX8_load_66 : decode cX8_load 66 = .ok (.aload_n 0, 1) := by decide +kernel
theorem dX8_load_67 : decode cX8_load 67 = .ok (.getfield 13, 3) := by decide +kernel
theorem dX8_load_70 : decode cX8_load 70 = .ok (.iload_n 1, 1) := by decide +kernel
theorem dX8_load_71 : decode cX8_load 71 = .ok (.aload_n 0, 1) := by decide +kernel
theorem dX8_load_72 : decode cX8_load 72 = .ok (.getfield 35, 3) := by decide +kernel
theorem dX8_load_75 : decode cX8_load 75 = .ok (.iload_n 1, 1) := by decide +kernel
theorem dX8_load_76 : decode cX8_load 76 = .ok (.iaload, 1) := by decide +kernel
theorem dX8_load_77 : decode cX8_load 77 = .ok (.iastore, 1) := by decide +kernel
theorem dX8_load_78 : decode cX8_load 78 = .ok (.iinc 1 1, 3) := by decide +kernel
theorem dX8_load_81 : decode cX8_load 81 = .ok (.goto (-23), 3) := by decide +kernel
theorem dX8_load_84 : decode cX8_load 84 = .ok (.aload_n 0, 1) := by decide +kernel
theorem dX8_load_85 : decode cX8_load 85 = .ok (.getfield 13, 3) := by decide +kernel
theorem dX8_load_88 : decode cX8_load 88 = .ok (.sipush 180, 3) := by decide +kernel
theorem dX8_load_91 : decode cX8_load 91 = .ok (.aload_n 0, 1) := by decide +kernel
theorem dX8_load_92 : decode cX8_load 92 = .ok (.getfield 153, 3) := by decide +kernel
theorem dX8_load_95 : decode cX8_load 95 = .ok (.iastore, 1) := by decide +kernel
theorem dX8_load_96 : decode cX8_load 96 = .ok (.aload_n 0, 1) := by decide +kernel
theorem dX8_load_97 : decode cX8_load 97 = .ok (.getfield 13, 3) := by decide +kernel
theorem dX8_load_100 : decode cX8_load 100 = .ok (.sipush 181, 3) := by decide +kernel
theorem dX8_load_103 : decode cX8_load 103 = .ok (.iconst 0, 1) := by decide +kernel
theorem dX8_load_104 : decode cX8_load 104 = .ok (.iastore, 1) := by decide +kernel
theorem dX8_load_105 : decode cX8_load 105 = .ok (.aload_n 0, 1) := by decide +kernel
theorem dX8_load_106 : decode cX8_load 106 = .ok (.getfield 13, 3) := by decide +kernel
theorem dX8_load_109 : decode cX8_load 109 = .ok (.sipush 182, 3) := by decide +kernel
theorem dX8_load_112 : decode cX8_load 112 = .ok (.bipush (-9), 2) := by decide +kernel
theorem dX8_load_114 : decode cX8_load 114 = .ok (.iastore, 1) := by decide +kernel
theorem dX8_load_115 : decode cX8_load 115 = .ok (.aload_n 0, 1) := by decide +kernel
theorem dX8_load_116 : decode cX8_load 116 = .ok (.iconst 0, 1) := by decide +kernel
theorem dX8_load_117 : decode cX8_load 117 = .ok (.putfield 182, 3) := by decide +kernel
theorem dX8_load_120 : decode cX8_load 120 = .ok (.aload_n 0, 1) := by decide +kernel
theorem dX8_load_121 : decode cX8_load 121 = .ok (.getfield 25, 3) := by decide +kernel
theorem dX8_load_124 : decode cX8_load 124 = .ok (.iconst 0, 1) := by decide +kernel
theorem dX8_load_125 : decode cX8_load 125 = .ok (.iconst 0, 1) := by decide +kernel
theorem dX8_load_126 : decode cX8_load 126 = .ok (.bastore, 1) := by decide +kernel
theorem dX8_load_127 : decode cX8_load 127 = .ok (.aload_n 0, 1) := by decide +kernel
theorem dX8_load_128 : decode cX8_load 128 = .ok (.getfield 25, 3) := by decide +kernel
theorem dX8_load_131 : decode cX8_load 131 = .ok (.iconst 1, 1) := by decide +kernel
theorem dX8_load_132 : decode cX8_load 132 = .ok (.iconst 0, 1) := by decide +kernel
theorem dX8_load_133 : decode cX8_load 133 = .ok (.bastore, 1) := by decide +kernel
theorem dX8_load_134 : decode cX8_load 134 = .ok (.aload_n 0, 1) := by decide +kernel
theorem dX8_load_135 : decode cX8_load 135 = .ok (.getfield 13, 3) := by decide +kernel
theorem dX8_load_138 : decode cX8_load 138 = .ok (.iconst 0, 1) := by decide +kernel
theorem dX8_load_139 : decode cX8_load 139 = .ok (.aload_n 0, 1) := by decide +kernel
theorem dX8_load_140 : decode cX8_load 140 = .ok (.getfield 153, 3) := by decide +kernel
theorem dX8_load_143 : decode cX8_load 143 = .ok (.invokestatic 114, 3) := by decide +kernel
theorem dX8_load_146 : decode cX8_load 146 = .ok (.ireturn, 1) := by decide +kernel
theorem dX8_about_0 : decode cX8_about 0 = .ok (.aload_n 0, 1) := by decide +kernel
theorem dX8_about_1 : decode cX8_about 1 = .ok (.iload_n 1, 1) := by decide +kernel
theorem dX8_about_2 : decode cX8_about 2 = .ok (.i2l, 1) := by decide +kernel
theorem dX8_about_3 : decode cX8_about 3 = .ok (.lconst 0, 1) := by decide +kernel
theorem dX8_about_4 : decode cX8_about 4 = .ok (.ldc2_w 128, 3) := by decide +kernel
theorem dX8_about_7 : decode cX8_about 7 = .ok (.invokestatic 79, 3) := by decide +kernel
theorem dX8_about_10 : decode cX8_about 10 = .ok (.ifCond .eq 7, 3) := by decide +kernel
theorem dX8_about_13 : decode cX8_about 13 = .ok (.iconst 0, 1) := by decide +kernel
theorem dX8_about_14 : decode cX8_about 14 = .ok (.goto 4, 3) := by decide +kernel
theorem dX8_about_17 : decode cX8_about 17 = .ok (.iconst 1, 1) := by decide +kernel
theorem dX8_about_18 : decode cX8_about 18 = .ok (.invokevirtual 150, 3) := by decide +kernel
theorem dX8_about_21 : decode cX8_about 21 = .ok (.ifCond .eq 5, 3) := by decide +kernel
theorem dX8_about_24 : decode cX8_about 24 = .ok (.iconst 0, 1) := by decide +kernel
theorem dX8_about_25 : decode cX8_about 25 = .ok (.ireturn, 1) := by decide +kernel
theorem dX8_about_26 : decode cX8_about 26 = .ok (.iload_n 1, 1) := by decide +kernel
theorem dX8_about_27 : decode cX8_about 27 = .ok (.tableswitch 182 0 4 #[33, 50, 61, 70, 87], 33) := by decide +kernel
theorem dX8_about_60 : decode cX8_about 60 = .ok (.aload_n 0, 1) := by decide +kernel
theorem dX8_about_61 : decode cX8_about 61 = .ok (.getfield 13, 3) := by decide +kernel
theorem dX8_about_64 : decode cX8_about 64 = .ok (.iconst 0, 1) := by decide +kernel
theorem dX8_about_65 : decode cX8_about 65 = .ok (.aload_n 0, 1) := by decide +kernel
theorem dX8_about_66 : decode cX8_about 66 = .ok (.getfield 13, 3) := by decide +kernel
theorem dX8_about_69 : decode cX8_about 69 = .ok (.sipush 180, 3) := by decide +kernel
theorem dX8_about_72 : decode cX8_about 72 = .ok (.iaload, 1) := by decide +kernel
theorem dX8_about_73 : decode cX8_about 73 = .ok (.invokestatic 114, 3) := by decide +kernel
theorem dX8_about_76 : decode cX8_about 76 = .ok (.ireturn, 1) := by decide +kernel
theorem dX8_about_77 : decode cX8_about 77 = .ok (.aload_n 0, 1) := by decide +kernel
theorem dX8_about_78 : decode cX8_about 78 = .ok (.getfield 13, 3) := by decide +kernel
theorem dX8_about_81 : decode cX8_about 81 = .ok (.sipush 180, 3) := by decide +kernel
theorem dX8_about_84 : decode cX8_about 84 = .ok (.iaload, 1) := by decide +kernel
theorem dX8_about_85 : decode cX8_about 85 = .ok (.iconst 1, 1) := by decide +kernel
theorem dX8_about_86 : decode cX8_about 86 = .ok (.iadd, 1) := by decide +kernel
theorem dX8_about_87 : decode cX8_about 87 = .ok (.ireturn, 1) := by decide +kernel
theorem dX8_about_88 : decode cX8_about 88 = .ok (.aload_n 0, 1) := by decide +kernel
theorem dX8_about_89 : decode cX8_about 89 = .ok (.getfield 13, 3) := by decide +kernel
theorem dX8_about_92 : decode cX8_about 92 = .ok (.sipush 181, 3) := by decide +kernel
theorem dX8_about_95 : decode cX8_about 95 = .ok (.iaload, 1) := by decide +kernel
theorem dX8_about_96 : decode cX8_about 96 = .ok (.ireturn, 1) := by decide +kernel
theorem dX8_about_97 : decode cX8_about 97 = .ok (.aload_n 0, 1) := by decide +kernel
theorem dX8_about_98 : decode cX8_about 98 = .ok (.getfield 13, 3) := by decide +kernel
theorem dX8_about_101 : decode cX8_about 101 = .ok (.iconst 0, 1) := by decide +kernel
theorem dX8_about_102 : decode cX8_about 102 = .ok (.aload_n 0, 1) := by decide +kernel
theorem dX8_about_103 : decode cX8_about 103 = .ok (.getfield 13, 3) := by decide +kernel
theorem dX8_about_106 : decode cX8_about 106 = .ok (.sipush 180, 3) := by decide +kernel
theorem dX8_about_109 : decode cX8_about 109 = .ok (.iaload, 1) := by decide +kernel
theorem dX8_about_110 : decode cX8_about 110 = .ok (.invokestatic 133, 3) := by decide +kernel
theorem dX8_about_113 : decode cX8_about 113 = .ok (.ireturn, 1) := by decide +kernel
theorem dX8_about_114 : decode cX8_about 114 = .ok (.iconst 0, 1) := by decide +kernel
theorem dX8_about_115 : decode cX8_about 115 = .ok (.istore_n 2, 1) := by decide +kernel
theorem dX8_about_116 : decode cX8_about 116 = .ok (.iconst 0, 1) := by decide +kernel
theorem dX8_about_117 : decode cX8_about 117 = .ok (.istore_n 3, 1) := by decide +kernel
theorem dX8_about_118 : decode cX8_about 118 = .ok (.iload_n 3, 1) := by decide +kernel
theorem dX8_about_119 : decode cX8_about 119 = .ok (.iconst 1, 1) := by decide +kernel
theorem dX8_about_120 : decode cX8_about 120 = .ok (.iadd, 1) := by decide +kernel
theorem dX8_about_121 : decode cX8_about 121 = .ok (.aload_n 0, 1) := by decide +kernel
theorem dX8_about_122 : decode cX8_about 122 = .ok (.getfield 13, 3) := by decide +kernel
theorem dX8_about_125 : decode cX8_about 125 = .ok (.sipush 180, 3) := by decide +kernel
theorem dX8_about_128 : decode cX8_about 128 = .ok (.iaload, 1) := by decide +kernel
theorem dX8_about_129 : decode cX8_about 129 = .ok (.if_icmp .ge 78, 3) := by decide +kernel
theorem dX8_about_132 : decode cX8_about 132 = .ok (.aload_n 0, 1) := by decide +kernel
theorem dX8_about_133 : decode cX8_about 133 = .ok (.getfield 13, 3) := by decide +kernel
theorem dX8_about_136 : decode cX8_about 136 = .ok (.iload_n 3, 1) := by decide +kernel
theorem dX8_about_137 : decode cX8_about 137 = .ok (.iaload, 1) := by decide +kernel
theorem dX8_about_138 : decode cX8_about 138 = .ok (.invokestatic 97, 3) := by decide +kernel
theorem dX8_about_141 : decode cX8_about 141 = .ok (.ifCond .ne 14, 3) := by decide +kernel
theorem dX8_about_144 : decode cX8_about 144 = .ok (.aload_n 0, 1) := by decide +kernel
theorem dX8_about_145 : decode cX8_about 145 = .ok (.getfield 13, 3) := by decide +kernel
theorem dX8_about_148 : decode cX8_about 148 = .ok (.iload_n 3, 1) := by decide +kernel
theorem dX8_about_149 : decode cX8_about 149 = .ok (.iaload, 1) := by decide +kernel
theorem dX8_about_150 : decode cX8_about 150 = .ok (.bipush (-10), 2) := by decide +kernel
theorem dX8_about_152 : decode cX8_about 152 = .ok (.if_icmp .ne 7, 3) := by decide +kernel
theorem dX8_about_155 : decode cX8_about 155 = .ok (.iconst 1, 1) := by decide +kernel
theorem dX8_about_156 : decode cX8_about 156 = .ok (.goto 4, 3) := by decide +kernel
theorem dX8_about_159 : decode cX8_about 159 = .ok (.iconst 0, 1) := by decide +kernel
theorem dX8_about_160 : decode cX8_about 160 = .ok (.istore 4, 2) := by decide +kernel
theorem dX8_about_162 : decode cX8_about 162 = .ok (.iload_n 2, 1) := by decide +kernel
theorem dX8_about_163 : decode cX8_about 163 = .ok (.iload 4, 2) := by decide +kernel
theorem dX8_about_165 : decode cX8_about 165 = .ok (.ifCond .eq 33, 3) := by decide +kernel
theorem dX8_about_168 : decode cX8_about 168 = .ok (.aload_n 0, 1) := by decide +kernel
theorem dX8_about_169 : decode cX8_about 169 = .ok (.getfield 13, 3) := by decide +kernel
theorem dX8_about_172 : decode cX8_about 172 = .ok (.iload_n 3, 1) := by decide +kernel
theorem dX8_about_173 : decode cX8_about 173 = .ok (.iconst 1, 1) := by decide +kernel
theorem dX8_about_174 : decode cX8_about 174 = .ok (.iadd, 1) := by decide +kernel
theorem dX8_about_175 : decode cX8_about 175 = .ok (.iaload, 1) := by decide +kernel
theorem dX8_about_176 : decode cX8_about 176 = .ok (.bipush (-10), 2) := by decide +kernel
theorem dX8_about_178 : decode cX8_about 178 = .ok (.if_icmp .eq 16, 3) := by decide +kernel
theorem dX8_about_181 : decode cX8_about 181 = .ok (.aload_n 0, 1) := by decide +kernel
theorem dX8_about_182 : decode cX8_about 182 = .ok (.getfield 13, 3) := by decide +kernel
theorem dX8_about_185 : decode cX8_about 185 = .ok (.iload_n 3, 1) := by decide +kernel
theorem dX8_about_186 : decode cX8_about 186 = .ok (.iconst 1, 1) := by decide +kernel
theorem dX8_about_187 : decode cX8_about 187 = .ok (.iadd, 1) := by decide +kernel
theorem dX8_about_188 : decode cX8_about 188 = .ok (.iaload, 1) := by decide +kernel
theorem dX8_about_189 : decode cX8_about 189 = .ok (.bipush (-11), 2) := by decide +kernel
theorem dX8_about_191 : decode cX8_about 191 = .ok (.if_icmp .ne 7, 3) := by decide +kernel
theorem dX8_about_194 : decode cX8_about 194 = .ok (.iconst 1, 1) := by decide +kernel
theorem dX8_about_195 : decode cX8_about 195 = .ok (.goto 4, 3) := by decide +kernel
theorem dX8_about_198 : decode cX8_about 198 = .ok (.iconst 0, 1) := by decide +kernel
theorem dX8_about_199 : decode cX8_about 199 = .ok (.iadd, 1) := by decide +kernel
theorem dX8_about_200 : decode cX8_about 200 = .ok (.istore_n 2, 1) := by decide +kernel
theorem dX8_about_201 : decode cX8_about 201 = .ok (.iinc 3 1, 3) := by decide +kernel
theorem dX8_about_204 : decode cX8_about 204 = .ok (.goto (-86), 3) := by decide +kernel
theorem dX8_about_207 : decode cX8_about 207 = .ok (.iload_n 2, 1) := by decide +kernel
theorem dX8_about_208 : decode cX8_about 208 = .ok (.ireturn, 1) := by decide +kernel
theorem dX8_about_209 : decode cX8_about 209 = .ok (.aload_n 0, 1) := by decide +kernel
theorem dX8_about_210 : decode cX8_about 210 = .ok (.getfield 29, 3) := by decide +kernel
theorem dX8_about_213 : decode cX8_about 213 = .ok (.iconst 0, 1) := by decide +kernel
theorem dX8_about_214 : decode cX8_about 214 = .ok (.aload_n 0, 1) := by decide +kernel
theorem dX8_about_215 : decode cX8_about 215 = .ok (.getfield 29, 3) := by decide +kernel
theorem dX8_about_218 : decode cX8_about 218 = .ok (.sipush 180, 3) := by decide +kernel
theorem dX8_about_221 : decode cX8_about 221 = .ok (.iaload, 1) := by decide +kernel
theorem dX8_about_222 : decode cX8_about 222 = .ok (.invokestatic 114, 3) := by decide +kernel
theorem dX8_about_225 : decode cX8_about 225 = .ok (.ireturn, 1) := by decide +kernel
theorem dX8_isPlace_0 : decode cX8_isPlace 0 = .ok (.iload_n 1, 1) := by decide +kernel
theorem dX8_isPlace_1 : decode cX8_isPlace 1 = .ok (.i2l, 1) := by decide +kernel
theorem dX8_isPlace_2 : decode cX8_isPlace 2 = .ok (.lconst 0, 1) := by decide +kernel
theorem dX8_isPlace_3 : decode cX8_isPlace 3 = .ok (.aload_n 0, 1) := by decide +kernel
theorem dX8_isPlace_4 : decode cX8_isPlace 4 = .ok (.getfield 13, 3) := by decide +kernel
theorem dX8_isPlace_7 : decode cX8_isPlace 7 = .ok (.sipush 180, 3) := by decide +kernel
theorem dX8_isPlace_10 : decode cX8_isPlace 10 = .ok (.iaload, 1) := by decide +kernel
theorem dX8_isPlace_11 : decode cX8_isPlace 11 = .ok (.i2l, 1) := by decide +kernel
theorem dX8_isPlace_12 : decode cX8_isPlace 12 = .ok (.invokestatic 79, 3) := by decide +kernel
theorem dX8_isPlace_15 : decode cX8_isPlace 15 = .ok (.ireturn, 1) := by decide +kernel
theorem dX8_place_0 : decode cX8_place 0 = .ok (.aload_n 0, 1) := by decide +kernel
theorem dX8_place_1 : decode cX8_place 1 = .ok (.aload_n 0, 1) := by decide +kernel
theorem dX8_place_2 : decode cX8_place 2 = .ok (.iload_n 1, 1) := by decide +kernel
theorem dX8_place_3 : decode cX8_place 3 = .ok (.invokevirtual 185, 3) := by decide +kernel
theorem dX8_place_6 : decode cX8_place 6 = .ok (.ifCond .ne 7, 3) := by decide +kernel
theorem dX8_place_9 : decode cX8_place 9 = .ok (.iconst 1, 1) := by decide +kernel
theorem dX8_place_10 : decode cX8_place 10 = .ok (.goto 20, 3) := by decide +kernel
theorem dX8_place_13 : decode cX8_place 13 = .ok (.iload_n 2, 1) := by decide +kernel
theorem dX8_place_14 : decode cX8_place 14 = .ok (.i2l, 1) := by decide +kernel
theorem dX8_place_15 : decode cX8_place 15 = .ok (.lconst 0, 1) := by decide +kernel
theorem dX8_place_16 : decode cX8_place 16 = .ok (.ldc2_w 128, 3) := by decide +kernel
theorem dX8_place_19 : decode cX8_place 19 = .ok (.invokestatic 79, 3) := by decide +kernel
theorem dX8_place_22 : decode cX8_place 22 = .ok (.ifCond .ne 7, 3) := by decide +kernel
theorem dX8_place_25 : decode cX8_place 25 = .ok (.iconst 2, 1) := by decide +kernel
theorem dX8_place_26 : decode cX8_place 26 = .ok (.goto 4, 3) := by decide +kernel
theorem dX8_place_29 : decode cX8_place 29 = .ok (.iconst 0, 1) := by decide +kernel
theorem dX8_place_30 : decode cX8_place 30 = .ok (.invokevirtual 150, 3) := by decide +kernel
theorem dX8_place_33 : decode cX8_place 33 = .ok (.ifCond .eq 5, 3) := by decide +kernel
theorem dX8_place_36 : decode cX8_place 36 = .ok (.iconst 0, 1) := by decide +kernel
theorem dX8_place_37 : decode cX8_place 37 = .ok (.ireturn, 1) := by decide +kernel
theorem dX8_place_38 : decode cX8_place 38 = .ok (.aload_n 0, 1) := by decide +kernel
theorem dX8_place_39 : decode cX8_place 39 = .ok (.getfield 13, 3) := by decide +kernel
theorem dX8_place_42 : decode cX8_place 42 = .ok (.iload_n 1, 1) := by decide +kernel
theorem dX8_place_43 : decode cX8_place 43 = .ok (.invokestatic 136, 3) := by decide +kernel
theorem dX8_place_46 : decode cX8_place 46 = .ok (.istore_n 3, 1) := by decide +kernel
theorem dX8_place_47 : decode cX8_place 47 = .ok (.aload_n 0, 1) := by decide +kernel
theorem dX8_place_48 : decode cX8_place 48 = .ok (.getfield 13, 3) := by decide +kernel
theorem dX8_place_51 : decode cX8_place 51 = .ok (.iload_n 1, 1) := by decide +kernel
theorem dX8_place_52 : decode cX8_place 52 = .ok (.invokestatic 142, 3) := by decide +kernel
theorem dX8_place_55 : decode cX8_place 55 = .ok (.istore 4, 2) := by decide +kernel
theorem dX8_place_57 : decode cX8_place 57 = .ok (.iload_n 3, 1) := by decide +kernel
theorem dX8_place_58 : decode cX8_place 58 = .ok (.ifCond .le 20, 3) := by decide +kernel
theorem dX8_place_61 : decode cX8_place 61 = .ok (.aload_n 0, 1) := by decide +kernel
theorem dX8_place_62 : decode cX8_place 62 = .ok (.getfield 13, 3) := by decide +kernel
theorem dX8_place_65 : decode cX8_place 65 = .ok (.iload_n 3, 1) := by decide +kernel
theorem dX8_place_66 : decode cX8_place 66 = .ok (.iconst 1, 1) := by decide +kernel
theorem dX8_place_67 : decode cX8_place 67 = .ok (.isub, 1) := by decide +kernel
theorem dX8_place_68 : decode cX8_place 68 = .ok (.iaload, 1) := by decide +kernel
theorem dX8_place_69 : decode cX8_place 69 = .ok (.bipush (-10), 2) := by decide +kernel
theorem dX8_place_71 : decode cX8_place 71 = .ok (.if_icmp .ne 7, 3) := by decide +kernel
theorem dX8_place_74 : decode cX8_place 74 = .ok (.iconst 1, 1) := by decide +kernel
theorem dX8_place_75 : decode cX8_place 75 = .ok (.goto 4, 3) := by decide +kernel
theorem dX8_place_78 : decode cX8_place 78 = .ok (.iconst 0, 1) := by decide +kernel
theorem dX8_place_79 : decode cX8_place 79 = .ok (.istore 5, 2) := by decide +kernel
theorem dX8_place_81 : decode cX8_place 81 = .ok (.iload_n 2, 1) := by decide +kernel
theorem dX8_place_82 : decode cX8_place 82 = .ok (.tableswitch 102 0 4 #[34, 43, 53, 64, 91], 34) := by decide +kernel
theorem dX8_place_116 : decode cX8_place 116 = .ok (.aload_n 0, 1) := by decide +kernel
theorem dX8_place_117 : decode cX8_place 117 = .ok (.getfield 13, 3) := by decide +kernel
theorem dX8_place_120 : decode cX8_place 120 = .ok (.iload_n 1, 1) := by decide +kernel
theorem dX8_place_121 : decode cX8_place 121 = .ok (.invokestatic 130, 3) := by decide +kernel
theorem dX8_place_124 : decode cX8_place 124 = .ok (.ireturn, 1) := by decide +kernel
theorem dX8_place_125 : decode cX8_place 125 = .ok (.aload_n 0, 1) := by decide +kernel
theorem dX8_place_126 : decode cX8_place 126 = .ok (.getfield 13, 3) := by decide +kernel
theorem dX8_place_129 : decode cX8_place 129 = .ok (.iload_n 3, 1) := by decide +kernel
theorem dX8_place_130 : decode cX8_place 130 = .ok (.iload_n 1, 1) := by decide +kernel
theorem dX8_place_131 : decode cX8_place 131 = .ok (.invokestatic 188, 3) := by decide +kernel
theorem dX8_place_134 : decode cX8_place 134 = .ok (.ireturn, 1) := by decide +kernel
theorem dX8_place_135 : decode cX8_place 135 = .ok (.aload_n 0, 1) := by decide +kernel
theorem dX8_place_136 : decode cX8_place 136 = .ok (.getfield 13, 3) := by decide +kernel
theorem dX8_place_139 : decode cX8_place 139 = .ok (.iload_n 3, 1) := by decide +kernel
theorem dX8_place_140 : decode cX8_place 140 = .ok (.iload 4, 2) := by decide +kernel
theorem dX8_place_142 : decode cX8_place 142 = .ok (.invokestatic 188, 3) := by decide +kernel
theorem dX8_place_145 : decode cX8_place 145 = .ok (.ireturn, 1) := by decide +kernel
theorem dX8_place_146 : decode cX8_place 146 = .ok (.iload_n 3, 1) := by decide +kernel
theorem dX8_place_147 : decode cX8_place 147 = .ok (.ifCond .ne 7, 3) := by decide +kernel
theorem dX8_place_150 : decode cX8_place 150 = .ok (.iconst 0, 1) := by decide +kernel
theorem dX8_place_151 : decode cX8_place 151 = .ok (.goto 21, 3) := by decide +kernel
theorem dX8_place_154 : decode cX8_place 154 = .ok (.iload 5, 2) := by decide +kernel
theorem dX8_place_156 : decode cX8_place 156 = .ok (.ifCond .eq 7, 3) := by decide +kernel
theorem dX8_place_159 : decode cX8_place 159 = .ok (.iconst 1, 1) := by decide +kernel
theorem dX8_place_160 : decode cX8_place 160 = .ok (.goto 12, 3) := by decide +kernel
theorem dX8_place_163 : decode cX8_place 163 = .ok (.aload_n 0, 1) := by decide +kernel
theorem dX8_place_164 : decode cX8_place 164 = .ok (.getfield 13, 3) := by decide +kernel
theorem dX8_place_167 : decode cX8_place 167 = .ok (.iload_n 3, 1) := by decide +kernel
theorem dX8_place_168 : decode cX8_place 168 = .ok (.iconst 1, 1) := by decide +kernel
theorem dX8_place_169 : decode cX8_place 169 = .ok (.isub, 1) := by decide +kernel
theorem dX8_place_170 : decode cX8_place 170 = .ok (.iaload, 1) := by decide +kernel
theorem dX8_place_171 : decode cX8_place 171 = .ok (.ineg, 1) := by decide +kernel
theorem dX8_place_172 : decode cX8_place 172 = .ok (.ireturn, 1) := by decide +kernel
theorem dX8_place_173 : decode cX8_place 173 = .ok (.iload 5, 2) := by decide +kernel
theorem dX8_place_175 : decode cX8_place 175 = .ok (.ifCond .eq 7, 3) := by decide +kernel
theorem dX8_place_178 : decode cX8_place 178 = .ok (.iconst 1, 1) := by decide +kernel
theorem dX8_place_179 : decode cX8_place 179 = .ok (.goto 4, 3) := by decide +kernel
theorem dX8_place_182 : decode cX8_place 182 = .ok (.iconst 0, 1) := by decide +kernel
theorem dX8_place_183 : decode cX8_place 183 = .ok (.ireturn, 1) := by decide +kernel
theorem dX8_place_184 : decode cX8_place 184 = .ok (.iload_n 1, 1) := by decide +kernel
theorem dX8_place_185 : decode cX8_place 185 = .ok (.iload 4, 2) := by decide +kernel
theorem dX8_place_187 : decode cX8_place 187 = .ok (.if_icmp .ne 8, 3) := by decide +kernel
theorem dX8_place_190 : decode cX8_place 190 = .ok (.bipush (-9), 2) := by decide +kernel
theorem dX8_place_192 : decode cX8_place 192 = .ok (.goto 28, 3) := by decide +kernel
theorem dX8_place_195 : decode cX8_place 195 = .ok (.aload_n 0, 1) := by decide +kernel
theorem dX8_place_196 : decode cX8_place 196 = .ok (.getfield 13, 3) := by decide +kernel
theorem dX8_place_199 : decode cX8_place 199 = .ok (.iload_n 1, 1) := by decide +kernel
theorem dX8_place_200 : decode cX8_place 200 = .ok (.iaload, 1) := by decide +kernel
theorem dX8_place_201 : decode cX8_place 201 = .ok (.ifCond .le 12, 3) := by decide +kernel
theorem dX8_place_204 : decode cX8_place 204 = .ok (.aload_n 0, 1) := by decide +kernel
theorem dX8_place_205 : decode cX8_place 205 = .ok (.getfield 13, 3) := by decide +kernel
theorem dX8_place_208 : decode cX8_place 208 = .ok (.iload_n 1, 1) := by decide +kernel
theorem dX8_place_209 : decode cX8_place 209 = .ok (.iaload, 1) := by decide +kernel
theorem dX8_place_210 : decode cX8_place 210 = .ok (.goto 10, 3) := by decide +kernel
theorem dX8_place_213 : decode cX8_place 213 = .ok (.aload_n 0, 1) := by decide +kernel
theorem dX8_place_214 : decode cX8_place 214 = .ok (.getfield 13, 3) := by decide +kernel
theorem dX8_place_217 : decode cX8_place 217 = .ok (.iload_n 1, 1) := by decide +kernel
theorem dX8_place_218 : decode cX8_place 218 = .ok (.iaload, 1) := by decide +kernel
theorem dX8_place_219 : decode cX8_place 219 = .ok (.ineg, 1) := by decide +kernel
theorem dX8_place_220 : decode cX8_place 220 = .ok (.ireturn, 1) := by decide +kernel
theorem dX8_selection_0 : decode cX8_selection 0 = .ok (.aload_n 0, 1) := by decide +kernel
theorem dX8_selection_1 : decode cX8_selection 1 = .ok (.iload_n 1, 1) := by decide +kernel
theorem dX8_selection_2 : decode cX8_selection 2 = .ok (.i2l, 1) := by decide +kernel
theorem dX8_selection_3 : decode cX8_selection 3 = .ok (.lconst 0, 1) := by decide +kernel
theorem dX8_selection_4 : decode cX8_selection 4 = .ok (.ldc2_w 191, 3) := by decide +kernel
theorem dX8_selection_7 : decode cX8_selection 7 = .ok (.invokestatic 79, 3) := by decide +kernel
theorem dX8_selection_10 : decode cX8_selection 10 = .ok (.ifCond .eq 7, 3) := by decide +kernel
theorem dX8_selection_13 : decode cX8_selection 13 = .ok (.iconst 0, 1) := by decide +kernel
theorem dX8_selection_14 : decode cX8_selection 14 = .ok (.goto 4, 3) := by decide +kernel
theorem dX8_selection_17 : decode cX8_selection 17 = .ok (.iconst 1, 1) := by decide +kernel
theorem dX8_selection_18 : decode cX8_selection 18 = .ok (.invokevirtual 150, 3) := by decide +kernel
theorem dX8_selection_21 : decode cX8_selection 21 = .ok (.ifCond .eq 5, 3) := by decide +kernel
theorem dX8_selection_24 : decode cX8_selection 24 = .ok (.iconst 0, 1) := by decide +kernel
theorem dX8_selection_25 : decode cX8_selection 25 = .ok (.ireturn, 1) := by decide +kernel
theorem dX8_selection_26 : decode cX8_selection 26 = .ok (.aload_n 0, 1) := by decide +kernel
theorem dX8_selection_27 : decode cX8_selection 27 = .ok (.getfield 13, 3) := by decide +kernel
theorem dX8_selection_30 : decode cX8_selection 30 = .ok (.sipush 182, 3) := by decide +kernel
theorem dX8_selection_33 : decode cX8_selection 33 = .ok (.iaload, 1) := by decide +kernel
theorem dX8_selection_34 : decode cX8_selection 34 = .ok (.bipush (-9), 2) := by decide +kernel
theorem dX8_selection_36 : decode cX8_selection 36 = .ok (.if_icmp .ne 14, 3) := by decide +kernel
theorem dX8_selection_39 : decode cX8_selection 39 = .ok (.aload_n 0, 1) := by decide +kernel
theorem dX8_selection_40 : decode cX8_selection 40 = .ok (.getfield 13, 3) := by decide +kernel
theorem dX8_selection_43 : decode cX8_selection 43 = .ok (.sipush 181, 3) := by decide +kernel
theorem dX8_selection_46 : decode cX8_selection 46 = .ok (.iaload, 1) := by decide +kernel
theorem dX8_selection_47 : decode cX8_selection 47 = .ok (.goto 11, 3) := by decide +kernel
theorem dX8_selection_50 : decode cX8_selection 50 = .ok (.aload_n 0, 1) := by decide +kernel
theorem dX8_selection_51 : decode cX8_selection 51 = .ok (.getfield 13, 3) := by decide +kernel
theorem dX8_selection_54 : decode cX8_selection 54 = .ok (.sipush 182, 3) := by decide +kernel
theorem dX8_selection_57 : decode cX8_selection 57 = .ok (.iaload, 1) := by decide +kernel
theorem dX8_selection_58 : decode cX8_selection 58 = .ok (.istore_n 2, 1) := by decide +kernel
theorem dX8_selection_59 : decode cX8_selection 59 = .ok (.iload_n 1, 1) := by decide +kernel
theorem dX8_selection_60 : decode cX8_selection 60 = .ok (.ifCond .ne 22, 3) := by decide +kernel
theorem dX8_selection_63 : decode cX8_selection 63 = .ok (.aload_n 0, 1) := by decide +kernel
theorem dX8_selection_64 : decode cX8_selection 64 = .ok (.getfield 13, 3) := by decide +kernel
theorem dX8_selection_67 : decode cX8_selection 67 = .ok (.iload_n 2, 1) := by decide +kernel
theorem dX8_selection_68 : decode cX8_selection 68 = .ok (.aload_n 0, 1) := by decide +kernel
theorem dX8_selection_69 : decode cX8_selection 69 = .ok (.getfield 13, 3) := by decide +kernel
theorem dX8_selection_72 : decode cX8_selection 72 = .ok (.sipush 181, 3) := by decide +kernel
theorem dX8_selection_75 : decode cX8_selection 75 = .ok (.iaload, 1) := by decide +kernel
theorem dX8_selection_76 : decode cX8_selection 76 = .ok (.invokestatic 188, 3) := by decide +kernel
theorem dX8_selection_79 : decode cX8_selection 79 = .ok (.goto 28, 3) := by decide +kernel
theorem dX8_selection_82 : decode cX8_selection 82 = .ok (.iload_n 1, 1) := by decide +kernel
theorem dX8_selection_83 : decode cX8_selection 83 = .ok (.iconst 1, 1) := by decide +kernel
theorem dX8_selection_84 : decode cX8_selection 84 = .ok (.if_icmp .ne 22, 3) := by decide +kernel
theorem dX8_selection_87 : decode cX8_selection 87 = .ok (.aload_n 0, 1) := by decide +kernel
theorem dX8_selection_88 : decode cX8_selection 88 = .ok (.getfield 13, 3) := by decide +kernel
theorem dX8_selection_91 : decode cX8_selection 91 = .ok (.iload_n 2, 1) := by decide +kernel
theorem dX8_selection_92 : decode cX8_selection 92 = .ok (.aload_n 0, 1) := by decide +kernel
theorem dX8_selection_93 : decode cX8_selection 93 = .ok (.getfield 13, 3) := by decide +kernel
theorem dX8_selection_96 : decode cX8_selection 96 = .ok (.sipush 181, 3) := by decide +kernel
theorem dX8_selection_99 : decode cX8_selection 99 = .ok (.iaload, 1) := by decide +kernel
theorem dX8_selection_100 : decode cX8_selection 100 = .ok (.invokestatic 114, 3) := by decide +kernel
theorem dX8_selection_103 : decode cX8_selection 103 = .ok (.goto 4, 3) := by decide +kernel
theorem dX8_selection_106 : decode cX8_selection 106 = .ok (.iload_n 2, 1) := by decide +kernel
theorem dX8_selection_107 : decode cX8_selection 107 = .ok (.ireturn, 1) := by decide +kernel
theorem dX8_isShort_0 : decode cX8_isShort 0 = .ok (.aload_n 0, 1) := by decide +kernel
theorem dX8_isShort_1 : decode cX8_isShort 1 = .ok (.iload_n 1, 1) := by decide +kernel
theorem dX8_isShort_2 : decode cX8_isShort 2 = .ok (.invokestatic 142, 3) := by decide +kernel
theorem dX8_isShort_5 : decode cX8_isShort 5 = .ok (.istore_n 3, 1) := by decide +kernel
theorem dX8_isShort_6 : decode cX8_isShort 6 = .ok (.iload_n 1, 1) := by decide +kernel
theorem dX8_isShort_7 : decode cX8_isShort 7 = .ok (.iload_n 3, 1) := by decide +kernel
theorem dX8_isShort_8 : decode cX8_isShort 8 = .ok (.if_icmp .ne 5, 3) := by decide +kernel
theorem dX8_isShort_11 : decode cX8_isShort 11 = .ok (.iconst 0, 1) := by decide +kernel
theorem dX8_isShort_12 : decode cX8_isShort 12 = .ok (.ireturn, 1) := by decide +kernel
theorem dX8_isShort_13 : decode cX8_isShort 13 = .ok (.aload_n 0, 1) := by decide +kernel
theorem dX8_isShort_14 : decode cX8_isShort 14 = .ok (.iload_n 1, 1) := by decide +kernel
theorem dX8_isShort_15 : decode cX8_isShort 15 = .ok (.iaload, 1) := by decide +kernel
theorem dX8_isShort_16 : decode cX8_isShort 16 = .ok (.istore 4, 2) := by decide +kernel
theorem dX8_isShort_18 : decode cX8_isShort 18 = .ok (.aload_n 0, 1) := by decide +kernel
theorem dX8_isShort_19 : decode cX8_isShort 19 = .ok (.iload_n 1, 1) := by decide +kernel
theorem dX8_isShort_20 : decode cX8_isShort 20 = .ok (.invokestatic 107, 3) := by decide +kernel
theorem dX8_isShort_23 : decode cX8_isShort 23 = .ok (.istore 5, 2) := by decide +kernel
theorem dX8_isShort_25 : decode cX8_isShort 25 = .ok (.iload 4, 2) := by decide +kernel
theorem dX8_isShort_27 : decode cX8_isShort 27 = .ok (.invokestatic 87, 3) := by decide +kernel
theorem dX8_isShort_30 : decode cX8_isShort 30 = .ok (.ifCond .ne 18, 3) := by decide +kernel
theorem dX8_isShort_33 : decode cX8_isShort 33 = .ok (.iload 4, 2) := by decide +kernel
theorem dX8_isShort_35 : decode cX8_isShort 35 = .ok (.invokestatic 91, 3) := by decide +kernel
theorem dX8_isShort_38 : decode cX8_isShort 38 = .ok (.ifCond .ne 10, 3) := by decide +kernel
theorem dX8_isShort_41 : decode cX8_isShort 41 = .ok (.iload 4, 2) := by decide +kernel
theorem dX8_isShort_43 : decode cX8_isShort 43 = .ok (.bipush (-4), 2) := by decide +kernel
theorem dX8_isShort_45 : decode cX8_isShort 45 = .ok (.if_icmp .ne 7, 3) := by decide +kernel
theorem dX8_isShort_48 : decode cX8_isShort 48 = .ok (.iconst 1, 1) := by decide +kernel
theorem dX8_isShort_49 : decode cX8_isShort 49 = .ok (.goto 4, 3) := by decide +kernel
theorem dX8_isShort_52 : decode cX8_isShort 52 = .ok (.iconst 0, 1) := by decide +kernel
theorem dX8_isShort_53 : decode cX8_isShort 53 = .ok (.istore 6, 2) := by decide +kernel
theorem dX8_isShort_55 : decode cX8_isShort 55 = .ok (.iload_n 2, 1) := by decide +kernel
theorem dX8_isShort_56 : decode cX8_isShort 56 = .ok (.ifCond .eq 9, 3) := by decide +kernel
theorem dX8_isShort_59 : decode cX8_isShort 59 = .ok (.iload 5, 2) := by decide +kernel
theorem dX8_isShort_61 : decode cX8_isShort 61 = .ok (.iload_n 3, 1) := by decide +kernel
theorem dX8_isShort_62 : decode cX8_isShort 62 = .ok (.if_icmp .ne 20, 3) := by decide +kernel
theorem dX8_isShort_65 : decode cX8_isShort 65 = .ok (.iload 6, 2) := by decide +kernel
theorem dX8_isShort_67 : decode cX8_isShort 67 = .ok (.ifCond .eq 13, 3) := by decide +kernel
theorem dX8_isShort_70 : decode cX8_isShort 70 = .ok (.iload 5, 2) := by decide +kernel
theorem dX8_isShort_72 : decode cX8_isShort 72 = .ok (.iload_n 3, 1) := by decide +kernel
theorem dX8_isShort_73 : decode cX8_isShort 73 = .ok (.if_icmp .ne 7, 3) := by decide +kernel
theorem dX8_isShort_76 : decode cX8_isShort 76 = .ok (.iconst 1, 1) := by decide +kernel
theorem dX8_isShort_77 : decode cX8_isShort 77 = .ok (.goto 4, 3) := by decide +kernel
theorem dX8_isShort_80 : decode cX8_isShort 80 = .ok (.iconst 0, 1) := by decide +kernel
theorem dX8_isShort_81 : decode cX8_isShort 81 = .ok (.ireturn, 1) := by decide +kernel
theorem dX8_isShort_82 : decode cX8_isShort 82 = .ok (.iload 6, 2) := by decide +kernel
theorem dX8_isShort_84 : decode cX8_isShort 84 = .ok (.ifCond .ne 10, 3) := by decide +kernel
theorem dX8_isShort_87 : decode cX8_isShort 87 = .ok (.iload 4, 2) := by decide +kernel
theorem dX8_isShort_89 : decode cX8_isShort 89 = .ok (.bipush (-5), 2) := by decide +kernel
theorem dX8_isShort_91 : decode cX8_isShort 91 = .ok (.if_icmp .ne 7, 3) := by decide +kernel
theorem dX8_isShort_94 : decode cX8_isShort 94 = .ok (.iconst 1, 1) := by decide +kernel
theorem dX8_isShort_95 : decode cX8_isShort 95 = .ok (.goto 4, 3) := by decide +kernel
theorem dX8_isShort_98 : decode cX8_isShort 98 = .ok (.iconst 0, 1) := by decide +kernel
theorem dX8_isShort_99 : decode cX8_isShort 99 = .ok (.istore 7, 2) := by decide +kernel
theorem dX8_isShort_101 : decode cX8_isShort 101 = .ok (.iload 5, 2) := by decide +kernel
theorem dX8_isShort_103 : decode cX8_isShort 103 = .ok (.iload_n 3, 1) := by decide +kernel
theorem dX8_isShort_104 : decode cX8_isShort 104 = .ok (.if_icmp .ge 44, 3) := by decide +kernel
theorem dX8_isShort_107 : decode cX8_isShort 107 = .ok (.iload 7, 2) := by decide +kernel
theorem dX8_isShort_109 : decode cX8_isShort 109 = .ok (.ifCond .eq 25, 3) := by decide +kernel
theorem dX8_isShort_112 : decode cX8_isShort 112 = .ok (.aload_n 0, 1) := by decide +kernel
theorem dX8_isShort_113 : decode cX8_isShort 113 = .ok (.iload 5, 2) := by decide +kernel
theorem dX8_isShort_115 : decode cX8_isShort 115 = .ok (.iaload, 1) := by decide +kernel
theorem dX8_isShort_116 : decode cX8_isShort 116 = .ok (.bipush (-2), 2) := by decide +kernel
theorem dX8_isShort_118 : decode cX8_isShort 118 = .ok (.if_icmp .eq 12, 3) := by decide +kernel
theorem dX8_isShort_121 : decode cX8_isShort 121 = .ok (.aload_n 0, 1) := by decide +kernel
theorem dX8_isShort_122 : decode cX8_isShort 122 = .ok (.iload 5, 2) := by decide +kernel
theorem dX8_isShort_124 : decode cX8_isShort 124 = .ok (.iaload, 1) := by decide +kernel
theorem dX8_isShort_125 : decode cX8_isShort 125 = .ok (.bipush (-3), 2) := by decide +kernel
theorem dX8_isShort_127 : decode cX8_isShort 127 = .ok (.if_icmp .ne 7, 3) := by decide +kernel
theorem dX8_isShort_130 : decode cX8_isShort 130 = .ok (.iconst 1, 1) := by decide +kernel
theorem dX8_isShort_131 : decode cX8_isShort 131 = .ok (.goto 4, 3) := by decide +kernel
theorem dX8_isShort_134 : decode cX8_isShort 134 = .ok (.iconst 0, 1) := by decide +kernel
theorem dX8_isShort_135 : decode cX8_isShort 135 = .ok (.istore 7, 2) := by decide +kernel
theorem dX8_isShort_137 : decode cX8_isShort 137 = .ok (.aload_n 0, 1) := by decide +kernel
theorem dX8_isShort_138 : decode cX8_isShort 138 = .ok (.iload 5, 2) := by decide +kernel
theorem dX8_isShort_140 : decode cX8_isShort 140 = .ok (.invokestatic 107, 3) := by decide +kernel
theorem dX8_isShort_143 : decode cX8_isShort 143 = .ok (.istore 5, 2) := by decide +kernel
theorem dX8_isShort_145 : decode cX8_isShort 145 = .ok (.goto (-44), 3) := by decide +kernel
theorem dX8_isShort_148 : decode cX8_isShort 148 = .ok (.iload 7, 2) := by decide +kernel
theorem dX8_isShort_150 : decode cX8_isShort 150 = .ok (.ireturn, 1) := by decide +kernel
theorem dX8_say_0 : decode cX8_say 0 = .ok (.aload_n 0, 1) := by decide +kernel
theorem dX8_say_1 : decode cX8_say 1 = .ok (.getfield 32, 3) := by decide +kernel
theorem dX8_say_4 : decode cX8_say 4 = .ok (.aload_n 0, 1) := by decide +kernel
theorem dX8_say_5 : decode cX8_say 5 = .ok (.getfield 193, 3) := by decide +kernel
theorem dX8_say_8 : decode cX8_say 8 = .ok (.iload_n 1, 1) := by decide +kernel
theorem dX8_say_9 : decode cX8_say 9 = .ok (.iastore, 1) := by decide +kernel
theorem dX8_say_10 : decode cX8_say 10 = .ok (.aload_n 0, 1) := by decide +kernel
theorem dX8_say_11 : decode cX8_say 11 = .ok (.dup, 1) := by decide +kernel
theorem dX8_say_12 : decode cX8_say 12 = .ok (.getfield 193, 3) := by decide +kernel
theorem dX8_say_15 : decode cX8_say 15 = .ok (.iconst 1, 1) := by decide +kernel
theorem dX8_say_16 : decode cX8_say 16 = .ok (.iadd, 1) := by decide +kernel
theorem dX8_say_17 : decode cX8_say 17 = .ok (.putfield 193, 3) := by decide +kernel
theorem dX8_say_20 : decode cX8_say 20 = .ok (.return_, 1) := by decide +kernel
theorem dX8_sayUnless_0 : decode cX8_sayUnless 0 = .ok (.iload_n 1, 1) := by decide +kernel
theorem dX8_sayUnless_1 : decode cX8_sayUnless 1 = .ok (.ifCond .ne 8, 3) := by decide +kernel
theorem dX8_sayUnless_4 : decode cX8_sayUnless 4 = .ok (.aload_n 0, 1) := by decide +kernel
theorem dX8_sayUnless_5 : decode cX8_sayUnless 5 = .ok (.iload_n 2, 1) := by decide +kernel
theorem dX8_sayUnless_6 : decode cX8_sayUnless 6 = .ok (.invokevirtual 196, 3) := by decide +kernel
theorem dX8_sayUnless_9 : decode cX8_sayUnless 9 = .ok (.return_, 1) := by decide +kernel
theorem dX8_layLine_0 : decode cX8_layLine 0 = .ok (.aload_n 0, 1) := by decide +kernel
theorem dX8_layLine_1 : decode cX8_layLine 1 = .ok (.iconst 0, 1) := by decide +kernel
theorem dX8_layLine_2 : decode cX8_layLine 2 = .ok (.putfield 193, 3) := by decide +kernel
theorem dX8_layLine_5 : decode cX8_layLine 5 = .ok (.iconst 0, 1) := by decide +kernel
theorem dX8_layLine_6 : decode cX8_layLine 6 = .ok (.istore_n 2, 1) := by decide +kernel
theorem dX8_layLine_7 : decode cX8_layLine 7 = .ok (.iconst 0, 1) := by decide +kernel
theorem dX8_layLine_8 : decode cX8_layLine 8 = .ok (.istore_n 3, 1) := by decide +kernel
theorem dX8_layLine_9 : decode cX8_layLine 9 = .ok (.iload_n 3, 1) := by decide +kernel
theorem dX8_layLine_10 : decode cX8_layLine 10 = .ok (.aload_n 1, 1) := by decide +kernel
theorem dX8_layLine_11 : decode cX8_layLine 11 = .ok (.sipush 180, 3) := by decide +kernel
theorem dX8_layLine_14 : decode cX8_layLine 14 = .ok (.iaload, 1) := by decide +kernel
theorem dX8_layLine_15 : decode cX8_layLine 15 = .ok (.if_icmp .ge 309, 3) := by decide +kernel
theorem dX8_layLine_18 : decode cX8_layLine 18 = .ok (.aload_n 1, 1) := by decide +kernel
theorem dX8_layLine_19 : decode cX8_layLine 19 = .ok (.iload_n 3, 1) := by decide +kernel
theorem dX8_layLine_20 : decode cX8_layLine 20 = .ok (.iaload, 1) := by decide +kernel
theorem dX8_layLine_21 : decode cX8_layLine 21 = .ok (.istore 4, 2) := by decide +kernel
theorem dX8_layLine_23 : decode cX8_layLine 23 = .ok (.iload 4, 2) := by decide +kernel
theorem dX8_layLine_25 : decode cX8_layLine 25 = .ok (.ifCond .le 12, 3) := by decide +kernel
theorem dX8_layLine_28 : decode cX8_layLine 28 = .ok (.aload_n 0, 1) := by decide +kernel
theorem dX8_layLine_29 : decode cX8_layLine 29 = .ok (.iload 4, 2) := by decide +kernel
theorem dX8_layLine_31 : decode cX8_layLine 31 = .ok (.invokevirtual 196, 3) := by decide +kernel
theorem dX8_layLine_34 : decode cX8_layLine 34 = .ok (.goto 284, 3) := by decide +kernel
theorem dX8_layLine_37 : decode cX8_layLine 37 = .ok (.iload 4, 2) := by decide +kernel
theorem dX8_layLine_39 : decode cX8_layLine 39 = .ok (.invokestatic 97, 3) := by decide +kernel
theorem dX8_layLine_42 : decode cX8_layLine 42 = .ok (.ifCond .eq 148, 3) := by decide +kernel
theorem dX8_layLine_45 : decode cX8_layLine 45 = .ok (.aload_n 0, 1) := by decide +kernel
theorem dX8_layLine_46 : decode cX8_layLine 46 = .ok (.getfield 68, 3) := by decide +kernel
theorem dX8_layLine_49 : decode cX8_layLine 49 = .ok (.iload_n 2, 1) := by decide +kernel
theorem dX8_layLine_50 : decode cX8_layLine 50 = .ok (.iload_n 3, 1) := by decide +kernel
theorem dX8_layLine_51 : decode cX8_layLine 51 = .ok (.iastore, 1) := by decide +kernel
theorem dX8_layLine_52 : decode cX8_layLine 52 = .ok (.iinc 2 1, 3) := by decide +kernel
theorem dX8_layLine_55 : decode cX8_layLine 55 = .ok (.iload 4, 2) := by decide +kernel
theorem dX8_layLine_57 : decode cX8_layLine 57 = .ok (.iconst (-1), 1) := by decide +kernel
theorem dX8_layLine_58 : decode cX8_layLine 58 = .ok (.if_icmp .ne 20, 3) := by decide +kernel
theorem dX8_layLine_61 : decode cX8_layLine 61 = .ok (.aload_n 0, 1) := by decide +kernel
theorem dX8_layLine_62 : decode cX8_layLine 62 = .ok (.aload_n 1, 1) := by decide +kernel
theorem dX8_layLine_63 : decode cX8_layLine 63 = .ok (.iload_n 3, 1) := by decide +kernel
theorem dX8_layLine_64 : decode cX8_layLine 64 = .ok (.iconst 1, 1) := by decide +kernel
theorem dX8_layLine_65 : decode cX8_layLine 65 = .ok (.iadd, 1) := by decide +kernel
theorem dX8_layLine_66 : decode cX8_layLine 66 = .ok (.iconst 1, 1) := by decide +kernel
theorem dX8_layLine_67 : decode cX8_layLine 67 = .ok (.invokestatic 199, 3) := by decide +kernel
theorem dX8_layLine_70 : decode cX8_layLine 70 = .ok (.bipush 40, 2) := by decide +kernel
theorem dX8_layLine_72 : decode cX8_layLine 72 = .ok (.invokevirtual 203, 3) := by decide +kernel
theorem dX8_layLine_75 : decode cX8_layLine 75 = .ok (.goto 243, 3) := by decide +kernel
theorem dX8_layLine_78 : decode cX8_layLine 78 = .ok (.iload 4, 2) := by decide +kernel
theorem dX8_layLine_80 : decode cX8_layLine 80 = .ok (.bipush (-4), 2) := by decide +kernel
theorem dX8_layLine_82 : decode cX8_layLine 82 = .ok (.if_icmp .le 81, 3) := by decide +kernel
theorem dX8_layLine_85 : decode cX8_layLine 85 = .ok (.iload_n 3, 1) := by decide +kernel
theorem dX8_layLine_86 : decode cX8_layLine 86 = .ok (.aload_n 1, 1) := by decide +kernel
theorem dX8_layLine_87 : decode cX8_layLine 87 = .ok (.iload_n 3, 1) := by decide +kernel
theorem dX8_layLine_88 : decode cX8_layLine 88 = .ok (.invokestatic 136, 3) := by decide +kernel
theorem dX8_layLine_91 : decode cX8_layLine 91 = .ok (.if_icmp .le 18, 3) := by decide +kernel
theorem dX8_layLine_94 : decode cX8_layLine 94 = .ok (.aload_n 1, 1) := by decide +kernel
theorem dX8_layLine_95 : decode cX8_layLine 95 = .ok (.aload_n 1, 1) := by decide +kernel
theorem dX8_layLine_96 : decode cX8_layLine 96 = .ok (.iload_n 3, 1) := by decide +kernel
theorem dX8_layLine_97 : decode cX8_layLine 97 = .ok (.invokestatic 139, 3) := by decide +kernel
theorem dX8_layLine_100 : decode cX8_layLine 100 = .ok (.iaload, 1) := by decide +kernel
theorem dX8_layLine_101 : decode cX8_layLine 101 = .ok (.iconst (-1), 1) := by decide +kernel
theorem dX8_layLine_102 : decode cX8_layLine 102 = .ok (.if_icmp .ne 7, 3) := by decide +kernel
theorem dX8_layLine_105 : decode cX8_layLine 105 = .ok (.iconst 1, 1) := by decide +kernel
theorem dX8_layLine_106 : decode cX8_layLine 106 = .ok (.goto 4, 3) := by decide +kernel
theorem dX8_layLine_109 : decode cX8_layLine 109 = .ok (.iconst 0, 1) := by decide +kernel
theorem dX8_layLine_110 : decode cX8_layLine 110 = .ok (.istore 5, 2) := by decide +kernel
theorem dX8_layLine_112 : decode cX8_layLine 112 = .ok (.aload_n 0, 1) := by decide +kernel
theorem dX8_layLine_113 : decode cX8_layLine 113 = .ok (.iload 5, 2) := by decide +kernel
theorem dX8_layLine_115 : decode cX8_layLine 115 = .ok (.ifCond .ne 7, 3) := by decide +kernel
theorem dX8_layLine_118 : decode cX8_layLine 118 = .ok (.iconst 1, 1) := by decide +kernel
theorem dX8_layLine_119 : decode cX8_layLine 119 = .ok (.goto 4, 3) := by decide +kernel
theorem dX8_layLine_122 : decode cX8_layLine 122 = .ok (.iconst 0, 1) := by decide +kernel
theorem dX8_layLine_123 : decode cX8_layLine 123 = .ok (.bipush 32, 2) := by decide +kernel
theorem dX8_layLine_125 : decode cX8_layLine 125 = .ok (.invokevirtual 203, 3) := by decide +kernel
theorem dX8_layLine_128 : decode cX8_layLine 128 = .ok (.aload_n 0, 1) := by decide +kernel
theorem dX8_layLine_129 : decode cX8_layLine 129 = .ok (.iload 4, 2) := by decide +kernel
theorem dX8_layLine_131 : decode cX8_layLine 131 = .ok (.bipush (-2), 2) := by decide +kernel
theorem dX8_layLine_133 : decode cX8_layLine 133 = .ok (.if_icmp .ne 8, 3) := by decide +kernel
theorem dX8_layLine_136 : decode cX8_layLine 136 = .ok (.bipush 94, 2) := by decide +kernel
theorem dX8_layLine_138 : decode cX8_layLine 138 = .ok (.goto 5, 3) := by decide +kernel
theorem dX8_layLine_141 : decode cX8_layLine 141 = .ok (.bipush 95, 2) := by decide +kernel
theorem dX8_layLine_143 : decode cX8_layLine 143 = .ok (.invokevirtual 196, 3) := by decide +kernel
theorem dX8_layLine_146 : decode cX8_layLine 146 = .ok (.aload_n 0, 1) := by decide +kernel
theorem dX8_layLine_147 : decode cX8_layLine 147 = .ok (.aload_n 1, 1) := by decide +kernel
theorem dX8_layLine_148 : decode cX8_layLine 148 = .ok (.iload_n 3, 1) := by decide +kernel
theorem dX8_layLine_149 : decode cX8_layLine 149 = .ok (.iconst 1, 1) := by decide +kernel
theorem dX8_layLine_150 : decode cX8_layLine 150 = .ok (.iadd, 1) := by decide +kernel
theorem dX8_layLine_151 : decode cX8_layLine 151 = .ok (.iconst 0, 1) := by decide +kernel
theorem dX8_layLine_152 : decode cX8_layLine 152 = .ok (.invokestatic 199, 3) := by decide +kernel
theorem dX8_layLine_155 : decode cX8_layLine 155 = .ok (.bipush 40, 2) := by decide +kernel
theorem dX8_layLine_157 : decode cX8_layLine 157 = .ok (.invokevirtual 203, 3) := by decide +kernel
theorem dX8_layLine_160 : decode cX8_layLine 160 = .ok (.goto 158, 3) := by decide +kernel
theorem dX8_layLine_163 : decode cX8_layLine 163 = .ok (.aload_n 0, 1) := by decide +kernel
theorem dX8_layLine_164 : decode cX8_layLine 164 = .ok (.iload 4, 2) := by decide +kernel
theorem dX8_layLine_166 : decode cX8_layLine 166 = .ok (.bipush (-5), 2) := by decide +kernel
theorem dX8_layLine_168 : decode cX8_layLine 168 = .ok (.if_icmp .ne 7, 3) := by decide +kernel
theorem dX8_layLine_171 : decode cX8_layLine 171 = .ok (.iconst 1, 1) := by decide +kernel
theorem dX8_layLine_172 : decode cX8_layLine 172 = .ok (.goto 4, 3) := by decide +kernel
theorem dX8_layLine_175 : decode cX8_layLine 175 = .ok (.iconst 0, 1) := by decide +kernel
theorem dX8_layLine_176 : decode cX8_layLine 176 = .ok (.bipush 114, 2) := by decide +kernel
theorem dX8_layLine_178 : decode cX8_layLine 178 = .ok (.invokevirtual 203, 3) := by decide +kernel
theorem dX8_layLine_181 : decode cX8_layLine 181 = .ok (.aload_n 0, 1) := by decide +kernel
theorem dX8_layLine_182 : decode cX8_layLine 182 = .ok (.bipush 40, 2) := by decide +kernel
theorem dX8_layLine_184 : decode cX8_layLine 184 = .ok (.invokevirtual 196, 3) := by decide +kernel
theorem dX8_layLine_187 : decode cX8_layLine 187 = .ok (.goto 131, 3) := by decide +kernel
theorem dX8_layLine_190 : decode cX8_layLine 190 = .ok (.iload 4, 2) := by decide +kernel
theorem dX8_layLine_192 : decode cX8_layLine 192 = .ok (.bipush (-10), 2) := by decide +kernel
theorem dX8_layLine_194 : decode cX8_layLine 194 = .ok (.if_icmp .ne 47, 3) := by decide +kernel
theorem dX8_layLine_197 : decode cX8_layLine 197 = .ok (.aload_n 0, 1) := by decide +kernel
theorem dX8_layLine_198 : decode cX8_layLine 198 = .ok (.aload_n 1, 1) := by decide +kernel
theorem dX8_layLine_199 : decode cX8_layLine 199 = .ok (.aload_n 0, 1) := by decide +kernel
theorem dX8_layLine_200 : decode cX8_layLine 200 = .ok (.getfield 68, 3) := by decide +kernel
theorem dX8_layLine_203 : decode cX8_layLine 203 = .ok (.iload_n 2, 1) := by decide +kernel
theorem dX8_layLine_204 : decode cX8_layLine 204 = .ok (.iconst 1, 1) := by decide +kernel
theorem dX8_layLine_205 : decode cX8_layLine 205 = .ok (.isub, 1) := by decide +kernel
theorem dX8_layLine_206 : decode cX8_layLine 206 = .ok (.iaload, 1) := by decide +kernel
theorem dX8_layLine_207 : decode cX8_layLine 207 = .ok (.iconst 1, 1) := by decide +kernel
theorem dX8_layLine_208 : decode cX8_layLine 208 = .ok (.iadd, 1) := by decide +kernel
theorem dX8_layLine_209 : decode cX8_layLine 209 = .ok (.iconst 1, 1) := by decide +kernel
theorem dX8_layLine_210 : decode cX8_layLine 210 = .ok (.invokestatic 199, 3) := by decide +kernel
theorem dX8_layLine_213 : decode cX8_layLine 213 = .ok (.bipush 41, 2) := by decide +kernel
theorem dX8_layLine_215 : decode cX8_layLine 215 = .ok (.invokevirtual 203, 3) := by decide +kernel
theorem dX8_layLine_218 : decode cX8_layLine 218 = .ok (.aload_n 0, 1) := by decide +kernel
theorem dX8_layLine_219 : decode cX8_layLine 219 = .ok (.bipush 47, 2) := by decide +kernel
theorem dX8_layLine_221 : decode cX8_layLine 221 = .ok (.invokevirtual 196, 3) := by decide +kernel
theorem dX8_layLine_224 : decode cX8_layLine 224 = .ok (.aload_n 0, 1) := by decide +kernel
theorem dX8_layLine_225 : decode cX8_layLine 225 = .ok (.aload_n 1, 1) := by decide +kernel
theorem dX8_layLine_226 : decode cX8_layLine 226 = .ok (.iload_n 3, 1) := by decide +kernel
theorem dX8_layLine_227 : decode cX8_layLine 227 = .ok (.iconst 1, 1) := by decide +kernel
theorem dX8_layLine_228 : decode cX8_layLine 228 = .ok (.iadd, 1) := by decide +kernel
theorem dX8_layLine_229 : decode cX8_layLine 229 = .ok (.iconst 1, 1) := by decide +kernel
theorem dX8_layLine_230 : decode cX8_layLine 230 = .ok (.invokestatic 199, 3) := by decide +kernel
theorem dX8_layLine_233 : decode cX8_layLine 233 = .ok (.bipush 40, 2) := by decide +kernel
theorem dX8_layLine_235 : decode cX8_layLine 235 = .ok (.invokevirtual 203, 3) := by decide +kernel
theorem dX8_layLine_238 : decode cX8_layLine 238 = .ok (.goto 80, 3) := by decide +kernel
theorem dX8_layLine_241 : decode cX8_layLine 241 = .ok (.iinc 2 (-1), 3) := by decide +kernel
theorem dX8_layLine_244 : decode cX8_layLine 244 = .ok (.aload_n 1, 1) := by decide +kernel
theorem dX8_layLine_245 : decode cX8_layLine 245 = .ok (.aload_n 0, 1) := by decide +kernel
theorem dX8_layLine_246 : decode cX8_layLine 246 = .ok (.getfield 68, 3) := by decide +kernel
theorem dX8_layLine_249 : decode cX8_layLine 249 = .ok (.iload_n 2, 1) := by decide +kernel
theorem dX8_layLine_250 : decode cX8_layLine 250 = .ok (.iaload, 1) := by decide +kernel
theorem dX8_layLine_251 : decode cX8_layLine 251 = .ok (.iaload, 1) := by decide +kernel
theorem dX8_layLine_252 : decode cX8_layLine 252 = .ok (.istore 5, 2) := by decide +kernel
theorem dX8_layLine_254 : decode cX8_layLine 254 = .ok (.iload 5, 2) := by decide +kernel
theorem dX8_layLine_256 : decode cX8_layLine 256 = .ok (.iconst (-1), 1) := by decide +kernel
theorem dX8_layLine_257 : decode cX8_layLine 257 = .ok (.if_icmp .ne 16, 3) := by decide +kernel
theorem dX8_layLine_260 : decode cX8_layLine 260 = .ok (.aload_n 1, 1) := by decide +kernel
theorem dX8_layLine_261 : decode cX8_layLine 261 = .ok (.aload_n 1, 1) := by decide +kernel
theorem dX8_layLine_262 : decode cX8_layLine 262 = .ok (.iload_n 3, 1) := by decide +kernel
theorem dX8_layLine_263 : decode cX8_layLine 263 = .ok (.invokestatic 136, 3) := by decide +kernel
theorem dX8_layLine_266 : decode cX8_layLine 266 = .ok (.iconst 1, 1) := by decide +kernel
theorem dX8_layLine_267 : decode cX8_layLine 267 = .ok (.invokestatic 199, 3) := by decide +kernel
theorem dX8_layLine_270 : decode cX8_layLine 270 = .ok (.goto 38, 3) := by decide +kernel
theorem dX8_layLine_273 : decode cX8_layLine 273 = .ok (.iload 5, 2) := by decide +kernel
theorem dX8_layLine_275 : decode cX8_layLine 275 = .ok (.bipush (-2), 2) := by decide +kernel
theorem dX8_layLine_277 : decode cX8_layLine 277 = .ok (.if_icmp .eq 10, 3) := by decide +kernel
theorem dX8_layLine_280 : decode cX8_layLine 280 = .ok (.iload 5, 2) := by decide +kernel
theorem dX8_layLine_282 : decode cX8_layLine 282 = .ok (.bipush (-3), 2) := by decide +kernel
theorem dX8_layLine_284 : decode cX8_layLine 284 = .ok (.if_icmp .ne 23, 3) := by decide +kernel
theorem dX8_layLine_287 : decode cX8_layLine 287 = .ok (.aload_n 1, 1) := by decide +kernel
theorem dX8_layLine_288 : decode cX8_layLine 288 = .ok (.aload_n 0, 1) := by decide +kernel
theorem dX8_layLine_289 : decode cX8_layLine 289 = .ok (.getfield 68, 3) := by decide +kernel
theorem dX8_layLine_292 : decode cX8_layLine 292 = .ok (.iload_n 2, 1) := by decide +kernel
theorem dX8_layLine_293 : decode cX8_layLine 293 = .ok (.iaload, 1) := by decide +kernel
theorem dX8_layLine_294 : decode cX8_layLine 294 = .ok (.iconst 1, 1) := by decide +kernel
theorem dX8_layLine_295 : decode cX8_layLine 295 = .ok (.iadd, 1) := by decide +kernel
theorem dX8_layLine_296 : decode cX8_layLine 296 = .ok (.iconst 0, 1) := by decide +kernel
theorem dX8_layLine_297 : decode cX8_layLine 297 = .ok (.invokestatic 199, 3) := by decide +kernel
theorem dX8_layLine_300 : decode cX8_layLine 300 = .ok (.ifCond .eq 7, 3) := by decide +kernel
theorem dX8_layLine_303 : decode cX8_layLine 303 = .ok (.iconst 1, 1) := by decide +kernel
theorem dX8_layLine_304 : decode cX8_layLine 304 = .ok (.goto 4, 3) := by decide +kernel
theorem dX8_layLine_307 : decode cX8_layLine 307 = .ok (.iconst 0, 1) := by decide +kernel
theorem dX8_layLine_308 : decode cX8_layLine 308 = .ok (.istore 6, 2) := by decide +kernel
theorem dX8_layLine_310 : decode cX8_layLine 310 = .ok (.aload_n 0, 1) := by decide +kernel
theorem dX8_layLine_311 : decode cX8_layLine 311 = .ok (.iload 6, 2) := by decide +kernel
theorem dX8_layLine_313 : decode cX8_layLine 313 = .ok (.bipush 41, 2) := by decide +kernel
theorem dX8_layLine_315 : decode cX8_layLine 315 = .ok (.invokevirtual 203, 3) := by decide +kernel
theorem dX8_layLine_318 : decode cX8_layLine 318 = .ok (.iinc 3 1, 3) := by decide +kernel
theorem dX8_layLine_321 : decode cX8_layLine 321 = .ok (.goto (-312), 3) := by decide +kernel
theorem dX8_layLine_324 : decode cX8_layLine 324 = .ok (.return_, 1) := by decide +kernel
theorem dX8_linearLength_0 : decode cX8_linearLength 0 = .ok (.aload_n 0, 1) := by decide +kernel
theorem dX8_linearLength_1 : decode cX8_linearLength 1 = .ok (.iconst 0, 1) := by decide +kernel
theorem dX8_linearLength_2 : decode cX8_linearLength 2 = .ok (.putfield 71, 3) := by decide +kernel
theorem dX8_linearLength_5 : decode cX8_linearLength 5 = .ok (.aload_n 0, 1) := by decide +kernel
theorem dX8_linearLength_6 : decode cX8_linearLength 6 = .ok (.aload_n 0, 1) := by decide +kernel
theorem dX8_linearLength_7 : decode cX8_linearLength 7 = .ok (.getfield 13, 3) := by decide +kernel
theorem dX8_linearLength_10 : decode cX8_linearLength 10 = .ok (.invokevirtual 207, 3) := by decide +kernel
theorem dX8_linearLength_13 : decode cX8_linearLength 13 = .ok (.aload_n 0, 1) := by decide +kernel
theorem dX8_linearLength_14 : decode cX8_linearLength 14 = .ok (.getfield 193, 3) := by decide +kernel
theorem dX8_linearLength_17 : decode cX8_linearLength 17 = .ok (.ireturn, 1) := by decide +kernel
theorem dX8_linearAt_0 : decode cX8_linearAt 0 = .ok (.aload_n 0, 1) := by decide +kernel
theorem dX8_linearAt_1 : decode cX8_linearAt 1 = .ok (.aload_n 0, 1) := by decide +kernel
theorem dX8_linearAt_2 : decode cX8_linearAt 2 = .ok (.getfield 13, 3) := by decide +kernel
theorem dX8_linearAt_5 : decode cX8_linearAt 5 = .ok (.invokevirtual 207, 3) := by decide +kernel
theorem dX8_linearAt_8 : decode cX8_linearAt 8 = .ok (.aload_n 0, 1) := by decide +kernel
theorem dX8_linearAt_9 : decode cX8_linearAt 9 = .ok (.iload_n 1, 1) := by decide +kernel
theorem dX8_linearAt_10 : decode cX8_linearAt 10 = .ok (.i2l, 1) := by decide +kernel
theorem dX8_linearAt_11 : decode cX8_linearAt 11 = .ok (.lconst 0, 1) := by decide +kernel
theorem dX8_linearAt_12 : decode cX8_linearAt 12 = .ok (.aload_n 0, 1) := by decide +kernel
theorem dX8_linearAt_13 : decode cX8_linearAt 13 = .ok (.getfield 193, 3) := by decide +kernel
theorem dX8_linearAt_16 : decode cX8_linearAt 16 = .ok (.iconst 1, 1) := by decide +kernel
theorem dX8_linearAt_17 : decode cX8_linearAt 17 = .ok (.isub, 1) := by decide +kernel
theorem dX8_linearAt_18 : decode cX8_linearAt 18 = .ok (.i2l, 1) := by decide +kernel
theorem dX8_linearAt_19 : decode cX8_linearAt 19 = .ok (.invokestatic 79, 3) := by decide +kernel
theorem dX8_linearAt_22 : decode cX8_linearAt 22 = .ok (.ifCond .eq 7, 3) := by decide +kernel
theorem dX8_linearAt_25 : decode cX8_linearAt 25 = .ok (.iconst 0, 1) := by decide +kernel
theorem dX8_linearAt_26 : decode cX8_linearAt 26 = .ok (.goto 4, 3) := by decide +kernel
theorem dX8_linearAt_29 : decode cX8_linearAt 29 = .ok (.iconst 1, 1) := by decide +kernel
theorem dX8_linearAt_30 : decode cX8_linearAt 30 = .ok (.invokevirtual 150, 3) := by decide +kernel
theorem dX8_linearAt_33 : decode cX8_linearAt 33 = .ok (.ifCond .eq 7, 3) := by decide +kernel
theorem dX8_linearAt_36 : decode cX8_linearAt 36 = .ok (.iconst 0, 1) := by decide +kernel
theorem dX8_linearAt_37 : decode cX8_linearAt 37 = .ok (.goto 9, 3) := by decide +kernel
theorem dX8_linearAt_40 : decode cX8_linearAt 40 = .ok (.aload_n 0, 1) := by decide +kernel
theorem dX8_linearAt_41 : decode cX8_linearAt 41 = .ok (.getfield 32, 3) := by decide +kernel
theorem dX8_linearAt_44 : decode cX8_linearAt 44 = .ok (.iload_n 1, 1) := by decide +kernel
theorem dX8_linearAt_45 : decode cX8_linearAt 45 = .ok (.iaload, 1) := by decide +kernel
theorem dX8_linearAt_46 : decode cX8_linearAt 46 = .ok (.ireturn, 1) := by decide +kernel
theorem dX8_moveTo_0 : decode cX8_moveTo 0 = .ok (.aload_n 0, 1) := by decide +kernel
theorem dX8_moveTo_1 : decode cX8_moveTo 1 = .ok (.aload_n 0, 1) := by decide +kernel
theorem dX8_moveTo_2 : decode cX8_moveTo 2 = .ok (.iload_n 1, 1) := by decide +kernel
theorem dX8_moveTo_3 : decode cX8_moveTo 3 = .ok (.invokevirtual 185, 3) := by decide +kernel
theorem dX8_moveTo_6 : decode cX8_moveTo 6 = .ok (.ifCond .eq 7, 3) := by decide +kernel
theorem dX8_moveTo_9 : decode cX8_moveTo 9 = .ok (.iconst 0, 1) := by decide +kernel
theorem dX8_moveTo_10 : decode cX8_moveTo 10 = .ok (.goto 4, 3) := by decide +kernel
theorem dX8_moveTo_13 : decode cX8_moveTo 13 = .ok (.iconst 1, 1) := by decide +kernel
theorem dX8_moveTo_14 : decode cX8_moveTo 14 = .ok (.invokevirtual 150, 3) := by decide +kernel
theorem dX8_moveTo_17 : decode cX8_moveTo 17 = .ok (.ifCond .eq 5, 3) := by decide +kernel
theorem dX8_moveTo_20 : decode cX8_moveTo 20 = .ok (.iconst 0, 1) := by decide +kernel
theorem dX8_moveTo_21 : decode cX8_moveTo 21 = .ok (.ireturn, 1) := by decide +kernel
theorem dX8_moveTo_22 : decode cX8_moveTo 22 = .ok (.aload_n 0, 1) := by decide +kernel
theorem dX8_moveTo_23 : decode cX8_moveTo 23 = .ok (.getfield 13, 3) := by decide +kernel
theorem dX8_moveTo_26 : decode cX8_moveTo 26 = .ok (.sipush 181, 3) := by decide +kernel
theorem dX8_moveTo_29 : decode cX8_moveTo 29 = .ok (.iaload, 1) := by decide +kernel
theorem dX8_moveTo_30 : decode cX8_moveTo 30 = .ok (.istore_n 2, 1) := by decide +kernel
theorem dX8_moveTo_31 : decode cX8_moveTo 31 = .ok (.aload_n 0, 1) := by decide +kernel
theorem dX8_moveTo_32 : decode cX8_moveTo 32 = .ok (.getfield 13, 3) := by decide +kernel
theorem dX8_moveTo_35 : decode cX8_moveTo 35 = .ok (.sipush 181, 3) := by decide +kernel
theorem dX8_moveTo_38 : decode cX8_moveTo 38 = .ok (.iload_n 1, 1) := by decide +kernel
theorem dX8_moveTo_39 : decode cX8_moveTo 39 = .ok (.iastore, 1) := by decide +kernel
theorem dX8_moveTo_40 : decode cX8_moveTo 40 = .ok (.aload_n 0, 1) := by decide +kernel
theorem dX8_moveTo_41 : decode cX8_moveTo 41 = .ok (.getfield 13, 3) := by decide +kernel
theorem dX8_moveTo_44 : decode cX8_moveTo 44 = .ok (.sipush 182, 3) := by decide +kernel
theorem dX8_moveTo_47 : decode cX8_moveTo 47 = .ok (.bipush (-9), 2) := by decide +kernel
theorem dX8_moveTo_49 : decode cX8_moveTo 49 = .ok (.iastore, 1) := by decide +kernel
theorem dX8_moveTo_50 : decode cX8_moveTo 50 = .ok (.iload_n 2, 1) := by decide +kernel
theorem dX8_moveTo_51 : decode cX8_moveTo 51 = .ok (.ireturn, 1) := by decide +kernel
theorem dX8_moveBy_0 : decode cX8_moveBy 0 = .ok (.aload_n 0, 1) := by decide +kernel

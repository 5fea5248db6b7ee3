theorem dX0_init_0 : decode cX0_init 0 = .ok (.aload_n 0, 1) := by decide +kernel
theorem dX0_init_1 : decode cX0_init 1 = .ok (.sipush 180, 3) := by decide +kernel
theorem dX0_init_4 : decode cX0_init 4 = .ok (.invokespecial 3, 3) := by decide +kernel
theorem dX0_init_7 : decode cX0_init 7 = .ok (.return_, 1) := by decide +kernel
theorem dX0_become_0 : decode cX0_become 0 = .ok (.aload_n 0, 1) := by decide +kernel
theorem dX0_become_1 : decode cX0_become 1 = .ok (.aload_n 1, 1) := by decide +kernel
theorem dX0_become_2 : decode cX0_become 2 = .ok (.iconst 0, 1) := by decide +kernel
theorem dX0_become_3 : decode cX0_become 3 = .ok (.aload_n 1, 1) := by decide +kernel
theorem dX0_become_4 : decode cX0_become 4 = .ok (.getfield 9, 3) := by decide +kernel
theorem dX0_become_7 : decode cX0_become 7 = .ok (.invokevirtual 15, 3) := by decide +kernel
theorem dX0_become_10 : decode cX0_become 10 = .ok (.aload_n 0, 1) := by decide +kernel
theorem dX0_become_11 : decode cX0_become 11 = .ok (.aload_n 1, 1) := by decide +kernel
theorem dX0_become_12 : decode cX0_become 12 = .ok (.getfield 19, 3) := by decide +kernel
theorem dX0_become_15 : decode cX0_become 15 = .ok (.putfield 19, 3) := by decide +kernel
theorem dX0_become_18 : decode cX0_become 18 = .ok (.aload_n 0, 1) := by decide +kernel
theorem dX0_become_19 : decode cX0_become 19 = .ok (.aload_n 1, 1) := by decide +kernel
theorem dX0_become_20 : decode cX0_become 20 = .ok (.getfield 22, 3) := by decide +kernel
theorem dX0_become_23 : decode cX0_become 23 = .ok (.putfield 22, 3) := by decide +kernel
theorem dX0_become_26 : decode cX0_become 26 = .ok (.return_, 1) := by decide +kernel
theorem dX0_hasSelection_0 : decode cX0_hasSelection 0 = .ok (.aload_n 0, 1) := by decide +kernel
theorem dX0_hasSelection_1 : decode cX0_hasSelection 1 = .ok (.getfield 22, 3) := by decide +kernel
theorem dX0_hasSelection_4 : decode cX0_hasSelection 4 = .ok (.aload_n 0, 1) := by decide +kernel
theorem dX0_hasSelection_5 : decode cX0_hasSelection 5 = .ok (.getfield 19, 3) := by decide +kernel
theorem dX0_hasSelection_8 : decode cX0_hasSelection 8 = .ok (.if_icmp .ge 7, 3) := by decide +kernel
theorem dX0_hasSelection_11 : decode cX0_hasSelection 11 = .ok (.iconst 1, 1) := by decide +kernel
theorem dX0_hasSelection_12 : decode cX0_hasSelection 12 = .ok (.goto 4, 3) := by decide +kernel
theorem dX0_hasSelection_15 : decode cX0_hasSelection 15 = .ok (.iconst 0, 1) := by decide +kernel
theorem dX0_hasSelection_16 : decode cX0_hasSelection 16 = .ok (.ireturn, 1) := by decide +kernel
theorem dX0_selectedOfRow_0 : decode cX0_selectedOfRow 0 = .ok (.aload_n 0, 1) := by decide +kernel
theorem dX0_selectedOfRow_1 : decode cX0_selectedOfRow 1 = .ok (.aload_n 0, 1) := by decide +kernel
theorem dX0_selectedOfRow_2 : decode cX0_selectedOfRow 2 = .ok (.getfield 22, 3) := by decide +kernel
theorem dX0_selectedOfRow_5 : decode cX0_selectedOfRow 5 = .ok (.aload_n 0, 1) := by decide +kernel
theorem dX0_selectedOfRow_6 : decode cX0_selectedOfRow 6 = .ok (.getfield 19, 3) := by decide +kernel
theorem dX0_selectedOfRow_9 : decode cX0_selectedOfRow 9 = .ok (.invokevirtual 25, 3) := by decide +kernel
theorem dX0_selectedOfRow_12 : decode cX0_selectedOfRow 12 = .ok (.ireturn, 1) := by decide +kernel
theorem dX0_selectedInAll_0 : decode cX0_selectedInAll 0 = .ok (.aload_n 0, 1) := by decide +kernel
theorem dX0_selectedInAll_1 : decode cX0_selectedInAll 1 = .ok (.aload_n 0, 1) := by decide +kernel
theorem dX0_selectedInAll_2 : decode cX0_selectedInAll 2 = .ok (.getfield 22, 3) := by decide +kernel
theorem dX0_selectedInAll_5 : decode cX0_selectedInAll 5 = .ok (.aload_n 0, 1) := by decide +kernel
theorem dX0_selectedInAll_6 : decode cX0_selectedInAll 6 = .ok (.getfield 19, 3) := by decide +kernel
theorem dX0_selectedInAll_9 : decode cX0_selectedInAll 9 = .ok (.invokevirtual 29, 3) := by decide +kernel
theorem dX0_selectedInAll_12 : decode cX0_selectedInAll 12 = .ok (.ireturn, 1) := by decide +kernel
theorem dX0_putCaret_0 : decode cX0_putCaret 0 = .ok (.aload_n 0, 1) := by decide +kernel
theorem dX0_putCaret_1 : decode cX0_putCaret 1 = .ok (.iload_n 1, 1) := by decide +kernel
theorem dX0_putCaret_2 : decode cX0_putCaret 2 = .ok (.putfield 19, 3) := by decide +kernel
theorem dX0_putCaret_5 : decode cX0_putCaret 5 = .ok (.aload_n 0, 1) := by decide +kernel
theorem dX0_putCaret_6 : decode cX0_putCaret 6 = .ok (.iload_n 1, 1) := by decide +kernel
theorem dX0_putCaret_7 : decode cX0_putCaret 7 = .ok (.putfield 22, 3) := by decide +kernel
theorem dX0_putCaret_10 : decode cX0_putCaret 10 = .ok (.return_, 1) := by decide +kernel
theorem dX0_shiftCaret_0 : decode cX0_shiftCaret 0 = .ok (.aload_n 0, 1) := by decide +kernel
theorem dX0_shiftCaret_1 : decode cX0_shiftCaret 1 = .ok (.iconst 0, 1) := by decide +kernel
theorem dX0_shiftCaret_2 : decode cX0_shiftCaret 2 = .ok (.aload_n 0, 1) := by decide +kernel
theorem dX0_shiftCaret_3 : decode cX0_shiftCaret 3 = .ok (.getfield 9, 3) := by decide +kernel
theorem dX0_shiftCaret_6 : decode cX0_shiftCaret 6 = .ok (.aload_n 0, 1) := by decide +kernel
theorem dX0_shiftCaret_7 : decode cX0_shiftCaret 7 = .ok (.getfield 19, 3) := by decide +kernel
theorem dX0_shiftCaret_10 : decode cX0_shiftCaret 10 = .ok (.iload_n 1, 1) := by decide +kernel
theorem dX0_shiftCaret_11 : decode cX0_shiftCaret 11 = .ok (.iadd, 1) := by decide +kernel
theorem dX0_shiftCaret_12 : decode cX0_shiftCaret 12 = .ok (.invokestatic 32, 3) := by decide +kernel
theorem dX0_shiftCaret_15 : decode cX0_shiftCaret 15 = .ok (.invokestatic 37, 3) := by decide +kernel
theorem dX0_shiftCaret_18 : decode cX0_shiftCaret 18 = .ok (.invokevirtual 40, 3) := by decide +kernel
theorem dX0_shiftCaret_21 : decode cX0_shiftCaret 21 = .ok (.return_, 1) := by decide +kernel
theorem dX0_chooseItems_0 : decode cX0_chooseItems 0 = .ok (.aload_n 0, 1) := by decide +kernel
theorem dX0_chooseItems_1 : decode cX0_chooseItems 1 = .ok (.iload_n 1, 1) := by decide +kernel
theorem dX0_chooseItems_2 : decode cX0_chooseItems 2 = .ok (.putfield 22, 3) := by decide +kernel
theorem dX0_chooseItems_5 : decode cX0_chooseItems 5 = .ok (.aload_n 0, 1) := by decide +kernel
theorem dX0_chooseItems_6 : decode cX0_chooseItems 6 = .ok (.iload_n 2, 1) := by decide +kernel
theorem dX0_chooseItems_7 : decode cX0_chooseItems 7 = .ok (.putfield 19, 3) := by decide +kernel
theorem dX0_chooseItems_10 : decode cX0_chooseItems 10 = .ok (.return_, 1) := by decide +kernel
theorem dX0_widenLeft_0 : decode cX0_widenLeft 0 = .ok (.aload_n 0, 1) := by decide +kernel
theorem dX0_widenLeft_1 : decode cX0_widenLeft 1 = .ok (.aload_n 0, 1) := by decide +kernel
theorem dX0_widenLeft_2 : decode cX0_widenLeft 2 = .ok (.getfield 22, 3) := by decide +kernel
theorem dX0_widenLeft_5 : decode cX0_widenLeft 5 = .ok (.invokevirtual 43, 3) := by decide +kernel
theorem dX0_widenLeft_8 : decode cX0_widenLeft 8 = .ok (.ifCond .ne 5, 3) := by decide +kernel
theorem dX0_widenLeft_11 : decode cX0_widenLeft 11 = .ok (.iconst 0, 1) := by decide +kernel
theorem dX0_widenLeft_12 : decode cX0_widenLeft 12 = .ok (.ireturn, 1) := by decide +kernel
theorem dX0_widenLeft_13 : decode cX0_widenLeft 13 = .ok (.aload_n 0, 1) := by decide +kernel
theorem dX0_widenLeft_14 : decode cX0_widenLeft 14 = .ok (.aload_n 0, 1) := by decide +kernel
theorem dX0_widenLeft_15 : decode cX0_widenLeft 15 = .ok (.aload_n 0, 1) := by decide +kernel
theorem dX0_widenLeft_16 : decode cX0_widenLeft 16 = .ok (.getfield 22, 3) := by decide +kernel
theorem dX0_widenLeft_19 : decode cX0_widenLeft 19 = .ok (.invokevirtual 47, 3) := by decide +kernel
theorem dX0_widenLeft_22 : decode cX0_widenLeft 22 = .ok (.putfield 22, 3) := by decide +kernel
theorem dX0_widenLeft_25 : decode cX0_widenLeft 25 = .ok (.iconst 1, 1) := by decide +kernel
theorem dX0_widenLeft_26 : decode cX0_widenLeft 26 = .ok (.ireturn, 1) := by decide +kernel
theorem dX0_widenRight_0 : decode cX0_widenRight 0 = .ok (.aload_n 0, 1) := by decide +kernel
theorem dX0_widenRight_1 : decode cX0_widenRight 1 = .ok (.aload_n 0, 1) := by decide +kernel
theorem dX0_widenRight_2 : decode cX0_widenRight 2 = .ok (.getfield 19, 3) := by decide +kernel
theorem dX0_widenRight_5 : decode cX0_widenRight 5 = .ok (.invokevirtual 51, 3) := by decide +kernel
theorem dX0_widenRight_8 : decode cX0_widenRight 8 = .ok (.invokestatic 54, 3) := by decide +kernel
theorem dX0_widenRight_11 : decode cX0_widenRight 11 = .ok (.ifCond .ne 5, 3) := by decide +kernel
theorem dX0_widenRight_14 : decode cX0_widenRight 14 = .ok (.iconst 0, 1) := by decide +kernel
theorem dX0_widenRight_15 : decode cX0_widenRight 15 = .ok (.ireturn, 1) := by decide +kernel
theorem dX0_widenRight_16 : decode cX0_widenRight 16 = .ok (.aload_n 0, 1) := by decide +kernel
theorem dX0_widenRight_17 : decode cX0_widenRight 17 = .ok (.aload_n 0, 1) := by decide +kernel
theorem dX0_widenRight_18 : decode cX0_widenRight 18 = .ok (.aload_n 0, 1) := by decide +kernel
theorem dX0_widenRight_19 : decode cX0_widenRight 19 = .ok (.getfield 19, 3) := by decide +kernel
theorem dX0_widenRight_22 : decode cX0_widenRight 22 = .ok (.invokevirtual 57, 3) := by decide +kernel
theorem dX0_widenRight_25 : decode cX0_widenRight 25 = .ok (.putfield 19, 3) := by decide +kernel
theorem dX0_widenRight_28 : decode cX0_widenRight 28 = .ok (.iconst 1, 1) := by decide +kernel
theorem dX0_widenRight_29 : decode cX0_widenRight 29 = .ok (.ireturn, 1) := by decide +kernel
theorem dX0_growSelection_0 : decode cX0_growSelection 0 = .ok (.aload_n 0, 1) := by decide +kernel
theorem dX0_growSelection_1 : decode cX0_growSelection 1 = .ok (.aload_n 0, 1) := by decide +kernel
theorem dX0_growSelection_2 : decode cX0_growSelection 2 = .ok (.getfield 19, 3) := by decide +kernel
theorem dX0_growSelection_5 : decode cX0_growSelection 5 = .ok (.invokevirtual 60, 3) := by decide +kernel
theorem dX0_growSelection_8 : decode cX0_growSelection 8 = .ok (.istore_n 1, 1) := by decide +kernel
theorem dX0_growSelection_9 : decode cX0_growSelection 9 = .ok (.aload_n 0, 1) := by decide +kernel
theorem dX0_growSelection_10 : decode cX0_growSelection 10 = .ok (.aload_n 0, 1) := by decide +kernel
theorem dX0_growSelection_11 : decode cX0_growSelection 11 = .ok (.getfield 19, 3) := by decide +kernel
theorem dX0_growSelection_14 : decode cX0_growSelection 14 = .ok (.invokevirtual 63, 3) := by decide +kernel
theorem dX0_growSelection_17 : decode cX0_growSelection 17 = .ok (.istore_n 2, 1) := by decide +kernel
theorem dX0_growSelection_18 : decode cX0_growSelection 18 = .ok (.aload_n 0, 1) := by decide +kernel
theorem dX0_growSelection_19 : decode cX0_growSelection 19 = .ok (.invokevirtual 66, 3) := by decide +kernel
theorem dX0_growSelection_22 : decode cX0_growSelection 22 = .ok (.ifCond .ne 19, 3) := by decide +kernel
theorem dX0_growSelection_25 : decode cX0_growSelection 25 = .ok (.aload_n 0, 1) := by decide +kernel
theorem dX0_growSelection_26 : decode cX0_growSelection 26 = .ok (.aload_n 0, 1) := by decide +kernel
theorem dX0_growSelection_27 : decode cX0_growSelection 27 = .ok (.getfield 19, 3) := by decide +kernel
theorem dX0_growSelection_30 : decode cX0_growSelection 30 = .ok (.invokevirtual 43, 3) := by decide +kernel
theorem dX0_growSelection_33 : decode cX0_growSelection 33 = .ok (.ifCond .eq 8, 3) := by decide +kernel
theorem dX0_growSelection_36 : decode cX0_growSelection 36 = .ok (.aload_n 0, 1) := by decide +kernel
theorem dX0_growSelection_37 : decode cX0_growSelection 37 = .ok (.invokevirtual 70, 3) := by decide +kernel
theorem dX0_growSelection_40 : decode cX0_growSelection 40 = .ok (.ireturn, 1) := by decide +kernel
theorem dX0_growSelection_41 : decode cX0_growSelection 41 = .ok (.aload_n 0, 1) := by decide +kernel
theorem dX0_growSelection_42 : decode cX0_growSelection 42 = .ok (.getfield 22, 3) := by decide +kernel
theorem dX0_growSelection_45 : decode cX0_growSelection 45 = .ok (.iload_n 1, 1) := by decide +kernel
theorem dX0_growSelection_46 : decode cX0_growSelection 46 = .ok (.if_icmp .ne 15, 3) := by decide +kernel
theorem dX0_growSelection_49 : decode cX0_growSelection 49 = .ok (.aload_n 0, 1) := by decide +kernel
theorem dX0_growSelection_50 : decode cX0_growSelection 50 = .ok (.getfield 19, 3) := by decide +kernel
theorem dX0_growSelection_53 : decode cX0_growSelection 53 = .ok (.iload_n 2, 1) := by decide +kernel
theorem dX0_growSelection_54 : decode cX0_growSelection 54 = .ok (.if_icmp .ne 7, 3) := by decide +kernel
theorem dX0_growSelection_57 : decode cX0_growSelection 57 = .ok (.iconst 1, 1) := by decide +kernel
theorem dX0_growSelection_58 : decode cX0_growSelection 58 = .ok (.goto 4, 3) := by decide +kernel
theorem dX0_growSelection_61 : decode cX0_growSelection 61 = .ok (.iconst 0, 1) := by decide +kernel
theorem dX0_growSelection_62 : decode cX0_growSelection 62 = .ok (.istore_n 3, 1) := by decide +kernel
theorem dX0_growSelection_63 : decode cX0_growSelection 63 = .ok (.iload_n 3, 1) := by decide +kernel
theorem dX0_growSelection_64 : decode cX0_growSelection 64 = .ok (.ifCond .ne 11, 3) := by decide +kernel
theorem dX0_growSelection_67 : decode cX0_growSelection 67 = .ok (.aload_n 0, 1) := by decide +kernel
theorem dX0_growSelection_68 : decode cX0_growSelection 68 = .ok (.iload_n 1, 1) := by decide +kernel
theorem dX0_growSelection_69 : decode cX0_growSelection 69 = .ok (.iload_n 2, 1) := by decide +kernel
theorem dX0_growSelection_70 : decode cX0_growSelection 70 = .ok (.invokevirtual 73, 3) := by decide +kernel
theorem dX0_growSelection_73 : decode cX0_growSelection 73 = .ok (.iconst 1, 1) := by decide +kernel
theorem dX0_growSelection_74 : decode cX0_growSelection 74 = .ok (.ireturn, 1) := by decide +kernel
theorem dX0_growSelection_75 : decode cX0_growSelection 75 = .ok (.iload_n 1, 1) := by decide +kernel
theorem dX0_growSelection_76 : decode cX0_growSelection 76 = .ok (.ifCond .ne 5, 3) := by decide +kernel
theorem dX0_growSelection_79 : decode cX0_growSelection 79 = .ok (.iconst 0, 1) := by decide +kernel
theorem dX0_growSelection_80 : decode cX0_growSelection 80 = .ok (.ireturn, 1) := by decide +kernel
theorem dX0_growSelection_81 : decode cX0_growSelection 81 = .ok (.aload_n 0, 1) := by decide +kernel
theorem dX0_growSelection_82 : decode cX0_growSelection 82 = .ok (.iload_n 1, 1) := by decide +kernel
theorem dX0_growSelection_83 : decode cX0_growSelection 83 = .ok (.invokevirtual 77, 3) := by decide +kernel
theorem dX0_growSelection_86 : decode cX0_growSelection 86 = .ok (.istore 4, 2) := by decide +kernel
theorem dX0_growSelection_88 : decode cX0_growSelection 88 = .ok (.aload_n 0, 1) := by decide +kernel
theorem dX0_growSelection_89 : decode cX0_growSelection 89 = .ok (.iload 4, 2) := by decide +kernel
theorem dX0_growSelection_91 : decode cX0_growSelection 91 = .ok (.aload_n 0, 1) := by decide +kernel
theorem dX0_growSelection_92 : decode cX0_growSelection 92 = .ok (.iload 4, 2) := by decide +kernel
theorem dX0_growSelection_94 : decode cX0_growSelection 94 = .ok (.invokevirtual 57, 3) := by decide +kernel
theorem dX0_growSelection_97 : decode cX0_growSelection 97 = .ok (.invokevirtual 73, 3) := by decide +kernel
theorem dX0_growSelection_100 : decode cX0_growSelection 100 = .ok (.iconst 1, 1) := by decide +kernel
theorem dX0_growSelection_101 : decode cX0_growSelection 101 = .ok (.ireturn, 1) := by decide +kernel
theorem dX0_verticalGoal_0 : decode cX0_verticalGoal 0 = .ok (.aload_n 0, 1) := by decide +kernel
theorem dX0_verticalGoal_1 : decode cX0_verticalGoal 1 = .ok (.iload_n 1, 1) := by decide +kernel
theorem dX0_verticalGoal_2 : decode cX0_verticalGoal 2 = .ok (.invokevirtual 80, 3) := by decide +kernel
theorem dX0_verticalGoal_5 : decode cX0_verticalGoal 5 = .ok (.istore_n 2, 1) := by decide +kernel
theorem dX0_verticalGoal_6 : decode cX0_verticalGoal 6 = .ok (.iload_n 2, 1) := by decide +kernel
theorem dX0_verticalGoal_7 : decode cX0_verticalGoal 7 = .ok (.bipush (-9), 2) := by decide +kernel
theorem dX0_verticalGoal_9 : decode cX0_verticalGoal 9 = .ok (.if_icmp .eq 5, 3) := by decide +kernel
theorem dX0_verticalGoal_12 : decode cX0_verticalGoal 12 = .ok (.iload_n 2, 1) := by decide +kernel
theorem dX0_verticalGoal_13 : decode cX0_verticalGoal 13 = .ok (.ireturn, 1) := by decide +kernel
theorem dX0_verticalGoal_14 : decode cX0_verticalGoal 14 = .ok (.iload_n 1, 1) := by decide +kernel
theorem dX0_verticalGoal_15 : decode cX0_verticalGoal 15 = .ok (.ifCond .eq 7, 3) := by decide +kernel
theorem dX0_verticalGoal_18 : decode cX0_verticalGoal 18 = .ok (.iconst 2, 1) := by decide +kernel
theorem dX0_verticalGoal_19 : decode cX0_verticalGoal 19 = .ok (.goto 4, 3) := by decide +kernel
theorem dX0_verticalGoal_22 : decode cX0_verticalGoal 22 = .ok (.iconst 3, 1) := by decide +kernel
theorem dX0_verticalGoal_23 : decode cX0_verticalGoal 23 = .ok (.istore_n 3, 1) := by decide +kernel
theorem dX0_verticalGoal_24 : decode cX0_verticalGoal 24 = .ok (.aload_n 0, 1) := by decide +kernel
theorem dX0_verticalGoal_25 : decode cX0_verticalGoal 25 = .ok (.aload_n 0, 1) := by decide +kernel
theorem dX0_verticalGoal_26 : decode cX0_verticalGoal 26 = .ok (.getfield 19, 3) := by decide +kernel
theorem dX0_verticalGoal_29 : decode cX0_verticalGoal 29 = .ok (.invokevirtual 51, 3) := by decide +kernel
theorem dX0_verticalGoal_32 : decode cX0_verticalGoal 32 = .ok (.iload_n 3, 1) := by decide +kernel
theorem dX0_verticalGoal_33 : decode cX0_verticalGoal 33 = .ok (.if_icmp .ne 10, 3) := by decide +kernel
theorem dX0_verticalGoal_36 : decode cX0_verticalGoal 36 = .ok (.aload_n 0, 1) := by decide +kernel
theorem dX0_verticalGoal_37 : decode cX0_verticalGoal 37 = .ok (.getfield 19, 3) := by decide +kernel
theorem dX0_verticalGoal_40 : decode cX0_verticalGoal 40 = .ok (.iconst 1, 1) := by decide +kernel
theorem dX0_verticalGoal_41 : decode cX0_verticalGoal 41 = .ok (.iadd, 1) := by decide +kernel
theorem dX0_verticalGoal_42 : decode cX0_verticalGoal 42 = .ok (.ireturn, 1) := by decide +kernel
theorem dX0_verticalGoal_43 : decode cX0_verticalGoal 43 = .ok (.iload_n 1, 1) := by decide +kernel
theorem dX0_verticalGoal_44 : decode cX0_verticalGoal 44 = .ok (.ifCond .eq 7, 3) := by decide +kernel
theorem dX0_verticalGoal_47 : decode cX0_verticalGoal 47 = .ok (.iconst 3, 1) := by decide +kernel
theorem dX0_verticalGoal_48 : decode cX0_verticalGoal 48 = .ok (.goto 4, 3) := by decide +kernel
theorem dX0_verticalGoal_51 : decode cX0_verticalGoal 51 = .ok (.iconst 2, 1) := by decide +kernel
theorem dX0_verticalGoal_52 : decode cX0_verticalGoal 52 = .ok (.istore 4, 2) := by decide +kernel
theorem dX0_verticalGoal_54 : decode cX0_verticalGoal 54 = .ok (.aload_n 0, 1) := by decide +kernel
theorem dX0_verticalGoal_55 : decode cX0_verticalGoal 55 = .ok (.aload_n 0, 1) := by decide +kernel
theorem dX0_verticalGoal_56 : decode cX0_verticalGoal 56 = .ok (.aload_n 0, 1) := by decide +kernel
theorem dX0_verticalGoal_57 : decode cX0_verticalGoal 57 = .ok (.getfield 19, 3) := by decide +kernel
theorem dX0_verticalGoal_60 : decode cX0_verticalGoal 60 = .ok (.invokevirtual 60, 3) := by decide +kernel
theorem dX0_verticalGoal_63 : decode cX0_verticalGoal 63 = .ok (.invokevirtual 84, 3) := by decide +kernel
theorem dX0_verticalGoal_66 : decode cX0_verticalGoal 66 = .ok (.iload 4, 2) := by decide +kernel
theorem dX0_verticalGoal_68 : decode cX0_verticalGoal 68 = .ok (.if_icmp .ne 14, 3) := by decide +kernel
theorem dX0_verticalGoal_71 : decode cX0_verticalGoal 71 = .ok (.aload_n 0, 1) := by decide +kernel
theorem dX0_verticalGoal_72 : decode cX0_verticalGoal 72 = .ok (.aload_n 0, 1) := by decide +kernel
theorem dX0_verticalGoal_73 : decode cX0_verticalGoal 73 = .ok (.getfield 19, 3) := by decide +kernel
theorem dX0_verticalGoal_76 : decode cX0_verticalGoal 76 = .ok (.invokevirtual 63, 3) := by decide +kernel
theorem dX0_verticalGoal_79 : decode cX0_verticalGoal 79 = .ok (.iconst 1, 1) := by decide +kernel
theorem dX0_verticalGoal_80 : decode cX0_verticalGoal 80 = .ok (.iadd, 1) := by decide +kernel
theorem dX0_verticalGoal_81 : decode cX0_verticalGoal 81 = .ok (.ireturn, 1) := by decide +kernel
theorem dX0_verticalGoal_82 : decode cX0_verticalGoal 82 = .ok (.bipush (-9), 2) := by decide +kernel
theorem dX0_verticalGoal_84 : decode cX0_verticalGoal 84 = .ok (.ireturn, 1) := by decide +kernel
theorem dX0_goalInFraction_0 : decode cX0_goalInFraction 0 = .ok (.aload_n 0, 1) := by decide +kernel
theorem dX0_goalInFraction_1 : decode cX0_goalInFraction 1 = .ok (.getfield 19, 3) := by decide +kernel
theorem dX0_goalInFraction_4 : decode cX0_goalInFraction 4 = .ok (.istore_n 2, 1) := by decide +kernel
theorem dX0_goalInFraction_5 : decode cX0_goalInFraction 5 = .ok (.iconst 0, 1) := by decide +kernel
theorem dX0_goalInFraction_6 : decode cX0_goalInFraction 6 = .ok (.istore_n 3, 1) := by decide +kernel
theorem dX0_goalInFraction_7 : decode cX0_goalInFraction 7 = .ok (.iload_n 3, 1) := by decide +kernel
theorem dX0_goalInFraction_8 : decode cX0_goalInFraction 8 = .ok (.iconst 5, 1) := by decide +kernel
theorem dX0_goalInFraction_9 : decode cX0_goalInFraction 9 = .ok (.if_icmp .gt 104, 3) := by decide +kernel
theorem dX0_goalInFraction_12 : decode cX0_goalInFraction 12 = .ok (.aload_n 0, 1) := by decide +kernel
theorem dX0_goalInFraction_13 : decode cX0_goalInFraction 13 = .ok (.iload_n 2, 1) := by decide +kernel
theorem dX0_goalInFraction_14 : decode cX0_goalInFraction 14 = .ok (.invokevirtual 60, 3) := by decide +kernel
theorem dX0_goalInFraction_17 : decode cX0_goalInFraction 17 = .ok (.istore 4, 2) := by decide +kernel
theorem dX0_goalInFraction_19 : decode cX0_goalInFraction 19 = .ok (.iload 4, 2) := by decide +kernel
theorem dX0_goalInFraction_21 : decode cX0_goalInFraction 21 = .ok (.ifCond .ne 6, 3) := by decide +kernel
theorem dX0_goalInFraction_24 : decode cX0_goalInFraction 24 = .ok (.bipush (-9), 2) := by decide +kernel
theorem dX0_goalInFraction_26 : decode cX0_goalInFraction 26 = .ok (.ireturn, 1) := by decide +kernel
theorem dX0_goalInFraction_27 : decode cX0_goalInFraction 27 = .ok (.aload_n 0, 1) := by decide +kernel
theorem dX0_goalInFraction_28 : decode cX0_goalInFraction 28 = .ok (.iload 4, 2) := by decide +kernel
theorem dX0_goalInFraction_30 : decode cX0_goalInFraction 30 = .ok (.invokevirtual 77, 3) := by decide +kernel
theorem dX0_goalInFraction_33 : decode cX0_goalInFraction 33 = .ok (.istore 5, 2) := by decide +kernel
theorem dX0_goalInFraction_35 : decode cX0_goalInFraction 35 = .ok (.aload_n 0, 1) := by decide +kernel
theorem dX0_goalInFraction_36 : decode cX0_goalInFraction 36 = .ok (.iload 4, 2) := by decide +kernel
theorem dX0_goalInFraction_38 : decode cX0_goalInFraction 38 = .ok (.iconst 1, 1) := by decide +kernel
theorem dX0_goalInFraction_39 : decode cX0_goalInFraction 39 = .ok (.isub, 1) := by decide +kernel
theorem dX0_goalInFraction_40 : decode cX0_goalInFraction 40 = .ok (.invokevirtual 51, 3) := by decide +kernel
theorem dX0_goalInFraction_43 : decode cX0_goalInFraction 43 = .ok (.bipush 6, 2) := by decide +kernel
theorem dX0_goalInFraction_45 : decode cX0_goalInFraction 45 = .ok (.if_icmp .ne 7, 3) := by decide +kernel
theorem dX0_goalInFraction_48 : decode cX0_goalInFraction 48 = .ok (.iconst 1, 1) := by decide +kernel
theorem dX0_goalInFraction_49 : decode cX0_goalInFraction 49 = .ok (.goto 4, 3) := by decide +kernel
theorem dX0_goalInFraction_52 : decode cX0_goalInFraction 52 = .ok (.iconst 0, 1) := by decide +kernel
theorem dX0_goalInFraction_53 : decode cX0_goalInFraction 53 = .ok (.istore 6, 2) := by decide +kernel
theorem dX0_goalInFraction_55 : decode cX0_goalInFraction 55 = .ok (.aload_n 0, 1) := by decide +kernel
theorem dX0_goalInFraction_56 : decode cX0_goalInFraction 56 = .ok (.iload 5, 2) := by decide +kernel
theorem dX0_goalInFraction_58 : decode cX0_goalInFraction 58 = .ok (.invokevirtual 51, 3) := by decide +kernel
theorem dX0_goalInFraction_61 : decode cX0_goalInFraction 61 = .ok (.iconst 1, 1) := by decide +kernel
theorem dX0_goalInFraction_62 : decode cX0_goalInFraction 62 = .ok (.if_icmp .ne 42, 3) := by decide +kernel
theorem dX0_goalInFraction_65 : decode cX0_goalInFraction 65 = .ok (.iload 6, 2) := by decide +kernel
theorem dX0_goalInFraction_67 : decode cX0_goalInFraction 67 = .ok (.iload_n 1, 1) := by decide +kernel
theorem dX0_goalInFraction_68 : decode cX0_goalInFraction 68 = .ok (.if_icmp .ne 36, 3) := by decide +kernel
theorem dX0_goalInFraction_71 : decode cX0_goalInFraction 71 = .ok (.iload_n 1, 1) := by decide +kernel
theorem dX0_goalInFraction_72 : decode cX0_goalInFraction 72 = .ok (.ifCond .eq 10, 3) := by decide +kernel
theorem dX0_goalInFraction_75 : decode cX0_goalInFraction 75 = .ok (.iload 5, 2) := by decide +kernel
theorem dX0_goalInFraction_77 : decode cX0_goalInFraction 77 = .ok (.iconst 1, 1) := by decide +kernel
theorem dX0_goalInFraction_78 : decode cX0_goalInFraction 78 = .ok (.iadd, 1) := by decide +kernel
theorem dX0_goalInFraction_79 : decode cX0_goalInFraction 79 = .ok (.goto 9, 3) := by decide +kernel
theorem dX0_goalInFraction_82 : decode cX0_goalInFraction 82 = .ok (.aload_n 0, 1) := by decide +kernel
theorem dX0_goalInFraction_83 : decode cX0_goalInFraction 83 = .ok (.iload 5, 2) := by decide +kernel
theorem dX0_goalInFraction_85 : decode cX0_goalInFraction 85 = .ok (.invokevirtual 87, 3) := by decide +kernel
theorem dX0_goalInFraction_88 : decode cX0_goalInFraction 88 = .ok (.istore 7, 2) := by decide +kernel
theorem dX0_goalInFraction_90 : decode cX0_goalInFraction 90 = .ok (.aload_n 0, 1) := by decide +kernel
theorem dX0_goalInFraction_91 : decode cX0_goalInFraction 91 = .ok (.iload 7, 2) := by decide +kernel
theorem dX0_goalInFraction_93 : decode cX0_goalInFraction 93 = .ok (.aload_n 0, 1) := by decide +kernel
theorem dX0_goalInFraction_94 : decode cX0_goalInFraction 94 = .ok (.iload 4, 2) := by decide +kernel
theorem dX0_goalInFraction_96 : decode cX0_goalInFraction 96 = .ok (.iload_n 2, 1) := by decide +kernel
theorem dX0_goalInFraction_97 : decode cX0_goalInFraction 97 = .ok (.invokevirtual 25, 3) := by decide +kernel
theorem dX0_goalInFraction_100 : decode cX0_goalInFraction 100 = .ok (.invokevirtual 90, 3) := by decide +kernel
theorem dX0_goalInFraction_103 : decode cX0_goalInFraction 103 = .ok (.ireturn, 1) := by decide +kernel
theorem dX0_goalInFraction_104 : decode cX0_goalInFraction 104 = .ok (.iload 5, 2) := by decide +kernel
theorem dX0_goalInFraction_106 : decode cX0_goalInFraction 106 = .ok (.istore_n 2, 1) := by decide +kernel
theorem dX0_goalInFraction_107 : decode cX0_goalInFraction 107 = .ok (.iinc 3 1, 3) := by decide +kernel
theorem dX0_goalInFraction_110 : decode cX0_goalInFraction 110 = .ok (.goto (-103), 3) := by decide +kernel
theorem dX0_goalInFraction_113 : decode cX0_goalInFraction 113 = .ok (.bipush (-9), 2) := by decide +kernel
theorem dX0_goalInFraction_115 : decode cX0_goalInFraction 115 = .ok (.ireturn, 1) := by decide +kernel
theorem dX0_behindItems_0 : decode cX0_behindItems 0 = .ok (.iload_n 1, 1) := by decide +kernel
theorem dX0_behindItems_1 : decode cX0_behindItems 1 = .ok (.istore_n 3, 1) := by decide +kernel
theorem dX0_behindItems_2 : decode cX0_behindItems 2 = .ok (.iconst 0, 1) := by decide +kernel
theorem dX0_behindItems_3 : decode cX0_behindItems 3 = .ok (.istore 4, 2) := by decide +kernel
theorem dX0_behindItems_5 : decode cX0_behindItems 5 = .ok (.iload 4, 2) := by decide +kernel
theorem dX0_behindItems_7 : decode cX0_behindItems 7 = .ok (.iload_n 2, 1) := by decide +kernel
theorem dX0_behindItems_8 : decode cX0_behindItems 8 = .ok (.if_icmp .ge 26, 3) := by decide +kernel
theorem dX0_behindItems_11 : decode cX0_behindItems 11 = .ok (.aload_n 0, 1) := by decide +kernel
theorem dX0_behindItems_12 : decode cX0_behindItems 12 = .ok (.iload_n 3, 1) := by decide +kernel
theorem dX0_behindItems_13 : decode cX0_behindItems 13 = .ok (.invokevirtual 51, 3) := by decide +kernel
theorem dX0_behindItems_16 : decode cX0_behindItems 16 = .ok (.invokestatic 54, 3) := by decide +kernel
theorem dX0_behindItems_19 : decode cX0_behindItems 19 = .ok (.ifCond .eq 15, 3) := by decide +kernel
theorem dX0_behindItems_22 : decode cX0_behindItems 22 = .ok (.aload_n 0, 1) := by decide +kernel
theorem dX0_behindItems_23 : decode cX0_behindItems 23 = .ok (.iload_n 3, 1) := by decide +kernel
theorem dX0_behindItems_24 : decode cX0_behindItems 24 = .ok (.invokevirtual 57, 3) := by decide +kernel
theorem dX0_behindItems_27 : decode cX0_behindItems 27 = .ok (.istore_n 3, 1) := by decide +kernel
theorem dX0_behindItems_28 : decode cX0_behindItems 28 = .ok (.iinc 4 1, 3) := by decide +kernel
theorem dX0_behindItems_31 : decode cX0_behindItems 31 = .ok (.goto (-26), 3) := by decide +kernel
theorem dX0_behindItems_34 : decode cX0_behindItems 34 = .ok (.iload_n 3, 1) := by decide +kernel
theorem dX0_behindItems_35 : decode cX0_behindItems 35 = .ok (.ireturn, 1) := by decide +kernel
theorem dX0_canHold_0 : decode cX0_canHold 0 = .ok (.aload_n 0, 1) := by decide +kernel
theorem dX0_canHold_1 : decode cX0_canHold 1 = .ok (.iconst 0, 1) := by decide +kernel
theorem dX0_canHold_2 : decode cX0_canHold 2 = .ok (.aload_n 0, 1) := by decide +kernel
theorem dX0_canHold_3 : decode cX0_canHold 3 = .ok (.getfield 9, 3) := by decide +kernel
theorem dX0_canHold_6 : decode cX0_canHold 6 = .ok (.invokevirtual 29, 3) := by decide +kernel
theorem dX0_canHold_9 : decode cX0_canHold 9 = .ok (.aload_n 0, 1) := by decide +kernel
theorem dX0_canHold_10 : decode cX0_canHold 10 = .ok (.aload_n 0, 1) := by decide +kernel
theorem dX0_canHold_11 : decode cX0_canHold 11 = .ok (.getfield 22, 3) := by decide +kernel
theorem dX0_canHold_14 : decode cX0_canHold 14 = .ok (.aload_n 0, 1) := by decide +kernel
theorem dX0_canHold_15 : decode cX0_canHold 15 = .ok (.getfield 19, 3) := by decide +kernel
theorem dX0_canHold_18 : decode cX0_canHold 18 = .ok (.invokevirtual 29, 3) := by decide +kernel
theorem dX0_canHold_21 : decode cX0_canHold 21 = .ok (.isub, 1) := by decide +kernel
theorem dX0_canHold_22 : decode cX0_canHold 22 = .ok (.istore_n 3, 1) := by decide +kernel
theorem dX0_canHold_23 : decode cX0_canHold 23 = .ok (.iload_n 3, 1) := by decide +kernel
theorem dX0_canHold_24 : decode cX0_canHold 24 = .ok (.iload_n 1, 1) := by decide +kernel
theorem dX0_canHold_25 : decode cX0_canHold 25 = .ok (.iadd, 1) := by decide +kernel
theorem dX0_canHold_26 : decode cX0_canHold 26 = .ok (.bipush 60, 2) := by decide +kernel
theorem dX0_canHold_28 : decode cX0_canHold 28 = .ok (.if_icmp .gt 21, 3) := by decide +kernel
theorem dX0_canHold_31 : decode cX0_canHold 31 = .ok (.aload_n 0, 1) := by decide +kernel
theorem dX0_canHold_32 : decode cX0_canHold 32 = .ok (.aload_n 0, 1) := by decide +kernel
theorem dX0_canHold_33 : decode cX0_canHold 33 = .ok (.getfield 19, 3) := by decide +kernel
theorem dX0_canHold_36 : decode cX0_canHold 36 = .ok (.invokevirtual 93, 3) := by decide +kernel
theorem dX0_canHold_39 : decode cX0_canHold 39 = .ok (.iload_n 2, 1) := by decide +kernel
theorem dX0_canHold_40 : decode cX0_canHold 40 = .ok (.iadd, 1) := by decide +kernel
theorem dX0_canHold_41 : decode cX0_canHold 41 = .ok (.iconst 5, 1) := by decide +kernel
theorem dX0_canHold_42 : decode cX0_canHold 42 = .ok (.if_icmp .gt 7, 3) := by decide +kernel
theorem dX0_canHold_45 : decode cX0_canHold 45 = .ok (.iconst 1, 1) := by decide +kernel
theorem dX0_canHold_46 : decode cX0_canHold 46 = .ok (.goto 4, 3) := by decide +kernel
theorem dX0_canHold_49 : decode cX0_canHold 49 = .ok (.iconst 0, 1) := by decide +kernel
theorem dX0_canHold_50 : decode cX0_canHold 50 = .ok (.ireturn, 1) := by decide +kernel
theorem dX0_canHoldSymbol_0 : decode cX0_canHoldSymbol 0 = .ok (.aload_n 0, 1) := by decide +kernel
theorem dX0_canHoldSymbol_1 : decode cX0_canHoldSymbol 1 = .ok (.iconst 1, 1) := by decide +kernel
theorem dX0_canHoldSymbol_2 : decode cX0_canHoldSymbol 2 = .ok (.iconst 0, 1) := by decide +kernel
theorem dX0_canHoldSymbol_3 : decode cX0_canHoldSymbol 3 = .ok (.invokevirtual 96, 3) := by decide +kernel
theorem dX0_canHoldSymbol_6 : decode cX0_canHoldSymbol 6 = .ok (.ireturn, 1) := by decide +kernel
theorem dX0_canHoldStructure_0 : decode cX0_canHoldStructure 0 = .ok (.aload_n 0, 1) := by decide +kernel
theorem dX0_canHoldStructure_1 : decode cX0_canHoldStructure 1 = .ok (.iconst 1, 1) := by decide +kernel
theorem dX0_canHoldStructure_2 : decode cX0_canHoldStructure 2 = .ok (.aload_n 0, 1) := by decide +kernel
theorem dX0_canHoldStructure_3 : decode cX0_canHoldStructure 3 = .ok (.aload_n 0, 1) := by decide +kernel
theorem dX0_canHoldStructure_4 : decode cX0_canHoldStructure 4 = .ok (.getfield 22, 3) := by decide +kernel
theorem dX0_canHoldStructure_7 : decode cX0_canHoldStructure 7 = .ok (.aload_n 0, 1) := by decide +kernel
theorem dX0_canHoldStructure_8 : decode cX0_canHoldStructure 8 = .ok (.getfield 19, 3) := by decide +kernel
theorem dX0_canHoldStructure_11 : decode cX0_canHoldStructure 11 = .ok (.invokevirtual 29, 3) := by decide +kernel
theorem dX0_canHoldStructure_14 : decode cX0_canHoldStructure 14 = .ok (.iadd, 1) := by decide +kernel
theorem dX0_canHoldStructure_15 : decode cX0_canHoldStructure 15 = .ok (.iconst 1, 1) := by decide +kernel
theorem dX0_canHoldStructure_16 : decode cX0_canHoldStructure 16 = .ok (.aload_n 0, 1) := by decide +kernel
theorem dX0_canHoldStructure_17 : decode cX0_canHoldStructure 17 = .ok (.aload_n 0, 1) := by decide +kernel
theorem dX0_canHoldStructure_18 : decode cX0_canHoldStructure 18 = .ok (.getfield 22, 3) := by decide +kernel
theorem dX0_canHoldStructure_21 : decode cX0_canHoldStructure 21 = .ok (.aload_n 0, 1) := by decide +kernel
theorem dX0_canHoldStructure_22 : decode cX0_canHoldStructure 22 = .ok (.getfield 19, 3) := by decide +kernel
theorem dX0_canHoldStructure_25 : decode cX0_canHoldStructure 25 = .ok (.invokevirtual 100, 3) := by decide +kernel
theorem dX0_canHoldStructure_28 : decode cX0_canHoldStructure 28 = .ok (.iadd, 1) := by decide +kernel
theorem dX0_canHoldStructure_29 : decode cX0_canHoldStructure 29 = .ok (.invokevirtual 96, 3) := by decide +kernel
theorem dX0_canHoldStructure_32 : decode cX0_canHoldStructure 32 = .ok (.ireturn, 1) := by decide +kernel
theorem dX0_canHoldAll_0 : decode cX0_canHoldAll 0 = .ok (.aload_n 0, 1) := by decide +kernel
theorem dX0_canHoldAll_1 : decode cX0_canHoldAll 1 = .ok (.aload_n 1, 1) := by decide +kernel
theorem dX0_canHoldAll_2 : decode cX0_canHoldAll 2 = .ok (.invokevirtual 103, 3) := by decide +kernel
theorem dX0_canHoldAll_5 : decode cX0_canHoldAll 5 = .ok (.aload_n 1, 1) := by decide +kernel
theorem dX0_canHoldAll_6 : decode cX0_canHoldAll 6 = .ok (.iconst 0, 1) := by decide +kernel
theorem dX0_canHoldAll_7 : decode cX0_canHoldAll 7 = .ok (.aload_n 1, 1) := by decide +kernel
theorem dX0_canHoldAll_8 : decode cX0_canHoldAll 8 = .ok (.getfield 107, 3) := by decide +kernel
theorem dX0_canHoldAll_11 : decode cX0_canHoldAll 11 = .ok (.invokevirtual 108, 3) := by decide +kernel
theorem dX0_canHoldAll_14 : decode cX0_canHoldAll 14 = .ok (.invokevirtual 96, 3) := by decide +kernel
theorem dX0_canHoldAll_17 : decode cX0_canHoldAll 17 = .ok (.ireturn, 1) := by decide +kernel
theorem dX0_removeSelection_0 : decode cX0_removeSelection 0 = .ok (.aload_n 0, 1) := by decide +kernel
theorem dX0_removeSelection_1 : decode cX0_removeSelection 1 = .ok (.aload_n 0, 1) := by decide +kernel
theorem dX0_removeSelection_2 : decode cX0_removeSelection 2 = .ok (.getfield 22, 3) := by decide +kernel
theorem dX0_removeSelection_5 : decode cX0_removeSelection 5 = .ok (.aload_n 0, 1) := by decide +kernel
theorem dX0_removeSelection_6 : decode cX0_removeSelection 6 = .ok (.getfield 19, 3) := by decide +kernel
theorem dX0_removeSelection_9 : decode cX0_removeSelection 9 = .ok (.invokevirtual 109, 3) := by decide +kernel
theorem dX0_removeSelection_12 : decode cX0_removeSelection 12 = .ok (.aload_n 0, 1) := by decide +kernel
theorem dX0_removeSelection_13 : decode cX0_removeSelection 13 = .ok (.aload_n 0, 1) := by decide +kernel
theorem dX0_removeSelection_14 : decode cX0_removeSelection 14 = .ok (.getfield 22, 3) := by decide +kernel
theorem dX0_removeSelection_17 : decode cX0_removeSelection 17 = .ok (.invokevirtual 40, 3) := by decide +kernel
theorem dX0_removeSelection_20 : decode cX0_removeSelection 20 = .ok (.return_, 1) := by decide +kernel
theorem dX0_putSymbol_0 : decode cX0_putSymbol 0 = .ok (.aload_n 0, 1) := by decide +kernel
theorem dX0_putSymbol_1 : decode cX0_putSymbol 1 = .ok (.invokevirtual 112, 3) := by decide +kernel
theorem dX0_putSymbol_4 : decode cX0_putSymbol 4 = .ok (.aload_n 0, 1) := by decide +kernel
theorem dX0_putSymbol_5 : decode cX0_putSymbol 5 = .ok (.aload_n 0, 1) := by decide +kernel
theorem dX0_putSymbol_6 : decode cX0_putSymbol 6 = .ok (.getfield 19, 3) := by decide +kernel
theorem dX0_putSymbol_9 : decode cX0_putSymbol 9 = .ok (.iload_n 1, 1) := by decide +kernel
theorem dX0_putSymbol_10 : decode cX0_putSymbol 10 = .ok (.invokevirtual 116, 3) := by decide +kernel
theorem dX0_putSymbol_13 : decode cX0_putSymbol 13 = .ok (.aload_n 0, 1) := by decide +kernel
theorem dX0_putSymbol_14 : decode cX0_putSymbol 14 = .ok (.aload_n 0, 1) := by decide +kernel
theorem dX0_putSymbol_15 : decode cX0_putSymbol 15 = .ok (.getfield 19, 3) := by decide +kernel
theorem dX0_putSymbol_18 : decode cX0_putSymbol 18 = .ok (.iconst 1, 1) := by decide +kernel
theorem dX0_putSymbol_19 : decode cX0_putSymbol 19 = .ok (.iadd, 1) := by decide +kernel
theorem dX0_putSymbol_20 : decode cX0_putSymbol 20 = .ok (.invokevirtual 40, 3) := by decide +kernel
theorem dX0_putSymbol_23 : decode cX0_putSymbol 23 = .ok (.return_, 1) := by decide +kernel
theorem dX0_putAll_0 : decode cX0_putAll 0 = .ok (.aload_n 0, 1) := by decide +kernel
theorem dX0_putAll_1 : decode cX0_putAll 1 = .ok (.invokevirtual 112, 3) := by decide +kernel
theorem dX0_putAll_4 : decode cX0_putAll 4 = .ok (.aload_n 0, 1) := by decide +kernel
theorem dX0_putAll_5 : decode cX0_putAll 5 = .ok (.aload_n 0, 1) := by decide +kernel
theorem dX0_putAll_6 : decode cX0_putAll 6 = .ok (.getfield 19, 3) := by decide +kernel
theorem dX0_putAll_9 : decode cX0_putAll 9 = .ok (.aload_n 1, 1) := by decide +kernel
theorem dX0_putAll_10 : decode cX0_putAll 10 = .ok (.invokevirtual 119, 3) := by decide +kernel
theorem dX0_putAll_13 : decode cX0_putAll 13 = .ok (.aload_n 0, 1) := by decide +kernel
theorem dX0_putAll_14 : decode cX0_putAll 14 = .ok (.aload_n 0, 1) := by decide +kernel
theorem dX0_putAll_15 : decode cX0_putAll 15 = .ok (.getfield 19, 3) := by decide +kernel
theorem dX0_putAll_18 : decode cX0_putAll 18 = .ok (.aload_n 1, 1) := by decide +kernel
theorem dX0_putAll_19 : decode cX0_putAll 19 = .ok (.getfield 107, 3) := by decide +kernel
theorem dX0_putAll_22 : decode cX0_putAll 22 = .ok (.iadd, 1) := by decide +kernel
theorem dX0_putAll_23 : decode cX0_putAll 23 = .ok (.invokevirtual 40, 3) := by decide +kernel
theorem dX0_putAll_26 : decode cX0_putAll 26 = .ok (.return_, 1) := by decide +kernel
theorem dX0_enclose_0 : decode cX0_enclose 0 = .ok (.aload_n 0, 1) := by decide +kernel
theorem dX0_enclose_1 : decode cX0_enclose 1 = .ok (.invokevirtual 66, 3) := by decide +kernel
theorem dX0_enclose_4 : decode cX0_enclose 4 = .ok (.ifCond .ne 7, 3) := by decide +kernel
theorem dX0_enclose_7 : decode cX0_enclose 7 = .ok (.iconst 1, 1) := by decide +kernel
theorem dX0_enclose_8 : decode cX0_enclose 8 = .ok (.goto 4, 3) := by decide +kernel
theorem dX0_enclose_11 : decode cX0_enclose 11 = .ok (.iconst 0, 1) := by decide +kernel
theorem dX0_enclose_12 : decode cX0_enclose 12 = .ok (.istore_n 2, 1) := by decide +kernel
theorem dX0_enclose_13 : decode cX0_enclose 13 = .ok (.aload_n 0, 1) := by decide +kernel
theorem dX0_enclose_14 : decode cX0_enclose 14 = .ok (.getfield 22, 3) := by decide +kernel
theorem dX0_enclose_17 : decode cX0_enclose 17 = .ok (.iconst 1, 1) := by decide +kernel
theorem dX0_enclose_18 : decode cX0_enclose 18 = .ok (.iadd, 1) := by decide +kernel
theorem dX0_enclose_19 : decode cX0_enclose 19 = .ok (.istore_n 3, 1) := by decide +kernel
theorem dX0_enclose_20 : decode cX0_enclose 20 = .ok (.aload_n 0, 1) := by decide +kernel
theorem dX0_enclose_21 : decode cX0_enclose 21 = .ok (.getfield 19, 3) := by decide +kernel
theorem dX0_enclose_24 : decode cX0_enclose 24 = .ok (.iconst 1, 1) := by decide +kernel
theorem dX0_enclose_25 : decode cX0_enclose 25 = .ok (.iadd, 1) := by decide +kernel
theorem dX0_enclose_26 : decode cX0_enclose 26 = .ok (.istore 4, 2) := by decide +kernel
theorem dX0_enclose_28 : decode cX0_enclose 28 = .ok (.aload_n 0, 1) := by decide +kernel
theorem dX0_enclose_29 : decode cX0_enclose 29 = .ok (.aload_n 0, 1) := by decide +kernel
theorem dX0_enclose_30 : decode cX0_enclose 30 = .ok (.getfield 22, 3) := by decide +kernel
theorem dX0_enclose_33 : decode cX0_enclose 33 = .ok (.iload_n 1, 1) := by decide +kernel
theorem dX0_enclose_34 : decode cX0_enclose 34 = .ok (.invokevirtual 116, 3) := by decide +kernel
theorem dX0_enclose_37 : decode cX0_enclose 37 = .ok (.iload_n 1, 1) := by decide +kernel
theorem dX0_enclose_38 : decode cX0_enclose 38 = .ok (.iconst 1, 1) := by decide +kernel
theorem dX0_enclose_39 : decode cX0_enclose 39 = .ok (.if_icmp .ne 26, 3) := by decide +kernel
theorem dX0_enclose_42 : decode cX0_enclose 42 = .ok (.aload_n 0, 1) := by decide +kernel
theorem dX0_enclose_43 : decode cX0_enclose 43 = .ok (.iload 4, 2) := by decide +kernel
theorem dX0_enclose_45 : decode cX0_enclose 45 = .ok (.bipush 6, 2) := by decide +kernel
theorem dX0_enclose_47 : decode cX0_enclose 47 = .ok (.invokevirtual 116, 3) := by decide +kernel
theorem dX0_enclose_50 : decode cX0_enclose 50 = .ok (.aload_n 0, 1) := by decide +kernel
theorem dX0_enclose_51 : decode cX0_enclose 51 = .ok (.iload 4, 2) := by decide +kernel
theorem dX0_enclose_53 : decode cX0_enclose 53 = .ok (.iconst 1, 1) := by decide +kernel
theorem dX0_enclose_54 : decode cX0_enclose 54 = .ok (.iadd, 1) := by decide +kernel
theorem dX0_enclose_55 : decode cX0_enclose 55 = .ok (.bipush 10, 2) := by decide +kernel
theorem dX0_enclose_57 : decode cX0_enclose 57 = .ok (.iload_n 1, 1) := by decide +kernel
theorem dX0_enclose_58 : decode cX0_enclose 58 = .ok (.iadd, 1) := by decide +kernel
theorem dX0_enclose_59 : decode cX0_enclose 59 = .ok (.invokevirtual 116, 3) := by decide +kernel
theorem dX0_enclose_62 : decode cX0_enclose 62 = .ok (.goto 13, 3) := by decide +kernel
theorem dX0_enclose_65 : decode cX0_enclose 65 = .ok (.aload_n 0, 1) := by decide +kernel
theorem dX0_enclose_66 : decode cX0_enclose 66 = .ok (.iload 4, 2) := by decide +kernel
theorem dX0_enclose_68 : decode cX0_enclose 68 = .ok (.bipush 10, 2) := by decide +kernel
theorem dX0_enclose_70 : decode cX0_enclose 70 = .ok (.iload_n 1, 1) := by decide +kernel
theorem dX0_enclose_71 : decode cX0_enclose 71 = .ok (.iadd, 1) := by decide +kernel
theorem dX0_enclose_72 : decode cX0_enclose 72 = .ok (.invokevirtual 116, 3) := by decide +kernel
theorem dX0_enclose_75 : decode cX0_enclose 75 = .ok (.aload_n 0, 1) := by decide +kernel
theorem dX0_enclose_76 : decode cX0_enclose 76 = .ok (.iload_n 2, 1) := by decide +kernel
theorem dX0_enclose_77 : decode cX0_enclose 77 = .ok (.ifCond .eq 7, 3) := by decide +kernel
theorem dX0_enclose_80 : decode cX0_enclose 80 = .ok (.iload_n 3, 1) := by decide +kernel
theorem dX0_enclose_81 : decode cX0_enclose 81 = .ok (.goto 7, 3) := by decide +kernel
theorem dX0_enclose_84 : decode cX0_enclose 84 = .ok (.iload 4, 2) := by decide +kernel
theorem dX0_enclose_86 : decode cX0_enclose 86 = .ok (.iconst 1, 1) := by decide +kernel
theorem dX0_enclose_87 : decode cX0_enclose 87 = .ok (.iadd, 1) := by decide +kernel
theorem dX0_enclose_88 : decode cX0_enclose 88 = .ok (.invokevirtual 40, 3) := by decide +kernel
theorem dX0_enclose_91 : decode cX0_enclose 91 = .ok (.return_, 1) := by decide +kernel
theorem dX0_canDeleteBack_0 : decode cX0_canDeleteBack 0 = .ok (.aload_n 0, 1) := by decide +kernel
theorem dX0_canDeleteBack_1 : decode cX0_canDeleteBack 1 = .ok (.invokevirtual 66, 3) := by decide +kernel
theorem dX0_canDeleteBack_4 : decode cX0_canDeleteBack 4 = .ok (.ifCond .ne 10, 3) := by decide +kernel
theorem dX0_canDeleteBack_7 : decode cX0_canDeleteBack 7 = .ok (.aload_n 0, 1) := by decide +kernel
theorem dX0_canDeleteBack_8 : decode cX0_canDeleteBack 8 = .ok (.getfield 19, 3) := by decide +kernel
theorem dX0_canDeleteBack_11 : decode cX0_canDeleteBack 11 = .ok (.ifCond .le 7, 3) := by decide +kernel
theorem dX0_canDeleteBack_14 : decode cX0_canDeleteBack 14 = .ok (.iconst 1, 1) := by decide +kernel
theorem dX0_canDeleteBack_15 : decode cX0_canDeleteBack 15 = .ok (.goto 4, 3) := by decide +kernel
theorem dX0_canDeleteBack_18 : decode cX0_canDeleteBack 18 = .ok (.iconst 0, 1) := by decide +kernel
theorem dX0_canDeleteBack_19 : decode cX0_canDeleteBack 19 = .ok (.ireturn, 1) := by decide +kernel
theorem dX0_deleteBack_0 : decode cX0_deleteBack 0 = .ok (.aload_n 0, 1) := by decide +kernel
theorem dX0_deleteBack_1 : decode cX0_deleteBack 1 = .ok (.invokevirtual 66, 3) := by decide +kernel
theorem dX0_deleteBack_4 : decode cX0_deleteBack 4 = .ok (.ifCond .eq 10, 3) := by decide +kernel
theorem dX0_deleteBack_7 : decode cX0_deleteBack 7 = .ok (.aload_n 0, 1) := by decide +kernel
theorem dX0_deleteBack_8 : decode cX0_deleteBack 8 = .ok (.invokevirtual 112, 3) := by decide +kernel
theorem dX0_deleteBack_11 : decode cX0_deleteBack 11 = .ok (.goto 40, 3) := by decide +kernel
theorem dX0_deleteBack_14 : decode cX0_deleteBack 14 = .ok (.aload_n 0, 1) := by decide +kernel
theorem dX0_deleteBack_15 : decode cX0_deleteBack 15 = .ok (.aload_n 0, 1) := by decide +kernel
theorem dX0_deleteBack_16 : decode cX0_deleteBack 16 = .ok (.getfield 19, 3) := by decide +kernel
theorem dX0_deleteBack_19 : decode cX0_deleteBack 19 = .ok (.invokevirtual 43, 3) := by decide +kernel
theorem dX0_deleteBack_22 : decode cX0_deleteBack 22 = .ok (.ifCond .eq 10, 3) := by decide +kernel
theorem dX0_deleteBack_25 : decode cX0_deleteBack 25 = .ok (.aload_n 0, 1) := by decide +kernel
theorem dX0_deleteBack_26 : decode cX0_deleteBack 26 = .ok (.invokevirtual 123, 3) := by decide +kernel
theorem dX0_deleteBack_29 : decode cX0_deleteBack 29 = .ok (.goto 22, 3) := by decide +kernel
theorem dX0_deleteBack_32 : decode cX0_deleteBack 32 = .ok (.aload_n 0, 1) := by decide +kernel
theorem dX0_deleteBack_33 : decode cX0_deleteBack 33 = .ok (.getfield 19, 3) := by decide +kernel
theorem dX0_deleteBack_36 : decode cX0_deleteBack 36 = .ok (.ifCond .le 15, 3) := by decide +kernel
theorem dX0_deleteBack_39 : decode cX0_deleteBack 39 = .ok (.aload_n 0, 1) := by decide +kernel
theorem dX0_deleteBack_40 : decode cX0_deleteBack 40 = .ok (.aload_n 0, 1) := by decide +kernel
theorem dX0_deleteBack_41 : decode cX0_deleteBack 41 = .ok (.aload_n 0, 1) := by decide +kernel
theorem dX0_deleteBack_42 : decode cX0_deleteBack 42 = .ok (.getfield 19, 3) := by decide +kernel
theorem dX0_deleteBack_45 : decode cX0_deleteBack 45 = .ok (.invokevirtual 77, 3) := by decide +kernel
theorem dX0_deleteBack_48 : decode cX0_deleteBack 48 = .ok (.invokevirtual 126, 3) := by decide +kernel
theorem dX0_deleteBack_51 : decode cX0_deleteBack 51 = .ok (.return_, 1) := by decide +kernel
theorem dX0_deleteItemBefore_0 : decode cX0_deleteItemBefore 0 = .ok (.aload_n 0, 1) := by decide +kernel
theorem dX0_deleteItemBefore_1 : decode cX0_deleteItemBefore 1 = .ok (.aload_n 0, 1) := by decide +kernel
theorem dX0_deleteItemBefore_2 : decode cX0_deleteItemBefore 2 = .ok (.getfield 19, 3) := by decide +kernel
theorem dX0_deleteItemBefore_5 : decode cX0_deleteItemBefore 5 = .ok (.invokevirtual 47, 3) := by decide +kernel
theorem dX0_deleteItemBefore_8 : decode cX0_deleteItemBefore 8 = .ok (.istore_n 1, 1) := by decide +kernel
theorem dX0_deleteItemBefore_9 : decode cX0_deleteItemBefore 9 = .ok (.aload_n 0, 1) := by decide +kernel
theorem dX0_deleteItemBefore_10 : decode cX0_deleteItemBefore 10 = .ok (.iload_n 1, 1) := by decide +kernel
theorem dX0_deleteItemBefore_11 : decode cX0_deleteItemBefore 11 = .ok (.aload_n 0, 1) := by decide +kernel
theorem dX0_deleteItemBefore_12 : decode cX0_deleteItemBefore 12 = .ok (.getfield 19, 3) := by decide +kernel
theorem dX0_deleteItemBefore_15 : decode cX0_deleteItemBefore 15 = .ok (.invokevirtual 29, 3) := by decide +kernel
theorem dX0_deleteItemBefore_18 : decode cX0_deleteItemBefore 18 = .ok (.iconst 1, 1) := by decide +kernel
theorem dX0_deleteItemBefore_19 : decode cX0_deleteItemBefore 19 = .ok (.if_icmp .ne 20, 3) := by decide +kernel
theorem dX0_deleteItemBefore_22 : decode cX0_deleteItemBefore 22 = .ok (.aload_n 0, 1) := by decide +kernel
theorem dX0_deleteItemBefore_23 : decode cX0_deleteItemBefore 23 = .ok (.iload_n 1, 1) := by decide +kernel
theorem dX0_deleteItemBefore_24 : decode cX0_deleteItemBefore 24 = .ok (.aload_n 0, 1) := by decide +kernel
theorem dX0_deleteItemBefore_25 : decode cX0_deleteItemBefore 25 = .ok (.getfield 19, 3) := by decide +kernel
theorem dX0_deleteItemBefore_28 : decode cX0_deleteItemBefore 28 = .ok (.invokevirtual 109, 3) := by decide +kernel
theorem dX0_deleteItemBefore_31 : decode cX0_deleteItemBefore 31 = .ok (.aload_n 0, 1) := by decide +kernel
theorem dX0_deleteItemBefore_32 : decode cX0_deleteItemBefore 32 = .ok (.iload_n 1, 1) := by decide +kernel
theorem dX0_deleteItemBefore_33 : decode cX0_deleteItemBefore 33 = .ok (.invokevirtual 40, 3) := by decide +kernel
theorem dX0_deleteItemBefore_36 : decode cX0_deleteItemBefore 36 = .ok (.goto 13, 3) := by decide +kernel
theorem dX0_deleteItemBefore_39 : decode cX0_deleteItemBefore 39 = .ok (.aload_n 0, 1) := by decide +kernel
theorem dX0_deleteItemBefore_40 : decode cX0_deleteItemBefore 40 = .ok (.aload_n 0, 1) := by decide +kernel
theorem dX0_deleteItemBefore_41 : decode cX0_deleteItemBefore 41 = .ok (.getfield 19, 3) := by decide +kernel
theorem dX0_deleteItemBefore_44 : decode cX0_deleteItemBefore 44 = .ok (.iconst 1, 1) := by decide +kernel
theorem dX0_deleteItemBefore_45 : decode cX0_deleteItemBefore 45 = .ok (.isub, 1) := by decide +kernel
theorem dX0_deleteItemBefore_46 : decode cX0_deleteItemBefore 46 = .ok (.invokevirtual 40, 3) := by decide +kernel
theorem dX0_deleteItemBefore_49 : decode cX0_deleteItemBefore 49 = .ok (.return_, 1) := by decide +kernel
theorem dX0_dissolve_0 : decode cX0_dissolve 0 = .ok (.aload_n 0, 1) := by decide +kernel
theorem dX0_dissolve_1 : decode cX0_dissolve 1 = .ok (.iload_n 1, 1) := by decide +kernel
theorem dX0_dissolve_2 : decode cX0_dissolve 2 = .ok (.invokevirtual 57, 3) := by decide +kernel
theorem dX0_dissolve_5 : decode cX0_dissolve 5 = .ok (.istore_n 2, 1) := by decide +kernel
theorem dX0_dissolve_6 : decode cX0_dissolve 6 = .ok (.aload_n 0, 1) := by decide +kernel
theorem dX0_dissolve_7 : decode cX0_dissolve 7 = .ok (.iload_n 2, 1) := by decide +kernel
theorem dX0_dissolve_8 : decode cX0_dissolve 8 = .ok (.iconst 1, 1) := by decide +kernel
theorem dX0_dissolve_9 : decode cX0_dissolve 9 = .ok (.isub, 1) := by decide +kernel
theorem dX0_dissolve_10 : decode cX0_dissolve 10 = .ok (.iload_n 2, 1) := by decide +kernel
theorem dX0_dissolve_11 : decode cX0_dissolve 11 = .ok (.invokevirtual 109, 3) := by decide +kernel
theorem dX0_dissolve_14 : decode cX0_dissolve 14 = .ok (.aload_n 0, 1) := by decide +kernel
theorem dX0_dissolve_15 : decode cX0_dissolve 15 = .ok (.getfield 19, 3) := by decide +kernel
theorem dX0_dissolve_18 : decode cX0_dissolve 18 = .ok (.iconst 1, 1) := by decide +kernel
theorem dX0_dissolve_19 : decode cX0_dissolve 19 = .ok (.isub, 1) := by decide +kernel
theorem dX0_dissolve_20 : decode cX0_dissolve 20 = .ok (.istore_n 3, 1) := by decide +kernel
theorem dX0_dissolve_21 : decode cX0_dissolve 21 = .ok (.aload_n 0, 1) := by decide +kernel
theorem dX0_dissolve_22 : decode cX0_dissolve 22 = .ok (.iload_n 1, 1) := by decide +kernel
theorem dX0_dissolve_23 : decode cX0_dissolve 23 = .ok (.invokevirtual 51, 3) := by decide +kernel
theorem dX0_dissolve_26 : decode cX0_dissolve 26 = .ok (.iconst 1, 1) := by decide +kernel
theorem dX0_dissolve_27 : decode cX0_dissolve 27 = .ok (.if_icmp .ne 37, 3) := by decide +kernel
theorem dX0_dissolve_30 : decode cX0_dissolve 30 = .ok (.aload_n 0, 1) := by decide +kernel
theorem dX0_dissolve_31 : decode cX0_dissolve 31 = .ok (.iload_n 1, 1) := by decide +kernel
theorem dX0_dissolve_32 : decode cX0_dissolve 32 = .ok (.invokevirtual 87, 3) := by decide +kernel
theorem dX0_dissolve_35 : decode cX0_dissolve 35 = .ok (.istore 4, 2) := by decide +kernel
theorem dX0_dissolve_37 : decode cX0_dissolve 37 = .ok (.aload_n 0, 1) := by decide +kernel
theorem dX0_dissolve_38 : decode cX0_dissolve 38 = .ok (.iload 4, 2) := by decide +kernel
theorem dX0_dissolve_40 : decode cX0_dissolve 40 = .ok (.iconst 1, 1) := by decide +kernel
theorem dX0_dissolve_41 : decode cX0_dissolve 41 = .ok (.isub, 1) := by decide +kernel
theorem dX0_dissolve_42 : decode cX0_dissolve 42 = .ok (.iload 4, 2) := by decide +kernel
theorem dX0_dissolve_44 : decode cX0_dissolve 44 = .ok (.invokevirtual 109, 3) := by decide +kernel
theorem dX0_dissolve_47 : decode cX0_dissolve 47 = .ok (.iload 4, 2) := by decide +kernel
theorem dX0_dissolve_49 : decode cX0_dissolve 49 = .ok (.aload_n 0, 1) := by decide +kernel
theorem dX0_dissolve_50 : decode cX0_dissolve 50 = .ok (.getfield 19, 3) := by decide +kernel
theorem dX0_dissolve_53 : decode cX0_dissolve 53 = .ok (.if_icmp .gt 9, 3) := by decide +kernel
theorem dX0_dissolve_56 : decode cX0_dissolve 56 = .ok (.iload_n 3, 1) := by decide +kernel
theorem dX0_dissolve_57 : decode cX0_dissolve 57 = .ok (.iconst 1, 1) := by decide +kernel
theorem dX0_dissolve_58 : decode cX0_dissolve 58 = .ok (.isub, 1) := by decide +kernel
theorem dX0_dissolve_59 : decode cX0_dissolve 59 = .ok (.goto 4, 3) := by decide +kernel
theorem dX0_dissolve_62 : decode cX0_dissolve 62 = .ok (.iload_n 3, 1) := by decide +kernel
theorem dX0_dissolve_63 : decode cX0_dissolve 63 = .ok (.istore_n 3, 1) := by decide +kernel
theorem dX0_dissolve_64 : decode cX0_dissolve 64 = .ok (.aload_n 0, 1) := by decide +kernel
theorem dX0_dissolve_65 : decode cX0_dissolve 65 = .ok (.iload_n 1, 1) := by decide +kernel
theorem dX0_dissolve_66 : decode cX0_dissolve 66 = .ok (.iload_n 1, 1) := by decide +kernel
theorem dX0_dissolve_67 : decode cX0_dissolve 67 = .ok (.iconst 1, 1) := by decide +kernel
theorem dX0_dissolve_68 : decode cX0_dissolve 68 = .ok (.iadd, 1) := by decide +kernel
theorem dX0_dissolve_69 : decode cX0_dissolve 69 = .ok (.invokevirtual 109, 3) := by decide +kernel
theorem dX0_dissolve_72 : decode cX0_dissolve 72 = .ok (.aload_n 0, 1) := by decide +kernel
theorem dX0_dissolve_73 : decode cX0_dissolve 73 = .ok (.iload_n 3, 1) := by decide +kernel
theorem dX0_dissolve_74 : decode cX0_dissolve 74 = .ok (.invokevirtual 40, 3) := by decide +kernel
theorem dX0_dissolve_77 : decode cX0_dissolve 77 = .ok (.return_, 1) := by decide +kernel
theorem dX1_init_0 : decode cX1_init 0 = .ok (.aload_n 0, 1) := by decide +kernel
theorem dX1_init_1 : decode cX1_init 1 = .ok (.invokespecial 3, 3) := by decide +kernel
theorem dX1_init_4 : decode cX1_init 4 = .ok (.aload_n 0, 1) := by decide +kernel
theorem dX1_init_5 : decode cX1_init 5 = .ok (.bipush 14, 2) := by decide +kernel
theorem dX1_init_7 : decode cX1_init 7 = .ok (.anewarray 9, 3) := by decide +kernel
theorem dX1_init_10 : decode cX1_init 10 = .ok (.putfield 11, 3) := by decide +kernel
theorem dX1_init_13 : decode cX1_init 13 = .ok (.iconst 0, 1) := by decide +kernel
theorem dX1_init_14 : decode cX1_init 14 = .ok (.istore_n 1, 1) := by decide +kernel
theorem dX1_init_15 : decode cX1_init 15 = .ok (.iload_n 1, 1) := by decide +kernel
theorem dX1_init_16 : decode cX1_init 16 = .ok (.aload_n 0, 1) := by decide +kernel
theorem dX1_init_17 : decode cX1_init 17 = .ok (.getfield 11, 3) := by decide +kernel
theorem dX1_init_20 : decode cX1_init 20 = .ok (.arraylength, 1) := by decide +kernel
theorem dX1_init_21 : decode cX1_init 21 = .ok (.if_icmp .ge 22, 3) := by decide +kernel
theorem dX1_init_24 : decode cX1_init 24 = .ok (.aload_n 0, 1) := by decide +kernel
theorem dX1_init_25 : decode cX1_init 25 = .ok (.getfield 11, 3) := by decide +kernel
theorem dX1_init_28 : decode cX1_init 28 = .ok (.iload_n 1, 1) := by decide +kernel
theorem dX1_init_29 : decode cX1_init 29 = .ok (.new 9, 3) := by decide +kernel
theorem dX1_init_32 : decode cX1_init 32 = .ok (.dup, 1) := by decide +kernel
theorem dX1_init_33 : decode cX1_init 33 = .ok (.invokespecial 17, 3) := by decide +kernel
theorem dX1_init_36 : decode cX1_init 36 = .ok (.aastore, 1) := by decide +kernel
theorem dX1_init_37 : decode cX1_init 37 = .ok (.iinc 1 1, 3) := by decide +kernel
theorem dX1_init_40 : decode cX1_init 40 = .ok (.goto (-25), 3) := by decide +kernel
theorem dX1_init_43 : decode cX1_init 43 = .ok (.return_, 1) := by decide +kernel
theorem dX1_forget_0 : decode cX1_forget 0 = .ok (.aload_n 0, 1) := by decide +kernel
theorem dX1_forget_1 : decode cX1_forget 1 = .ok (.iconst 0, 1) := by decide +kernel
theorem dX1_forget_2 : decode cX1_forget 2 = .ok (.putfield 18, 3) := by decide +kernel
theorem dX1_forget_5 : decode cX1_forget 5 = .ok (.return_, 1) := by decide +kernel
theorem dX1_remember_0 : decode cX1_remember 0 = .ok (.aload_n 0, 1) := by decide +kernel
theorem dX1_remember_1 : decode cX1_remember 1 = .ok (.getfield 18, 3) := by decide +kernel
theorem dX1_remember_4 : decode cX1_remember 4 = .ok (.bipush 14, 2) := by decide +kernel
theorem dX1_remember_6 : decode cX1_remember 6 = .ok (.if_icmp .lt 22, 3) := by decide +kernel
theorem dX1_remember_9 : decode cX1_remember 9 = .ok (.aload_n 0, 1) := by decide +kernel
theorem dX1_remember_10 : decode cX1_remember 10 = .ok (.aload_n 0, 1) := by decide +kernel
theorem dX1_remember_11 : decode cX1_remember 11 = .ok (.getfield 22, 3) := by decide +kernel
theorem dX1_remember_14 : decode cX1_remember 14 = .ok (.iconst 1, 1) := by decide +kernel
theorem dX1_remember_15 : decode cX1_remember 15 = .ok (.iadd, 1) := by decide +kernel
theorem dX1_remember_16 : decode cX1_remember 16 = .ok (.bipush 14, 2) := by decide +kernel
theorem dX1_remember_18 : decode cX1_remember 18 = .ok (.irem, 1) := by decide +kernel
theorem dX1_remember_19 : decode cX1_remember 19 = .ok (.putfield 22, 3) := by decide +kernel
theorem dX1_remember_22 : decode cX1_remember 22 = .ok (.aload_n 0, 1) := by decide +kernel
theorem dX1_remember_23 : decode cX1_remember 23 = .ok (.bipush 13, 2) := by decide +kernel
theorem dX1_remember_25 : decode cX1_remember 25 = .ok (.putfield 18, 3) := by decide +kernel
theorem dX1_remember_28 : decode cX1_remember 28 = .ok (.aload_n 0, 1) := by decide +kernel
theorem dX1_remember_29 : decode cX1_remember 29 = .ok (.aload_n 0, 1) := by decide +kernel
theorem dX1_remember_30 : decode cX1_remember 30 = .ok (.getfield 18, 3) := by decide +kernel
theorem dX1_remember_33 : decode cX1_remember 33 = .ok (.invokevirtual 25, 3) := by decide +kernel
theorem dX1_remember_36 : decode cX1_remember 36 = .ok (.astore_n 2, 1) := by decide +kernel
theorem dX1_remember_37 : decode cX1_remember 37 = .ok (.aload_n 2, 1) := by decide +kernel
theorem dX1_remember_38 : decode cX1_remember 38 = .ok (.ifnull 18, 3) := by decide +kernel
theorem dX1_remember_41 : decode cX1_remember 41 = .ok (.aload_n 2, 1) := by decide +kernel
theorem dX1_remember_42 : decode cX1_remember 42 = .ok (.aload_n 1, 1) := by decide +kernel
theorem dX1_remember_43 : decode cX1_remember 43 = .ok (.invokevirtual 29, 3) := by decide +kernel
theorem dX1_remember_46 : decode cX1_remember 46 = .ok (.aload_n 0, 1) := by decide +kernel
theorem dX1_remember_47 : decode cX1_remember 47 = .ok (.dup, 1) := by decide +kernel
theorem dX1_remember_48 : decode cX1_remember 48 = .ok (.getfield 18, 3) := by decide +kernel
theorem dX1_remember_51 : decode cX1_remember 51 = .ok (.iconst 1, 1) := by decide +kernel
theorem dX1_remember_52 : decode cX1_remember 52 = .ok (.iadd, 1) := by decide +kernel
theorem dX1_remember_53 : decode cX1_remember 53 = .ok (.putfield 18, 3) := by decide +kernel
theorem dX1_remember_56 : decode cX1_remember 56 = .ok (.return_, 1) := by decide +kernel
theorem dX1_takeBack_0 : decode cX1_takeBack 0 = .ok (.aload_n 0, 1) := by decide +kernel
theorem dX1_takeBack_1 : decode cX1_takeBack 1 = .ok (.getfield 18, 3) := by decide +kernel
theorem dX1_takeBack_4 : decode cX1_takeBack 4 = .ok (.ifCond .le 31, 3) := by decide +kernel
theorem dX1_takeBack_7 : decode cX1_takeBack 7 = .ok (.aload_n 0, 1) := by decide +kernel
theorem dX1_takeBack_8 : decode cX1_takeBack 8 = .ok (.dup, 1) := by decide +kernel
theorem dX1_takeBack_9 : decode cX1_takeBack 9 = .ok (.getfield 18, 3) := by decide +kernel
theorem dX1_takeBack_12 : decode cX1_takeBack 12 = .ok (.iconst 1, 1) := by decide +kernel
theorem dX1_takeBack_13 : decode cX1_takeBack 13 = .ok (.isub, 1) := by decide +kernel
theorem dX1_takeBack_14 : decode cX1_takeBack 14 = .ok (.putfield 18, 3) := by decide +kernel
theorem dX1_takeBack_17 : decode cX1_takeBack 17 = .ok (.aload_n 0, 1) := by decide +kernel
theorem dX1_takeBack_18 : decode cX1_takeBack 18 = .ok (.aload_n 0, 1) := by decide +kernel
theorem dX1_takeBack_19 : decode cX1_takeBack 19 = .ok (.getfield 18, 3) := by decide +kernel
theorem dX1_takeBack_22 : decode cX1_takeBack 22 = .ok (.invokevirtual 25, 3) := by decide +kernel
theorem dX1_takeBack_25 : decode cX1_takeBack 25 = .ok (.astore_n 2, 1) := by decide +kernel
theorem dX1_takeBack_26 : decode cX1_takeBack 26 = .ok (.aload_n 2, 1) := by decide +kernel
theorem dX1_takeBack_27 : decode cX1_takeBack 27 = .ok (.ifnull 8, 3) := by decide +kernel
theorem dX1_takeBack_30 : decode cX1_takeBack 30 = .ok (.aload_n 1, 1) := by decide +kernel
theorem dX1_takeBack_31 : decode cX1_takeBack 31 = .ok (.aload_n 2, 1) := by decide +kernel
theorem dX1_takeBack_32 : decode cX1_takeBack 32 = .ok (.invokevirtual 29, 3) := by decide +kernel
theorem dX1_takeBack_35 : decode cX1_takeBack 35 = .ok (.return_, 1) := by decide +kernel
theorem dX1_entry_0 : decode cX1_entry 0 = .ok (.aload_n 0, 1) := by decide +kernel
theorem dX1_entry_1 : decode cX1_entry 1 = .ok (.getfield 22, 3) := by decide +kernel
theorem dX1_entry_4 : decode cX1_entry 4 = .ok (.iload_n 1, 1) := by decide +kernel
theorem dX1_entry_5 : decode cX1_entry 5 = .ok (.iadd, 1) := by decide +kernel
theorem dX1_entry_6 : decode cX1_entry 6 = .ok (.bipush 14, 2) := by decide +kernel
theorem dX1_entry_8 : decode cX1_entry 8 = .ok (.irem, 1) := by decide +kernel
theorem dX1_entry_9 : decode cX1_entry 9 = .ok (.istore_n 2, 1) := by decide +kernel
theorem dX1_entry_10 : decode cX1_entry 10 = .ok (.iload_n 2, 1) := by decide +kernel
theorem dX1_entry_11 : decode cX1_entry 11 = .ok (.ifCond .lt 21, 3) := by decide +kernel
theorem dX1_entry_14 : decode cX1_entry 14 = .ok (.iload_n 2, 1) := by decide +kernel
theorem dX1_entry_15 : decode cX1_entry 15 = .ok (.aload_n 0, 1) := by decide +kernel
theorem dX1_entry_16 : decode cX1_entry 16 = .ok (.getfield 11, 3) := by decide +kernel
theorem dX1_entry_19 : decode cX1_entry 19 = .ok (.arraylength, 1) := by decide +kernel
theorem dX1_entry_20 : decode cX1_entry 20 = .ok (.if_icmp .ge 12, 3) := by decide +kernel
theorem dX1_entry_23 : decode cX1_entry 23 = .ok (.aload_n 0, 1) := by decide +kernel
theorem dX1_entry_24 : decode cX1_entry 24 = .ok (.getfield 11, 3) := by decide +kernel
theorem dX1_entry_27 : decode cX1_entry 27 = .ok (.iload_n 2, 1) := by decide +kernel
theorem dX1_entry_28 : decode cX1_entry 28 = .ok (.aaload, 1) := by decide +kernel
theorem dX1_entry_29 : decode cX1_entry 29 = .ok (.goto 4, 3) := by decide +kernel
theorem dX1_entry_32 : decode cX1_entry 32 = .ok (.aconst_null, 1) := by decide +kernel
theorem dX1_entry_33 : decode cX1_entry 33 = .ok (.areturn, 1) := by decide +kernel
theorem dX2_init_0 : decode cX2_init 0 = .ok (.aload_n 0, 1) := by decide +kernel
theorem dX2_init_1 : decode cX2_init 1 = .ok (.invokespecial 1, 3) := by decide +kernel
theorem dX2_init_4 : decode cX2_init 4 = .ok (.aload_n 0, 1) := by decide +kernel
theorem dX2_init_5 : decode cX2_init 5 = .ok (.new 7, 3) := by decide +kernel
theorem dX2_init_8 : decode cX2_init 8 = .ok (.dup, 1) := by decide +kernel
theorem dX2_init_9 : decode cX2_init 9 = .ok (.invokespecial 9, 3) := by decide +kernel
theorem dX2_init_12 : decode cX2_init 12 = .ok (.putfield 10, 3) := by decide +kernel
theorem dX2_init_15 : decode cX2_init 15 = .ok (.return_, 1) := by decide +kernel
theorem dX3_init_0 : decode cX3_init 0 = .ok (.aload_n 0, 1) := by decide +kernel
theorem dX3_init_1 : decode cX3_init 1 = .ok (.invokespecial 3, 3) := by decide +kernel
theorem dX3_init_4 : decode cX3_init 4 = .ok (.aload_n 0, 1) := by decide +kernel
theorem dX3_init_5 : decode cX3_init 5 = .ok (.iconst 0, 1) := by decide +kernel
theorem dX3_init_6 : decode cX3_init 6 = .ok (.iload_n 1, 1) := by decide +kernel
theorem dX3_init_7 : decode cX3_init 7 = .ok (.invokestatic 9, 3) := by decide +kernel
theorem dX3_init_10 : decode cX3_init 10 = .ok (.newarray .int, 2) := by decide +kernel
theorem dX3_init_12 : decode cX3_init 12 = .ok (.putfield 15, 3) := by decide +kernel
theorem dX3_init_15 : decode cX3_init 15 = .ok (.return_, 1) := by decide +kernel
theorem dX3_mark_0 : decode cX3_mark 0 = .ok (.iload_n 1, 1) := by decide +kernel
theorem dX3_mark_1 : decode cX3_mark 1 = .ok (.ifCond .lt 29, 3) := by decide +kernel
theorem dX3_mark_4 : decode cX3_mark 4 = .ok (.iload_n 1, 1) := by decide +kernel
theorem dX3_mark_5 : decode cX3_mark 5 = .ok (.aload_n 0, 1) := by decide +kernel
theorem dX3_mark_6 : decode cX3_mark 6 = .ok (.getfield 21, 3) := by decide +kernel
theorem dX3_mark_9 : decode cX3_mark 9 = .ok (.if_icmp .ge 21, 3) := by decide +kernel
theorem dX3_mark_12 : decode cX3_mark 12 = .ok (.iload_n 1, 1) := by decide +kernel
theorem dX3_mark_13 : decode cX3_mark 13 = .ok (.aload_n 0, 1) := by decide +kernel
theorem dX3_mark_14 : decode cX3_mark 14 = .ok (.getfield 15, 3) := by decide +kernel
theorem dX3_mark_17 : decode cX3_mark 17 = .ok (.arraylength, 1) := by decide +kernel
theorem dX3_mark_18 : decode cX3_mark 18 = .ok (.if_icmp .ge 12, 3) := by decide +kernel
theorem dX3_mark_21 : decode cX3_mark 21 = .ok (.aload_n 0, 1) := by decide +kernel
theorem dX3_mark_22 : decode cX3_mark 22 = .ok (.getfield 15, 3) := by decide +kernel
theorem dX3_mark_25 : decode cX3_mark 25 = .ok (.iload_n 1, 1) := by decide +kernel
theorem dX3_mark_26 : decode cX3_mark 26 = .ok (.iaload, 1) := by decide +kernel
theorem dX3_mark_27 : decode cX3_mark 27 = .ok (.goto 4, 3) := by decide +kernel
theorem dX3_mark_30 : decode cX3_mark 30 = .ok (.iconst 0, 1) := by decide +kernel
theorem dX3_mark_31 : decode cX3_mark 31 = .ok (.ireturn, 1) := by decide +kernel
theorem dX3_hasPlace_0 : decode cX3_hasPlace 0 = .ok (.iload_n 1, 1) := by decide +kernel
theorem dX3_hasPlace_1 : decode cX3_hasPlace 1 = .ok (.ifCond .lt 15, 3) := by decide +kernel
theorem dX3_hasPlace_4 : decode cX3_hasPlace 4 = .ok (.iload_n 1, 1) := by decide +kernel
theorem dX3_hasPlace_5 : decode cX3_hasPlace 5 = .ok (.aload_n 0, 1) := by decide +kernel
theorem dX3_hasPlace_6 : decode cX3_hasPlace 6 = .ok (.getfield 21, 3) := by decide +kernel
theorem dX3_hasPlace_9 : decode cX3_hasPlace 9 = .ok (.if_icmp .gt 7, 3) := by decide +kernel
theorem dX3_hasPlace_12 : decode cX3_hasPlace 12 = .ok (.iconst 1, 1) := by decide +kernel
theorem dX3_hasPlace_13 : decode cX3_hasPlace 13 = .ok (.goto 4, 3) := by decide +kernel
theorem dX3_hasPlace_16 : decode cX3_hasPlace 16 = .ok (.iconst 0, 1) := by decide +kernel
theorem dX3_hasPlace_17 : decode cX3_hasPlace 17 = .ok (.ireturn, 1) := by decide +kernel
theorem dX3_add_0 : decode cX3_add 0 = .ok (.aload_n 0, 1) := by decide +kernel
theorem dX3_add_1 : decode cX3_add 1 = .ok (.getfield 21, 3) := by decide +kernel
theorem dX3_add_4 : decode cX3_add 4 = .ok (.ifCond .lt 35, 3) := by decide +kernel
theorem dX3_add_7 : decode cX3_add 7 = .ok (.aload_n 0, 1) := by decide +kernel
theorem dX3_add_8 : decode cX3_add 8 = .ok (.getfield 21, 3) := by decide +kernel
theorem dX3_add_11 : decode cX3_add 11 = .ok (.aload_n 0, 1) := by decide +kernel
theorem dX3_add_12 : decode cX3_add 12 = .ok (.getfield 15, 3) := by decide +kernel
theorem dX3_add_15 : decode cX3_add 15 = .ok (.arraylength, 1) := by decide +kernel
theorem dX3_add_16 : decode cX3_add 16 = .ok (.if_icmp .ge 23, 3) := by decide +kernel
theorem dX3_add_19 : decode cX3_add 19 = .ok (.aload_n 0, 1) := by decide +kernel
theorem dX3_add_20 : decode cX3_add 20 = .ok (.getfield 15, 3) := by decide +kernel
theorem dX3_add_23 : decode cX3_add 23 = .ok (.aload_n 0, 1) := by decide +kernel
theorem dX3_add_24 : decode cX3_add 24 = .ok (.getfield 21, 3) := by decide +kernel
theorem dX3_add_27 : decode cX3_add 27 = .ok (.iload_n 1, 1) := by decide +kernel
theorem dX3_add_28 : decode cX3_add 28 = .ok (.iastore, 1) := by decide +kernel
theorem dX3_add_29 : decode cX3_add 29 = .ok (.aload_n 0, 1) := by decide +kernel
theorem dX3_add_30 : decode cX3_add 30 = .ok (.dup, 1) := by decide +kernel
theorem dX3_add_31 : decode cX3_add 31 = .ok (.getfield 21, 3) := by decide +kernel
theorem dX3_add_34 : decode cX3_add 34 = .ok (.iconst 1, 1) := by decide +kernel
theorem dX3_add_35 : decode cX3_add 35 = .ok (.iadd, 1) := by decide +kernel
theorem dX3_add_36 : decode cX3_add 36 = .ok (.putfield 21, 3) := by decide +kernel
theorem dX3_add_39 : decode cX3_add 39 = .ok (.return_, 1) := by decide +kernel
theorem dX3_insert_0 : decode cX3_insert 0 = .ok (.iload_n 1, 1) := by decide +kernel
theorem dX3_insert_1 : decode cX3_insert 1 = .ok (.ifCond .lt 61, 3) := by decide +kernel
theorem dX3_insert_4 : decode cX3_insert 4 = .ok (.iload_n 1, 1) := by decide +kernel
theorem dX3_insert_5 : decode cX3_insert 5 = .ok (.aload_n 0, 1) := by decide +kernel
theorem dX3_insert_6 : decode cX3_insert 6 = .ok (.getfield 21, 3) := by decide +kernel
theorem dX3_insert_9 : decode cX3_insert 9 = .ok (.if_icmp .gt 53, 3) := by decide +kernel
theorem dX3_insert_12 : decode cX3_insert 12 = .ok (.aload_n 0, 1) := by decide +kernel
theorem dX3_insert_13 : decode cX3_insert 13 = .ok (.getfield 21, 3) := by decide +kernel
theorem dX3_insert_16 : decode cX3_insert 16 = .ok (.aload_n 0, 1) := by decide +kernel
theorem dX3_insert_17 : decode cX3_insert 17 = .ok (.getfield 15, 3) := by decide +kernel
theorem dX3_insert_20 : decode cX3_insert 20 = .ok (.arraylength, 1) := by decide +kernel
theorem dX3_insert_21 : decode cX3_insert 21 = .ok (.if_icmp .ge 41, 3) := by decide +kernel
theorem dX3_insert_24 : decode cX3_insert 24 = .ok (.aload_n 0, 1) := by decide +kernel
theorem dX3_insert_25 : decode cX3_insert 25 = .ok (.getfield 15, 3) := by decide +kernel
theorem dX3_insert_28 : decode cX3_insert 28 = .ok (.iload_n 1, 1) := by decide +kernel
theorem dX3_insert_29 : decode cX3_insert 29 = .ok (.aload_n 0, 1) := by decide +kernel
theorem dX3_insert_30 : decode cX3_insert 30 = .ok (.getfield 15, 3) := by decide +kernel
theorem dX3_insert_33 : decode cX3_insert 33 = .ok (.iload_n 1, 1) := by decide +kernel
theorem dX3_insert_34 : decode cX3_insert 34 = .ok (.iconst 1, 1) := by decide +kernel
theorem dX3_insert_35 : decode cX3_insert 35 = .ok (.iadd, 1) := by decide +kernel
theorem dX3_insert_36 : decode cX3_insert 36 = .ok (.aload_n 0, 1) := by decide +kernel
theorem dX3_insert_37 : decode cX3_insert 37 = .ok (.getfield 21, 3) := by decide +kernel
theorem dX3_insert_40 : decode cX3_insert 40 = .ok (.iload_n 1, 1) := by decide +kernel
theorem dX3_insert_41 : decode cX3_insert 41 = .ok (.isub, 1) := by decide +kernel
theorem dX3_insert_42 : decode cX3_insert 42 = .ok (.invokestatic 25, 3) := by decide +kernel
theorem dX3_insert_45 : decode cX3_insert 45 = .ok (.aload_n 0, 1) := by decide +kernel
theorem dX3_insert_46 : decode cX3_insert 46 = .ok (.getfield 15, 3) := by decide +kernel
theorem dX3_insert_49 : decode cX3_insert 49 = .ok (.iload_n 1, 1) := by decide +kernel
theorem dX3_insert_50 : decode cX3_insert 50 = .ok (.iload_n 2, 1) := by decide +kernel
theorem dX3_insert_51 : decode cX3_insert 51 = .ok (.iastore, 1) := by decide +kernel
theorem dX3_insert_52 : decode cX3_insert 52 = .ok (.aload_n 0, 1) := by decide +kernel
theorem dX3_insert_53 : decode cX3_insert 53 = .ok (.dup, 1) := by decide +kernel
theorem dX3_insert_54 : decode cX3_insert 54 = .ok (.getfield 21, 3) := by decide +kernel
theorem dX3_insert_57 : decode cX3_insert 57 = .ok (.iconst 1, 1) := by decide +kernel
theorem dX3_insert_58 : decode cX3_insert 58 = .ok (.iadd, 1) := by decide +kernel
theorem dX3_insert_59 : decode cX3_insert 59 = .ok (.putfield 21, 3) := by decide +kernel
theorem dX3_insert_62 : decode cX3_insert 62 = .ok (.return_, 1) := by decide +kernel
theorem dX3_insertAll_0 : decode cX3_insertAll 0 = .ok (.aload_n 2, 1) := by decide +kernel
theorem dX3_insertAll_1 : decode cX3_insertAll 1 = .ok (.getfield 21, 3) := by decide +kernel
theorem dX3_insertAll_4 : decode cX3_insertAll 4 = .ok (.istore_n 3, 1) := by decide +kernel
theorem dX3_insertAll_5 : decode cX3_insertAll 5 = .ok (.iload_n 1, 1) := by decide +kernel
theorem dX3_insertAll_6 : decode cX3_insertAll 6 = .ok (.ifCond .lt 15, 3) := by decide +kernel
theorem dX3_insertAll_9 : decode cX3_insertAll 9 = .ok (.iload_n 1, 1) := by decide +kernel
theorem dX3_insertAll_10 : decode cX3_insertAll 10 = .ok (.aload_n 0, 1) := by decide +kernel
theorem dX3_insertAll_11 : decode cX3_insertAll 11 = .ok (.getfield 21, 3) := by decide +kernel
theorem dX3_insertAll_14 : decode cX3_insertAll 14 = .ok (.if_icmp .gt 7, 3) := by decide +kernel
theorem dX3_insertAll_17 : decode cX3_insertAll 17 = .ok (.iconst 1, 1) := by decide +kernel
theorem dX3_insertAll_18 : decode cX3_insertAll 18 = .ok (.goto 4, 3) := by decide +kernel
theorem dX3_insertAll_21 : decode cX3_insertAll 21 = .ok (.iconst 0, 1) := by decide +kernel
theorem dX3_insertAll_22 : decode cX3_insertAll 22 = .ok (.istore 4, 2) := by decide +kernel
theorem dX3_insertAll_24 : decode cX3_insertAll 24 = .ok (.iload 4, 2) := by decide +kernel
theorem dX3_insertAll_26 : decode cX3_insertAll 26 = .ok (.ifCond .eq 71, 3) := by decide +kernel
theorem dX3_insertAll_29 : decode cX3_insertAll 29 = .ok (.iload_n 3, 1) := by decide +kernel
theorem dX3_insertAll_30 : decode cX3_insertAll 30 = .ok (.aload_n 2, 1) := by decide +kernel
theorem dX3_insertAll_31 : decode cX3_insertAll 31 = .ok (.getfield 15, 3) := by decide +kernel
theorem dX3_insertAll_34 : decode cX3_insertAll 34 = .ok (.arraylength, 1) := by decide +kernel
theorem dX3_insertAll_35 : decode cX3_insertAll 35 = .ok (.if_icmp .gt 62, 3) := by decide +kernel
theorem dX3_insertAll_38 : decode cX3_insertAll 38 = .ok (.iload_n 3, 1) := by decide +kernel
theorem dX3_insertAll_39 : decode cX3_insertAll 39 = .ok (.aload_n 0, 1) := by decide +kernel
theorem dX3_insertAll_40 : decode cX3_insertAll 40 = .ok (.getfield 15, 3) := by decide +kernel
theorem dX3_insertAll_43 : decode cX3_insertAll 43 = .ok (.arraylength, 1) := by decide +kernel
theorem dX3_insertAll_44 : decode cX3_insertAll 44 = .ok (.aload_n 0, 1) := by decide +kernel
theorem dX3_insertAll_45 : decode cX3_insertAll 45 = .ok (.getfield 21, 3) := by decide +kernel
theorem dX3_insertAll_48 : decode cX3_insertAll 48 = .ok (.isub, 1) := by decide +kernel
theorem dX3_insertAll_49 : decode cX3_insertAll 49 = .ok (.if_icmp .gt 48, 3) := by decide +kernel
theorem dX3_insertAll_52 : decode cX3_insertAll 52 = .ok (.aload_n 0, 1) := by decide +kernel
theorem dX3_insertAll_53 : decode cX3_insertAll 53 = .ok (.getfield 15, 3) := by decide +kernel
theorem dX3_insertAll_56 : decode cX3_insertAll 56 = .ok (.iload_n 1, 1) := by decide +kernel
theorem dX3_insertAll_57 : decode cX3_insertAll 57 = .ok (.aload_n 0, 1) := by decide +kernel
theorem dX3_insertAll_58 : decode cX3_insertAll 58 = .ok (.getfield 15, 3) := by decide +kernel
theorem dX3_insertAll_61 : decode cX3_insertAll 61 = .ok (.iload_n 1, 1) := by decide +kernel
theorem dX3_insertAll_62 : decode cX3_insertAll 62 = .ok (.iload_n 3, 1) := by decide +kernel
theorem dX3_insertAll_63 : decode cX3_insertAll 63 = .ok (.iadd, 1) := by decide +kernel
theorem dX3_insertAll_64 : decode cX3_insertAll 64 = .ok (.aload_n 0, 1) := by decide +kernel
theorem dX3_insertAll_65 : decode cX3_insertAll 65 = .ok (.getfield 21, 3) := by decide +kernel
theorem dX3_insertAll_68 : decode cX3_insertAll 68 = .ok (.iload_n 1, 1) := by decide +kernel
theorem dX3_insertAll_69 : decode cX3_insertAll 69 = .ok (.isub, 1) := by decide +kernel
theorem dX3_insertAll_70 : decode cX3_insertAll 70 = .ok (.invokestatic 25, 3) := by decide +kernel
theorem dX3_insertAll_73 : decode cX3_insertAll 73 = .ok (.aload_n 2, 1) := by decide +kernel
theorem dX3_insertAll_74 : decode cX3_insertAll 74 = .ok (.getfield 15, 3) := by decide +kernel
theorem dX3_insertAll_77 : decode cX3_insertAll 77 = .ok (.iconst 0, 1) := by decide +kernel
theorem dX3_insertAll_78 : decode cX3_insertAll 78 = .ok (.aload_n 0, 1) := by decide +kernel
theorem dX3_insertAll_79 : decode cX3_insertAll 79 = .ok (.getfield 15, 3) := by decide +kernel
theorem dX3_insertAll_82 : decode cX3_insertAll 82 = .ok (.iload_n 1, 1) := by decide +kernel
theorem dX3_insertAll_83 : decode cX3_insertAll 83 = .ok (.iload_n 3, 1) := by decide +kernel
theorem dX3_insertAll_84 : decode cX3_insertAll 84 = .ok (.invokestatic 25, 3) := by decide +kernel
theorem dX3_insertAll_87 : decode cX3_insertAll 87 = .ok (.aload_n 0, 1) := by decide +kernel
theorem dX3_insertAll_88 : decode cX3_insertAll 88 = .ok (.dup, 1) := by decide +kernel
theorem dX3_insertAll_89 : decode cX3_insertAll 89 = .ok (.getfield 21, 3) := by decide +kernel
theorem dX3_insertAll_92 : decode cX3_insertAll 92 = .ok (.iload_n 3, 1) := by decide +kernel
theorem dX3_insertAll_93 : decode cX3_insertAll 93 = .ok (.iadd, 1) := by decide +kernel
theorem dX3_insertAll_94 : decode cX3_insertAll 94 = .ok (.putfield 21, 3) := by decide +kernel
theorem dX3_insertAll_97 : decode cX3_insertAll 97 = .ok (.return_, 1) := by decide +kernel
theorem dX3_remove_0 : decode cX3_remove 0 = .ok (.iload_n 1, 1) := by decide +kernel
theorem dX3_remove_1 : decode cX3_remove 1 = .ok (.ifCond .lt 59, 3) := by decide +kernel
theorem dX3_remove_4 : decode cX3_remove 4 = .ok (.iload_n 1, 1) := by decide +kernel
theorem dX3_remove_5 : decode cX3_remove 5 = .ok (.iload_n 2, 1) := by decide +kernel
theorem dX3_remove_6 : decode cX3_remove 6 = .ok (.if_icmp .gt 54, 3) := by decide +kernel
theorem dX3_remove_9 : decode cX3_remove 9 = .ok (.iload_n 2, 1) := by decide +kernel
theorem dX3_remove_10 : decode cX3_remove 10 = .ok (.aload_n 0, 1) := by decide +kernel
theorem dX3_remove_11 : decode cX3_remove 11 = .ok (.getfield 21, 3) := by decide +kernel
theorem dX3_remove_14 : decode cX3_remove 14 = .ok (.if_icmp .gt 46, 3) := by decide +kernel
theorem dX3_remove_17 : decode cX3_remove 17 = .ok (.aload_n 0, 1) := by decide +kernel
theorem dX3_remove_18 : decode cX3_remove 18 = .ok (.getfield 21, 3) := by decide +kernel
theorem dX3_remove_21 : decode cX3_remove 21 = .ok (.aload_n 0, 1) := by decide +kernel
theorem dX3_remove_22 : decode cX3_remove 22 = .ok (.getfield 15, 3) := by decide +kernel
theorem dX3_remove_25 : decode cX3_remove 25 = .ok (.arraylength, 1) := by decide +kernel
theorem dX3_remove_26 : decode cX3_remove 26 = .ok (.if_icmp .gt 34, 3) := by decide +kernel
theorem dX3_remove_29 : decode cX3_remove 29 = .ok (.aload_n 0, 1) := by decide +kernel
theorem dX3_remove_30 : decode cX3_remove 30 = .ok (.getfield 15, 3) := by decide +kernel
theorem dX3_remove_33 : decode cX3_remove 33 = .ok (.iload_n 2, 1) := by decide +kernel
theorem dX3_remove_34 : decode cX3_remove 34 = .ok (.aload_n 0, 1) := by decide +kernel
theorem dX3_remove_35 : decode cX3_remove 35 = .ok (.getfield 15, 3) := by decide +kernel
theorem dX3_remove_38 : decode cX3_remove 38 = .ok (.iload_n 1, 1) := by decide +kernel
theorem dX3_remove_39 : decode cX3_remove 39 = .ok (.aload_n 0, 1) := by decide +kernel
theorem dX3_remove_40 : decode cX3_remove 40 = .ok (.getfield 21, 3) := by decide +kernel
theorem dX3_remove_43 : decode cX3_remove 43 = .ok (.iload_n 2, 1) := by decide +kernel
theorem dX3_remove_44 : decode cX3_remove 44 = .ok (.isub, 1) := by decide +kernel
theorem dX3_remove_45 : decode cX3_remove 45 = .ok (.invokestatic 25, 3) := by decide +kernel
theorem dX3_remove_48 : decode cX3_remove 48 = .ok (.aload_n 0, 1) := by decide +kernel
theorem dX3_remove_49 : decode cX3_remove 49 = .ok (.dup, 1) := by decide +kernel
theorem dX3_remove_50 : decode cX3_remove 50 = .ok (.getfield 21, 3) := by decide +kernel
theorem dX3_remove_53 : decode cX3_remove 53 = .ok (.iload_n 2, 1) := by decide +kernel
theorem dX3_remove_54 : decode cX3_remove 54 = .ok (.iload_n 1, 1) := by decide +kernel
theorem dX3_remove_55 : decode cX3_remove 55 = .ok (.isub, 1) := by decide +kernel
theorem dX3_remove_56 : decode cX3_remove 56 = .ok (.isub, 1) := by decide +kernel
theorem dX3_remove_57 : decode cX3_remove 57 = .ok (.putfield 21, 3) := by decide +kernel
theorem dX3_remove_60 : decode cX3_remove 60 = .ok (.return_, 1) := by decide +kernel
theorem dX3_take_0 : decode cX3_take 0 = .ok (.iload_n 3, 1) := by decide +kernel
theorem dX3_take_1 : decode cX3_take 1 = .ok (.iload_n 2, 1) := by decide +kernel
theorem dX3_take_2 : decode cX3_take 2 = .ok (.isub, 1) := by decide +kernel
theorem dX3_take_3 : decode cX3_take 3 = .ok (.istore 4, 2) := by decide +kernel
theorem dX3_take_5 : decode cX3_take 5 = .ok (.iload_n 2, 1) := by decide +kernel
theorem dX3_take_6 : decode cX3_take 6 = .ok (.ifCond .lt 48, 3) := by decide +kernel
theorem dX3_take_9 : decode cX3_take 9 = .ok (.iload 4, 2) := by decide +kernel
theorem dX3_take_11 : decode cX3_take 11 = .ok (.ifCond .lt 43, 3) := by decide +kernel
theorem dX3_take_14 : decode cX3_take 14 = .ok (.iload_n 3, 1) := by decide +kernel
theorem dX3_take_15 : decode cX3_take 15 = .ok (.aload_n 1, 1) := by decide +kernel
theorem dX3_take_16 : decode cX3_take 16 = .ok (.getfield 15, 3) := by decide +kernel
theorem dX3_take_19 : decode cX3_take 19 = .ok (.arraylength, 1) := by decide +kernel
theorem dX3_take_20 : decode cX3_take 20 = .ok (.if_icmp .gt 34, 3) := by decide +kernel
theorem dX3_take_23 : decode cX3_take 23 = .ok (.iload 4, 2) := by decide +kernel
theorem dX3_take_25 : decode cX3_take 25 = .ok (.aload_n 0, 1) := by decide +kernel
theorem dX3_take_26 : decode cX3_take 26 = .ok (.getfield 15, 3) := by decide +kernel
theorem dX3_take_29 : decode cX3_take 29 = .ok (.arraylength, 1) := by decide +kernel
theorem dX3_take_30 : decode cX3_take 30 = .ok (.if_icmp .gt 24, 3) := by decide +kernel
theorem dX3_take_33 : decode cX3_take 33 = .ok (.aload_n 1, 1) := by decide +kernel
theorem dX3_take_34 : decode cX3_take 34 = .ok (.getfield 15, 3) := by decide +kernel
theorem dX3_take_37 : decode cX3_take 37 = .ok (.iload_n 2, 1) := by decide +kernel
theorem dX3_take_38 : decode cX3_take 38 = .ok (.aload_n 0, 1) := by decide +kernel
theorem dX3_take_39 : decode cX3_take 39 = .ok (.getfield 15, 3) := by decide +kernel
theorem dX3_take_42 : decode cX3_take 42 = .ok (.iconst 0, 1) := by decide +kernel
theorem dX3_take_43 : decode cX3_take 43 = .ok (.iload 4, 2) := by decide +kernel
theorem dX3_take_45 : decode cX3_take 45 = .ok (.invokestatic 25, 3) := by decide +kernel
theorem dX3_take_48 : decode cX3_take 48 = .ok (.aload_n 0, 1) := by decide +kernel
theorem dX3_take_49 : decode cX3_take 49 = .ok (.iload 4, 2) := by decide +kernel
theorem dX3_take_51 : decode cX3_take 51 = .ok (.putfield 21, 3) := by decide +kernel
theorem dX3_take_54 : decode cX3_take 54 = .ok (.return_, 1) := by decide +kernel
theorem dX3_exchange_0 : decode cX3_exchange 0 = .ok (.iconst 0, 1) := by decide +kernel
theorem dX3_exchange_1 : decode cX3_exchange 1 = .ok (.istore_n 3, 1) := by decide +kernel
theorem dX3_exchange_2 : decode cX3_exchange 2 = .ok (.iconst 0, 1) := by decide +kernel
theorem dX3_exchange_3 : decode cX3_exchange 3 = .ok (.istore 4, 2) := by decide +kernel
theorem dX3_exchange_5 : decode cX3_exchange 5 = .ok (.iload 4, 2) := by decide +kernel
theorem dX3_exchange_7 : decode cX3_exchange 7 = .ok (.aload_n 0, 1) := by decide +kernel
theorem dX3_exchange_8 : decode cX3_exchange 8 = .ok (.getfield 21, 3) := by decide +kernel
theorem dX3_exchange_11 : decode cX3_exchange 11 = .ok (.if_icmp .ge 41, 3) := by decide +kernel
theorem dX3_exchange_14 : decode cX3_exchange 14 = .ok (.iload 4, 2) := by decide +kernel
theorem dX3_exchange_16 : decode cX3_exchange 16 = .ok (.aload_n 0, 1) := by decide +kernel
theorem dX3_exchange_17 : decode cX3_exchange 17 = .ok (.getfield 15, 3) := by decide +kernel
theorem dX3_exchange_20 : decode cX3_exchange 20 = .ok (.arraylength, 1) := by decide +kernel
theorem dX3_exchange_21 : decode cX3_exchange 21 = .ok (.if_icmp .ge 31, 3) := by decide +kernel
theorem dX3_exchange_24 : decode cX3_exchange 24 = .ok (.aload_n 0, 1) := by decide +kernel
theorem dX3_exchange_25 : decode cX3_exchange 25 = .ok (.getfield 15, 3) := by decide +kernel
theorem dX3_exchange_28 : decode cX3_exchange 28 = .ok (.iload 4, 2) := by decide +kernel
theorem dX3_exchange_30 : decode cX3_exchange 30 = .ok (.iaload, 1) := by decide +kernel
theorem dX3_exchange_31 : decode cX3_exchange 31 = .ok (.iload_n 1, 1) := by decide +kernel
theorem dX3_exchange_32 : decode cX3_exchange 32 = .ok (.if_icmp .ne 14, 3) := by decide +kernel
theorem dX3_exchange_35 : decode cX3_exchange 35 = .ok (.aload_n 0, 1) := by decide +kernel
theorem dX3_exchange_36 : decode cX3_exchange 36 = .ok (.getfield 15, 3) := by decide +kernel
theorem dX3_exchange_39 : decode cX3_exchange 39 = .ok (.iload 4, 2) := by decide +kernel
theorem dX3_exchange_41 : decode cX3_exchange 41 = .ok (.iload_n 2, 1) := by decide +kernel
theorem dX3_exchange_42 : decode cX3_exchange 42 = .ok (.iastore, 1) := by decide +kernel
theorem dX3_exchange_43 : decode cX3_exchange 43 = .ok (.iinc 3 1, 3) := by decide +kernel
theorem dX3_exchange_46 : decode cX3_exchange 46 = .ok (.iinc 4 1, 3) := by decide +kernel
theorem dX3_exchange_49 : decode cX3_exchange 49 = .ok (.goto (-44), 3) := by decide +kernel
theorem dX3_exchange_52 : decode cX3_exchange 52 = .ok (.iload_n 3, 1) := by decide +kernel
theorem dX3_exchange_53 : decode cX3_exchange 53 = .ok (.ireturn, 1) := by decide +kernel
theorem dX3_countItems_0 : decode cX3_countItems 0 = .ok (.iconst 0, 1) := by decide +kernel
theorem dX3_countItems_1 : decode cX3_countItems 1 = .ok (.istore_n 3, 1) := by decide +kernel
theorem dX3_countItems_2 : decode cX3_countItems 2 = .ok (.iload_n 1, 1) := by decide +kernel
theorem dX3_countItems_3 : decode cX3_countItems 3 = .ok (.istore 4, 2) := by decide +kernel
theorem dX3_countItems_5 : decode cX3_countItems 5 = .ok (.iload 4, 2) := by decide +kernel
theorem dX3_countItems_7 : decode cX3_countItems 7 = .ok (.iload_n 2, 1) := by decide +kernel
theorem dX3_countItems_8 : decode cX3_countItems 8 = .ok (.if_icmp .ge 24, 3) := by decide +kernel
theorem dX3_countItems_11 : decode cX3_countItems 11 = .ok (.aload_n 0, 1) := by decide +kernel
theorem dX3_countItems_12 : decode cX3_countItems 12 = .ok (.iload 4, 2) := by decide +kernel
theorem dX3_countItems_14 : decode cX3_countItems 14 = .ok (.invokevirtual 31, 3) := by decide +kernel
theorem dX3_countItems_17 : decode cX3_countItems 17 = .ok (.invokestatic 35, 3) := by decide +kernel
theorem dX3_countItems_20 : decode cX3_countItems 20 = .ok (.ifCond .eq 6, 3) := by decide +kernel
theorem dX3_countItems_23 : decode cX3_countItems 23 = .ok (.iinc 3 1, 3) := by decide +kernel
theorem dX3_countItems_26 : decode cX3_countItems 26 = .ok (.iinc 4 1, 3) := by decide +kernel
theorem dX3_countItems_29 : decode cX3_countItems 29 = .ok (.goto (-24), 3) := by decide +kernel
theorem dX3_countItems_32 : decode cX3_countItems 32 = .ok (.iload_n 3, 1) := by decide +kernel
theorem dX3_countItems_33 : decode cX3_countItems 33 = .ok (.ireturn, 1) := by decide +kernel
theorem dX3_allItems_0 : decode cX3_allItems 0 = .ok (.aload_n 0, 1) := by decide +kernel
theorem dX3_allItems_1 : decode cX3_allItems 1 = .ok (.iconst 0, 1) := by decide +kernel
theorem dX3_allItems_2 : decode cX3_allItems 2 = .ok (.aload_n 0, 1) := by decide +kernel
theorem dX3_allItems_3 : decode cX3_allItems 3 = .ok (.getfield 21, 3) := by decide +kernel
theorem dX3_allItems_6 : decode cX3_allItems 6 = .ok (.invokevirtual 39, 3) := by decide +kernel
theorem dX3_allItems_9 : decode cX3_allItems 9 = .ok (.ireturn, 1) := by decide +kernel
theorem dX3_rowItems_0 : decode cX3_rowItems 0 = .ok (.iconst 0, 1) := by decide +kernel
theorem dX3_rowItems_1 : decode cX3_rowItems 1 = .ok (.istore_n 3, 1) := by decide +kernel
theorem dX3_rowItems_2 : decode cX3_rowItems 2 = .ok (.iconst 0, 1) := by decide +kernel
theorem dX3_rowItems_3 : decode cX3_rowItems 3 = .ok (.istore 4, 2) := by decide +kernel
theorem dX3_rowItems_5 : decode cX3_rowItems 5 = .ok (.iload_n 1, 1) := by decide +kernel
theorem dX3_rowItems_6 : decode cX3_rowItems 6 = .ok (.istore 5, 2) := by decide +kernel
theorem dX3_rowItems_8 : decode cX3_rowItems 8 = .ok (.iload 5, 2) := by decide +kernel
theorem dX3_rowItems_10 : decode cX3_rowItems 10 = .ok (.iload_n 2, 1) := by decide +kernel
theorem dX3_rowItems_11 : decode cX3_rowItems 11 = .ok (.if_icmp .ge 43, 3) := by decide +kernel
theorem dX3_rowItems_14 : decode cX3_rowItems 14 = .ok (.aload_n 0, 1) := by decide +kernel
theorem dX3_rowItems_15 : decode cX3_rowItems 15 = .ok (.iload 5, 2) := by decide +kernel
theorem dX3_rowItems_17 : decode cX3_rowItems 17 = .ok (.invokevirtual 31, 3) := by decide +kernel
theorem dX3_rowItems_20 : decode cX3_rowItems 20 = .ok (.istore 6, 2) := by decide +kernel
theorem dX3_rowItems_22 : decode cX3_rowItems 22 = .ok (.iload 4, 2) := by decide +kernel
theorem dX3_rowItems_24 : decode cX3_rowItems 24 = .ok (.ifCond .ne 14, 3) := by decide +kernel
theorem dX3_rowItems_27 : decode cX3_rowItems 27 = .ok (.iload 6, 2) := by decide +kernel
theorem dX3_rowItems_29 : decode cX3_rowItems 29 = .ok (.invokestatic 35, 3) := by decide +kernel
theorem dX3_rowItems_32 : decode cX3_rowItems 32 = .ok (.ifCond .eq 6, 3) := by decide +kernel
theorem dX3_rowItems_35 : decode cX3_rowItems 35 = .ok (.iinc 3 1, 3) := by decide +kernel
theorem dX3_rowItems_38 : decode cX3_rowItems 38 = .ok (.iload 4, 2) := by decide +kernel
theorem dX3_rowItems_40 : decode cX3_rowItems 40 = .ok (.iload 6, 2) := by decide +kernel
theorem dX3_rowItems_42 : decode cX3_rowItems 42 = .ok (.invokestatic 42, 3) := by decide +kernel
theorem dX3_rowItems_45 : decode cX3_rowItems 45 = .ok (.iadd, 1) := by decide +kernel
theorem dX3_rowItems_46 : decode cX3_rowItems 46 = .ok (.istore 4, 2) := by decide +kernel
theorem dX3_rowItems_48 : decode cX3_rowItems 48 = .ok (.iinc 5 1, 3) := by decide +kernel
theorem dX3_rowItems_51 : decode cX3_rowItems 51 = .ok (.goto (-43), 3) := by decide +kernel
theorem dX3_rowItems_54 : decode cX3_rowItems 54 = .ok (.iload_n 3, 1) := by decide +kernel
theorem dX3_rowItems_55 : decode cX3_rowItems 55 = .ok (.ireturn, 1) := by decide +kernel
theorem dX3_opening_0 : decode cX3_opening 0 = .ok (.iload_n 0, 1) := by decide +kernel
theorem dX3_opening_1 : decode cX3_opening 1 = .ok (.bipush 42, 2) := by decide +kernel
theorem dX3_opening_3 : decode cX3_opening 3 = .ok (.if_icmp .lt 5, 3) := by decide +kernel
theorem dX3_opening_6 : decode cX3_opening 6 = .ok (.iconst 0, 1) := by decide +kernel
theorem dX3_opening_7 : decode cX3_opening 7 = .ok (.ireturn, 1) := by decide +kernel
theorem dX3_opening_8 : decode cX3_opening 8 = .ok (.iload_n 0, 1) := by decide +kernel
theorem dX3_opening_9 : decode cX3_opening 9 = .ok (.iconst 1, 1) := by decide +kernel
theorem dX3_opening_10 : decode cX3_opening 10 = .ok (.if_icmp .lt 12, 3) := by decide +kernel
theorem dX3_opening_13 : decode cX3_opening 13 = .ok (.iload_n 0, 1) := by decide +kernel
theorem dX3_opening_14 : decode cX3_opening 14 = .ok (.iconst 5, 1) := by decide +kernel
theorem dX3_opening_15 : decode cX3_opening 15 = .ok (.if_icmp .gt 7, 3) := by decide +kernel
theorem dX3_opening_18 : decode cX3_opening 18 = .ok (.iconst 1, 1) := by decide +kernel
theorem dX3_opening_19 : decode cX3_opening 19 = .ok (.goto 14, 3) := by decide +kernel
theorem dX3_opening_22 : decode cX3_opening 22 = .ok (.iload_n 0, 1) := by decide +kernel
theorem dX3_opening_23 : decode cX3_opening 23 = .ok (.bipush 10, 2) := by decide +kernel
theorem dX3_opening_25 : decode cX3_opening 25 = .ok (.if_icmp .le 7, 3) := by decide +kernel
theorem dX3_opening_28 : decode cX3_opening 28 = .ok (.iconst (-1), 1) := by decide +kernel
theorem dX3_opening_29 : decode cX3_opening 29 = .ok (.goto 4, 3) := by decide +kernel
theorem dX3_opening_32 : decode cX3_opening 32 = .ok (.iconst 0, 1) := by decide +kernel
theorem dX3_opening_33 : decode cX3_opening 33 = .ok (.ireturn, 1) := by decide +kernel
theorem dX3_depth_0 : decode cX3_depth 0 = .ok (.iconst 0, 1) := by decide +kernel
theorem dX3_depth_1 : decode cX3_depth 1 = .ok (.istore_n 3, 1) := by decide +kernel
theorem dX3_depth_2 : decode cX3_depth 2 = .ok (.iconst 0, 1) := by decide +kernel
theorem dX3_depth_3 : decode cX3_depth 3 = .ok (.istore 4, 2) := by decide +kernel
theorem dX3_depth_5 : decode cX3_depth 5 = .ok (.iload_n 1, 1) := by decide +kernel
theorem dX3_depth_6 : decode cX3_depth 6 = .ok (.istore 5, 2) := by decide +kernel
theorem dX3_depth_8 : decode cX3_depth 8 = .ok (.iload 5, 2) := by decide +kernel
theorem dX3_depth_10 : decode cX3_depth 10 = .ok (.iload_n 2, 1) := by decide +kernel
theorem dX3_depth_11 : decode cX3_depth 11 = .ok (.if_icmp .ge 29, 3) := by decide +kernel
theorem dX3_depth_14 : decode cX3_depth 14 = .ok (.iload_n 3, 1) := by decide +kernel
theorem dX3_depth_15 : decode cX3_depth 15 = .ok (.aload_n 0, 1) := by decide +kernel
theorem dX3_depth_16 : decode cX3_depth 16 = .ok (.iload 5, 2) := by decide +kernel
theorem dX3_depth_18 : decode cX3_depth 18 = .ok (.invokevirtual 31, 3) := by decide +kernel
theorem dX3_depth_21 : decode cX3_depth 21 = .ok (.invokestatic 42, 3) := by decide +kernel
theorem dX3_depth_24 : decode cX3_depth 24 = .ok (.iadd, 1) := by decide +kernel
theorem dX3_depth_25 : decode cX3_depth 25 = .ok (.istore_n 3, 1) := by decide +kernel
theorem dX3_depth_26 : decode cX3_depth 26 = .ok (.iload 4, 2) := by decide +kernel
theorem dX3_depth_28 : decode cX3_depth 28 = .ok (.iload_n 3, 1) := by decide +kernel
theorem dX3_depth_29 : decode cX3_depth 29 = .ok (.invokestatic 9, 3) := by decide +kernel
theorem dX3_depth_32 : decode cX3_depth 32 = .ok (.istore 4, 2) := by decide +kernel
theorem dX3_depth_34 : decode cX3_depth 34 = .ok (.iinc 5 1, 3) := by decide +kernel
theorem dX3_depth_37 : decode cX3_depth 37 = .ok (.goto (-29), 3) := by decide +kernel
theorem dX3_depth_40 : decode cX3_depth 40 = .ok (.iload 4, 2) := by decide +kernel
theorem dX3_depth_42 : decode cX3_depth 42 = .ok (.ireturn, 1) := by decide +kernel
theorem dX3_levelOf_0 : decode cX3_levelOf 0 = .ok (.iconst 0, 1) := by decide +kernel
theorem dX3_levelOf_1 : decode cX3_levelOf 1 = .ok (.istore_n 2, 1) := by decide +kernel
theorem dX3_levelOf_2 : decode cX3_levelOf 2 = .ok (.iconst 0, 1) := by decide +kernel
theorem dX3_levelOf_3 : decode cX3_levelOf 3 = .ok (.istore_n 3, 1) := by decide +kernel
theorem dX3_levelOf_4 : decode cX3_levelOf 4 = .ok (.iload_n 3, 1) := by decide +kernel
theorem dX3_levelOf_5 : decode cX3_levelOf 5 = .ok (.iload_n 1, 1) := by decide +kernel
theorem dX3_levelOf_6 : decode cX3_levelOf 6 = .ok (.if_icmp .ge 20, 3) := by decide +kernel
theorem dX3_levelOf_9 : decode cX3_levelOf 9 = .ok (.iload_n 2, 1) := by decide +kernel
theorem dX3_levelOf_10 : decode cX3_levelOf 10 = .ok (.aload_n 0, 1) := by decide +kernel
theorem dX3_levelOf_11 : decode cX3_levelOf 11 = .ok (.iload_n 3, 1) := by decide +kernel
theorem dX3_levelOf_12 : decode cX3_levelOf 12 = .ok (.invokevirtual 31, 3) := by decide +kernel
theorem dX3_levelOf_15 : decode cX3_levelOf 15 = .ok (.invokestatic 42, 3) := by decide +kernel
theorem dX3_levelOf_18 : decode cX3_levelOf 18 = .ok (.iadd, 1) := by decide +kernel
theorem dX3_levelOf_19 : decode cX3_levelOf 19 = .ok (.istore_n 2, 1) := by decide +kernel
theorem dX3_levelOf_20 : decode cX3_levelOf 20 = .ok (.iinc 3 1, 3) := by decide +kernel
theorem dX3_levelOf_23 : decode cX3_levelOf 23 = .ok (.goto (-19), 3) := by decide +kernel
theorem dX3_levelOf_26 : decode cX3_levelOf 26 = .ok (.iload_n 2, 1) := by decide +kernel
theorem dX3_levelOf_27 : decode cX3_levelOf 27 = .ok (.ireturn, 1) := by decide +kernel
theorem dX3_emptySlots_0 : decode cX3_emptySlots 0 = .ok (.iconst 0, 1) := by decide +kernel
theorem dX3_emptySlots_1 : decode cX3_emptySlots 1 = .ok (.istore_n 1, 1) := by decide +kernel
theorem dX3_emptySlots_2 : decode cX3_emptySlots 2 = .ok (.iconst 0, 1) := by decide +kernel
theorem dX3_emptySlots_3 : decode cX3_emptySlots 3 = .ok (.istore_n 2, 1) := by decide +kernel
theorem dX3_emptySlots_4 : decode cX3_emptySlots 4 = .ok (.iload_n 2, 1) := by decide +kernel
theorem dX3_emptySlots_5 : decode cX3_emptySlots 5 = .ok (.aload_n 0, 1) := by decide +kernel
theorem dX3_emptySlots_6 : decode cX3_emptySlots 6 = .ok (.getfield 21, 3) := by decide +kernel
theorem dX3_emptySlots_9 : decode cX3_emptySlots 9 = .ok (.if_icmp .ge 56, 3) := by decide +kernel
theorem dX3_emptySlots_12 : decode cX3_emptySlots 12 = .ok (.aload_n 0, 1) := by decide +kernel
theorem dX3_emptySlots_13 : decode cX3_emptySlots 13 = .ok (.iload_n 2, 1) := by decide +kernel
theorem dX3_emptySlots_14 : decode cX3_emptySlots 14 = .ok (.invokevirtual 31, 3) := by decide +kernel
theorem dX3_emptySlots_17 : decode cX3_emptySlots 17 = .ok (.invokestatic 45, 3) := by decide +kernel
theorem dX3_emptySlots_20 : decode cX3_emptySlots 20 = .ok (.ifCond .ne 13, 3) := by decide +kernel
theorem dX3_emptySlots_23 : decode cX3_emptySlots 23 = .ok (.aload_n 0, 1) := by decide +kernel
theorem dX3_emptySlots_24 : decode cX3_emptySlots 24 = .ok (.iload_n 2, 1) := by decide +kernel
theorem dX3_emptySlots_25 : decode cX3_emptySlots 25 = .ok (.invokevirtual 31, 3) := by decide +kernel
theorem dX3_emptySlots_28 : decode cX3_emptySlots 28 = .ok (.bipush 6, 2) := by decide +kernel
theorem dX3_emptySlots_30 : decode cX3_emptySlots 30 = .ok (.if_icmp .ne 7, 3) := by decide +kernel
theorem dX3_emptySlots_33 : decode cX3_emptySlots 33 = .ok (.iconst 1, 1) := by decide +kernel
theorem dX3_emptySlots_34 : decode cX3_emptySlots 34 = .ok (.goto 4, 3) := by decide +kernel
theorem dX3_emptySlots_37 : decode cX3_emptySlots 37 = .ok (.iconst 0, 1) := by decide +kernel
theorem dX3_emptySlots_38 : decode cX3_emptySlots 38 = .ok (.istore_n 3, 1) := by decide +kernel
theorem dX3_emptySlots_39 : decode cX3_emptySlots 39 = .ok (.iload_n 3, 1) := by decide +kernel
theorem dX3_emptySlots_40 : decode cX3_emptySlots 40 = .ok (.ifCond .eq 19, 3) := by decide +kernel
theorem dX3_emptySlots_43 : decode cX3_emptySlots 43 = .ok (.aload_n 0, 1) := by decide +kernel
theorem dX3_emptySlots_44 : decode cX3_emptySlots 44 = .ok (.iload_n 2, 1) := by decide +kernel
theorem dX3_emptySlots_45 : decode cX3_emptySlots 45 = .ok (.iconst 1, 1) := by decide +kernel
theorem dX3_emptySlots_46 : decode cX3_emptySlots 46 = .ok (.iadd, 1) := by decide +kernel
theorem dX3_emptySlots_47 : decode cX3_emptySlots 47 = .ok (.invokevirtual 31, 3) := by decide +kernel
theorem dX3_emptySlots_50 : decode cX3_emptySlots 50 = .ok (.invokestatic 35, 3) := by decide +kernel
theorem dX3_emptySlots_53 : decode cX3_emptySlots 53 = .ok (.ifCond .ne 6, 3) := by decide +kernel
theorem dX3_emptySlots_56 : decode cX3_emptySlots 56 = .ok (.iinc 1 1, 3) := by decide +kernel
theorem dX3_emptySlots_59 : decode cX3_emptySlots 59 = .ok (.iinc 2 1, 3) := by decide +kernel
theorem dX3_emptySlots_62 : decode cX3_emptySlots 62 = .ok (.goto (-58), 3) := by decide +kernel
theorem dX3_emptySlots_65 : decode cX3_emptySlots 65 = .ok (.iload_n 1, 1) := by decide +kernel
theorem dX3_emptySlots_66 : decode cX3_emptySlots 66 = .ok (.ireturn, 1) := by decide +kernel
theorem dX3_rowStart_0 : decode cX3_rowStart 0 = .ok (.iconst 0, 1) := by decide +kernel
theorem dX3_rowStart_1 : decode cX3_rowStart 1 = .ok (.istore_n 2, 1) := by decide +kernel
theorem dX3_rowStart_2 : decode cX3_rowStart 2 = .ok (.iload_n 1, 1) := by decide +kernel
theorem dX3_rowStart_3 : decode cX3_rowStart 3 = .ok (.iconst 1, 1) := by decide +kernel
theorem dX3_rowStart_4 : decode cX3_rowStart 4 = .ok (.isub, 1) := by decide +kernel
theorem dX3_rowStart_5 : decode cX3_rowStart 5 = .ok (.istore_n 3, 1) := by decide +kernel
theorem dX3_rowStart_6 : decode cX3_rowStart 6 = .ok (.iload_n 3, 1) := by decide +kernel
theorem dX3_rowStart_7 : decode cX3_rowStart 7 = .ok (.ifCond .lt 47, 3) := by decide +kernel
theorem dX3_rowStart_10 : decode cX3_rowStart 10 = .ok (.aload_n 0, 1) := by decide +kernel
theorem dX3_rowStart_11 : decode cX3_rowStart 11 = .ok (.iload_n 3, 1) := by decide +kernel
theorem dX3_rowStart_12 : decode cX3_rowStart 12 = .ok (.invokevirtual 31, 3) := by decide +kernel
theorem dX3_rowStart_15 : decode cX3_rowStart 15 = .ok (.istore 4, 2) := by decide +kernel
theorem dX3_rowStart_17 : decode cX3_rowStart 17 = .ok (.iload_n 2, 1) := by decide +kernel
theorem dX3_rowStart_18 : decode cX3_rowStart 18 = .ok (.ifCond .ne 22, 3) := by decide +kernel
theorem dX3_rowStart_21 : decode cX3_rowStart 21 = .ok (.iload 4, 2) := by decide +kernel
theorem dX3_rowStart_23 : decode cX3_rowStart 23 = .ok (.invokestatic 45, 3) := by decide +kernel
theorem dX3_rowStart_26 : decode cX3_rowStart 26 = .ok (.ifCond .ne 10, 3) := by decide +kernel
theorem dX3_rowStart_29 : decode cX3_rowStart 29 = .ok (.iload 4, 2) := by decide +kernel
theorem dX3_rowStart_31 : decode cX3_rowStart 31 = .ok (.bipush 6, 2) := by decide +kernel
theorem dX3_rowStart_33 : decode cX3_rowStart 33 = .ok (.if_icmp .ne 7, 3) := by decide +kernel
theorem dX3_rowStart_36 : decode cX3_rowStart 36 = .ok (.iload_n 3, 1) := by decide +kernel
theorem dX3_rowStart_37 : decode cX3_rowStart 37 = .ok (.iconst 1, 1) := by decide +kernel
theorem dX3_rowStart_38 : decode cX3_rowStart 38 = .ok (.iadd, 1) := by decide +kernel
theorem dX3_rowStart_39 : decode cX3_rowStart 39 = .ok (.ireturn, 1) := by decide +kernel
theorem dX3_rowStart_40 : decode cX3_rowStart 40 = .ok (.iload_n 2, 1) := by decide +kernel
theorem dX3_rowStart_41 : decode cX3_rowStart 41 = .ok (.iload 4, 2) := by decide +kernel
theorem dX3_rowStart_43 : decode cX3_rowStart 43 = .ok (.invokestatic 42, 3) := by decide +kernel
theorem dX3_rowStart_46 : decode cX3_rowStart 46 = .ok (.isub, 1) := by decide +kernel
theorem dX3_rowStart_47 : decode cX3_rowStart 47 = .ok (.istore_n 2, 1) := by decide +kernel
theorem dX3_rowStart_48 : decode cX3_rowStart 48 = .ok (.iinc 3 (-1), 3) := by decide +kernel
theorem dX3_rowStart_51 : decode cX3_rowStart 51 = .ok (.goto (-45), 3) := by decide +kernel
theorem dX3_rowStart_54 : decode cX3_rowStart 54 = .ok (.iconst 0, 1) := by decide +kernel
theorem dX3_rowStart_55 : decode cX3_rowStart 55 = .ok (.ireturn, 1) := by decide +kernel
theorem dX3_rowEnd_0 : decode cX3_rowEnd 0 = .ok (.iconst 0, 1) := by decide +kernel
theorem dX3_rowEnd_1 : decode cX3_rowEnd 1 = .ok (.istore_n 2, 1) := by decide +kernel
theorem dX3_rowEnd_2 : decode cX3_rowEnd 2 = .ok (.iload_n 1, 1) := by decide +kernel
theorem dX3_rowEnd_3 : decode cX3_rowEnd 3 = .ok (.istore_n 3, 1) := by decide +kernel
theorem dX3_rowEnd_4 : decode cX3_rowEnd 4 = .ok (.iload_n 3, 1) := by decide +kernel
theorem dX3_rowEnd_5 : decode cX3_rowEnd 5 = .ok (.aload_n 0, 1) := by decide +kernel
theorem dX3_rowEnd_6 : decode cX3_rowEnd 6 = .ok (.getfield 21, 3) := by decide +kernel
theorem dX3_rowEnd_9 : decode cX3_rowEnd 9 = .ok (.if_icmp .ge 45, 3) := by decide +kernel
theorem dX3_rowEnd_12 : decode cX3_rowEnd 12 = .ok (.aload_n 0, 1) := by decide +kernel
theorem dX3_rowEnd_13 : decode cX3_rowEnd 13 = .ok (.iload_n 3, 1) := by decide +kernel
theorem dX3_rowEnd_14 : decode cX3_rowEnd 14 = .ok (.invokevirtual 31, 3) := by decide +kernel
theorem dX3_rowEnd_17 : decode cX3_rowEnd 17 = .ok (.istore 4, 2) := by decide +kernel
theorem dX3_rowEnd_19 : decode cX3_rowEnd 19 = .ok (.iload_n 2, 1) := by decide +kernel
theorem dX3_rowEnd_20 : decode cX3_rowEnd 20 = .ok (.ifCond .ne 20, 3) := by decide +kernel
theorem dX3_rowEnd_23 : decode cX3_rowEnd 23 = .ok (.iload 4, 2) := by decide +kernel
theorem dX3_rowEnd_25 : decode cX3_rowEnd 25 = .ok (.invokestatic 48, 3) := by decide +kernel
theorem dX3_rowEnd_28 : decode cX3_rowEnd 28 = .ok (.ifCond .ne 10, 3) := by decide +kernel
theorem dX3_rowEnd_31 : decode cX3_rowEnd 31 = .ok (.iload 4, 2) := by decide +kernel
theorem dX3_rowEnd_33 : decode cX3_rowEnd 33 = .ok (.bipush 6, 2) := by decide +kernel
theorem dX3_rowEnd_35 : decode cX3_rowEnd 35 = .ok (.if_icmp .ne 5, 3) := by decide +kernel
theorem dX3_rowEnd_38 : decode cX3_rowEnd 38 = .ok (.iload_n 3, 1) := by decide +kernel
theorem dX3_rowEnd_39 : decode cX3_rowEnd 39 = .ok (.ireturn, 1) := by decide +kernel
theorem dX3_rowEnd_40 : decode cX3_rowEnd 40 = .ok (.iload_n 2, 1) := by decide +kernel
theorem dX3_rowEnd_41 : decode cX3_rowEnd 41 = .ok (.iload 4, 2) := by decide +kernel
theorem dX3_rowEnd_43 : decode cX3_rowEnd 43 = .ok (.invokestatic 42, 3) := by decide +kernel
theorem dX3_rowEnd_46 : decode cX3_rowEnd 46 = .ok (.iadd, 1) := by decide +kernel
theorem dX3_rowEnd_47 : decode cX3_rowEnd 47 = .ok (.istore_n 2, 1) := by decide +kernel
theorem dX3_rowEnd_48 : decode cX3_rowEnd 48 = .ok (.iinc 3 1, 3) := by decide +kernel
theorem dX3_rowEnd_51 : decode cX3_rowEnd 51 = .ok (.goto (-47), 3) := by decide +kernel
theorem dX3_rowEnd_54 : decode cX3_rowEnd 54 = .ok (.aload_n 0, 1) := by decide +kernel
theorem dX3_rowEnd_55 : decode cX3_rowEnd 55 = .ok (.getfield 21, 3) := by decide +kernel
theorem dX3_rowEnd_58 : decode cX3_rowEnd 58 = .ok (.ireturn, 1) := by decide +kernel
theorem dX3_itemEnd_0 : decode cX3_itemEnd 0 = .ok (.iconst 0, 1) := by decide +kernel
theorem dX3_itemEnd_1 : decode cX3_itemEnd 1 = .ok (.istore_n 2, 1) := by decide +kernel
theorem dX3_itemEnd_2 : decode cX3_itemEnd 2 = .ok (.iload_n 1, 1) := by decide +kernel
theorem dX3_itemEnd_3 : decode cX3_itemEnd 3 = .ok (.istore_n 3, 1) := by decide +kernel
theorem dX3_itemEnd_4 : decode cX3_itemEnd 4 = .ok (.iload_n 3, 1) := by decide +kernel
theorem dX3_itemEnd_5 : decode cX3_itemEnd 5 = .ok (.aload_n 0, 1) := by decide +kernel
theorem dX3_itemEnd_6 : decode cX3_itemEnd 6 = .ok (.getfield 21, 3) := by decide +kernel
theorem dX3_itemEnd_9 : decode cX3_itemEnd 9 = .ok (.if_icmp .ge 28, 3) := by decide +kernel
theorem dX3_itemEnd_12 : decode cX3_itemEnd 12 = .ok (.iload_n 2, 1) := by decide +kernel
theorem dX3_itemEnd_13 : decode cX3_itemEnd 13 = .ok (.aload_n 0, 1) := by decide +kernel
theorem dX3_itemEnd_14 : decode cX3_itemEnd 14 = .ok (.iload_n 3, 1) := by decide +kernel
theorem dX3_itemEnd_15 : decode cX3_itemEnd 15 = .ok (.invokevirtual 31, 3) := by decide +kernel
theorem dX3_itemEnd_18 : decode cX3_itemEnd 18 = .ok (.invokestatic 42, 3) := by decide +kernel
theorem dX3_itemEnd_21 : decode cX3_itemEnd 21 = .ok (.iadd, 1) := by decide +kernel
theorem dX3_itemEnd_22 : decode cX3_itemEnd 22 = .ok (.istore_n 2, 1) := by decide +kernel
theorem dX3_itemEnd_23 : decode cX3_itemEnd 23 = .ok (.iload_n 2, 1) := by decide +kernel
theorem dX3_itemEnd_24 : decode cX3_itemEnd 24 = .ok (.ifCond .gt 7, 3) := by decide +kernel
theorem dX3_itemEnd_27 : decode cX3_itemEnd 27 = .ok (.iload_n 3, 1) := by decide +kernel
theorem dX3_itemEnd_28 : decode cX3_itemEnd 28 = .ok (.iconst 1, 1) := by decide +kernel
theorem dX3_itemEnd_29 : decode cX3_itemEnd 29 = .ok (.iadd, 1) := by decide +kernel
theorem dX3_itemEnd_30 : decode cX3_itemEnd 30 = .ok (.ireturn, 1) := by decide +kernel
theorem dX3_itemEnd_31 : decode cX3_itemEnd 31 = .ok (.iinc 3 1, 3) := by decide +kernel
theorem dX3_itemEnd_34 : decode cX3_itemEnd 34 = .ok (.goto (-30), 3) := by decide +kernel
theorem dX3_itemEnd_37 : decode cX3_itemEnd 37 = .ok (.aload_n 0, 1) := by decide +kernel
theorem dX3_itemEnd_38 : decode cX3_itemEnd 38 = .ok (.getfield 21, 3) := by decide +kernel
theorem dX3_itemEnd_41 : decode cX3_itemEnd 41 = .ok (.ireturn, 1) := by decide +kernel
theorem dX3_itemStart_0 : decode cX3_itemStart 0 = .ok (.iconst 0, 1) := by decide +kernel
theorem dX3_itemStart_1 : decode cX3_itemStart 1 = .ok (.istore_n 2, 1) := by decide +kernel
theorem dX3_itemStart_2 : decode cX3_itemStart 2 = .ok (.iload_n 1, 1) := by decide +kernel
theorem dX3_itemStart_3 : decode cX3_itemStart 3 = .ok (.iconst 1, 1) := by decide +kernel
theorem dX3_itemStart_4 : decode cX3_itemStart 4 = .ok (.isub, 1) := by decide +kernel
theorem dX3_itemStart_5 : decode cX3_itemStart 5 = .ok (.istore_n 3, 1) := by decide +kernel
theorem dX3_itemStart_6 : decode cX3_itemStart 6 = .ok (.iload_n 3, 1) := by decide +kernel
theorem dX3_itemStart_7 : decode cX3_itemStart 7 = .ok (.ifCond .lt 26, 3) := by decide +kernel
theorem dX3_itemStart_10 : decode cX3_itemStart 10 = .ok (.iload_n 2, 1) := by decide +kernel
theorem dX3_itemStart_11 : decode cX3_itemStart 11 = .ok (.aload_n 0, 1) := by decide +kernel
theorem dX3_itemStart_12 : decode cX3_itemStart 12 = .ok (.iload_n 3, 1) := by decide +kernel
theorem dX3_itemStart_13 : decode cX3_itemStart 13 = .ok (.invokevirtual 31, 3) := by decide +kernel
theorem dX3_itemStart_16 : decode cX3_itemStart 16 = .ok (.invokestatic 42, 3) := by decide +kernel
theorem dX3_itemStart_19 : decode cX3_itemStart 19 = .ok (.isub, 1) := by decide +kernel
theorem dX3_itemStart_20 : decode cX3_itemStart 20 = .ok (.istore_n 2, 1) := by decide +kernel
theorem dX3_itemStart_21 : decode cX3_itemStart 21 = .ok (.iload_n 2, 1) := by decide +kernel
theorem dX3_itemStart_22 : decode cX3_itemStart 22 = .ok (.ifCond .gt 5, 3) := by decide +kernel
theorem dX3_itemStart_25 : decode cX3_itemStart 25 = .ok (.iload_n 3, 1) := by decide +kernel
theorem dX3_itemStart_26 : decode cX3_itemStart 26 = .ok (.ireturn, 1) := by decide +kernel
theorem dX3_itemStart_27 : decode cX3_itemStart 27 = .ok (.iinc 3 (-1), 3) := by decide +kernel
theorem dX3_itemStart_30 : decode cX3_itemStart 30 = .ok (.goto (-24), 3) := by decide +kernel
theorem dX3_itemStart_33 : decode cX3_itemStart 33 = .ok (.iconst 0, 1) := by decide +kernel
theorem dX3_itemStart_34 : decode cX3_itemStart 34 = .ok (.ireturn, 1) := by decide +kernel
theorem dX3_isBehindItem_0 : decode cX3_isBehindItem 0 = .ok (.aload_n 0, 1) := by decide +kernel
theorem dX3_isBehindItem_1 : decode cX3_isBehindItem 1 = .ok (.iload_n 1, 1) := by decide +kernel
theorem dX3_isBehindItem_2 : decode cX3_isBehindItem 2 = .ok (.iconst 1, 1) := by decide +kernel
theorem dX3_isBehindItem_3 : decode cX3_isBehindItem 3 = .ok (.isub, 1) := by decide +kernel
theorem dX3_isBehindItem_4 : decode cX3_isBehindItem 4 = .ok (.invokevirtual 31, 3) := by decide +kernel
theorem dX3_isBehindItem_7 : decode cX3_isBehindItem 7 = .ok (.invokestatic 51, 3) := by decide +kernel
theorem dX3_isBehindItem_10 : decode cX3_isBehindItem 10 = .ok (.ireturn, 1) := by decide +kernel
theorem dX3_holder_0 : decode cX3_holder 0 = .ok (.aload_n 0, 1) := by decide +kernel
theorem dX3_holder_1 : decode cX3_holder 1 = .ok (.iload_n 1, 1) := by decide +kernel
theorem dX3_holder_2 : decode cX3_holder 2 = .ok (.iconst 1, 1) := by decide +kernel
theorem dX3_holder_3 : decode cX3_holder 3 = .ok (.isub, 1) := by decide +kernel
theorem dX3_holder_4 : decode cX3_holder 4 = .ok (.invokevirtual 31, 3) := by decide +kernel
theorem dX3_holder_7 : decode cX3_holder 7 = .ok (.bipush 6, 2) := by decide +kernel
theorem dX3_holder_9 : decode cX3_holder 9 = .ok (.if_icmp .ne 15, 3) := by decide +kernel
theorem dX3_holder_12 : decode cX3_holder 12 = .ok (.aload_n 0, 1) := by decide +kernel
theorem dX3_holder_13 : decode cX3_holder 13 = .ok (.iload_n 1, 1) := by decide +kernel
theorem dX3_holder_14 : decode cX3_holder 14 = .ok (.iconst 1, 1) := by decide +kernel
theorem dX3_holder_15 : decode cX3_holder 15 = .ok (.isub, 1) := by decide +kernel
theorem dX3_holder_16 : decode cX3_holder 16 = .ok (.invokevirtual 54, 3) := by decide +kernel
theorem dX3_holder_19 : decode cX3_holder 19 = .ok (.iconst 1, 1) := by decide +kernel
theorem dX3_holder_20 : decode cX3_holder 20 = .ok (.isub, 1) := by decide +kernel
theorem dX3_holder_21 : decode cX3_holder 21 = .ok (.goto 6, 3) := by decide +kernel
theorem dX3_holder_24 : decode cX3_holder 24 = .ok (.iload_n 1, 1) := by decide +kernel
theorem dX3_holder_25 : decode cX3_holder 25 = .ok (.iconst 1, 1) := by decide +kernel
theorem dX3_holder_26 : decode cX3_holder 26 = .ok (.isub, 1) := by decide +kernel
theorem dX3_holder_27 : decode cX3_holder 27 = .ok (.ireturn, 1) := by decide +kernel
theorem dX3_kindAround_0 : decode cX3_kindAround 0 = .ok (.iload_n 1, 1) := by decide +kernel
theorem dX3_kindAround_1 : decode cX3_kindAround 1 = .ok (.ifCond .le 15, 3) := by decide +kernel
theorem dX3_kindAround_4 : decode cX3_kindAround 4 = .ok (.aload_n 0, 1) := by decide +kernel
theorem dX3_kindAround_5 : decode cX3_kindAround 5 = .ok (.aload_n 0, 1) := by decide +kernel
theorem dX3_kindAround_6 : decode cX3_kindAround 6 = .ok (.iload_n 1, 1) := by decide +kernel
theorem dX3_kindAround_7 : decode cX3_kindAround 7 = .ok (.invokevirtual 57, 3) := by decide +kernel
theorem dX3_kindAround_10 : decode cX3_kindAround 10 = .ok (.invokevirtual 31, 3) := by decide +kernel
theorem dX3_kindAround_13 : decode cX3_kindAround 13 = .ok (.goto 4, 3) := by decide +kernel
theorem dX3_kindAround_16 : decode cX3_kindAround 16 = .ok (.iconst 0, 1) := by decide +kernel
theorem dX3_kindAround_17 : decode cX3_kindAround 17 = .ok (.ireturn, 1) := by decide +kernel
theorem dX3_secondSlot_0 : decode cX3_secondSlot 0 = .ok (.iconst 0, 1) := by decide +kernel
theorem dX3_secondSlot_1 : decode cX3_secondSlot 1 = .ok (.istore_n 2, 1) := by decide +kernel
theorem dX3_secondSlot_2 : decode cX3_secondSlot 2 = .ok (.iload_n 1, 1) := by decide +kernel
theorem dX3_secondSlot_3 : decode cX3_secondSlot 3 = .ok (.istore_n 3, 1) := by decide +kernel
theorem dX3_secondSlot_4 : decode cX3_secondSlot 4 = .ok (.iload_n 3, 1) := by decide +kernel
theorem dX3_secondSlot_5 : decode cX3_secondSlot 5 = .ok (.aload_n 0, 1) := by decide +kernel
theorem dX3_secondSlot_6 : decode cX3_secondSlot 6 = .ok (.getfield 21, 3) := by decide +kernel
theorem dX3_secondSlot_9 : decode cX3_secondSlot 9 = .ok (.if_icmp .ge 40, 3) := by decide +kernel
theorem dX3_secondSlot_12 : decode cX3_secondSlot 12 = .ok (.aload_n 0, 1) := by decide +kernel
theorem dX3_secondSlot_13 : decode cX3_secondSlot 13 = .ok (.iload_n 3, 1) := by decide +kernel
theorem dX3_secondSlot_14 : decode cX3_secondSlot 14 = .ok (.invokevirtual 31, 3) := by decide +kernel
theorem dX3_secondSlot_17 : decode cX3_secondSlot 17 = .ok (.istore 4, 2) := by decide +kernel
theorem dX3_secondSlot_19 : decode cX3_secondSlot 19 = .ok (.iload_n 2, 1) := by decide +kernel
theorem dX3_secondSlot_20 : decode cX3_secondSlot 20 = .ok (.iconst 1, 1) := by decide +kernel
theorem dX3_secondSlot_21 : decode cX3_secondSlot 21 = .ok (.if_icmp .ne 14, 3) := by decide +kernel
theorem dX3_secondSlot_24 : decode cX3_secondSlot 24 = .ok (.iload 4, 2) := by decide +kernel
theorem dX3_secondSlot_26 : decode cX3_secondSlot 26 = .ok (.bipush 6, 2) := by decide +kernel
theorem dX3_secondSlot_28 : decode cX3_secondSlot 28 = .ok (.if_icmp .ne 7, 3) := by decide +kernel
theorem dX3_secondSlot_31 : decode cX3_secondSlot 31 = .ok (.iload_n 3, 1) := by decide +kernel
theorem dX3_secondSlot_32 : decode cX3_secondSlot 32 = .ok (.iconst 1, 1) := by decide +kernel
theorem dX3_secondSlot_33 : decode cX3_secondSlot 33 = .ok (.iadd, 1) := by decide +kernel
theorem dX3_secondSlot_34 : decode cX3_secondSlot 34 = .ok (.ireturn, 1) := by decide +kernel
theorem dX3_secondSlot_35 : decode cX3_secondSlot 35 = .ok (.iload_n 2, 1) := by decide +kernel
theorem dX3_secondSlot_36 : decode cX3_secondSlot 36 = .ok (.iload 4, 2) := by decide +kernel
theorem dX3_secondSlot_38 : decode cX3_secondSlot 38 = .ok (.invokestatic 42, 3) := by decide +kernel
theorem dX3_secondSlot_41 : decode cX3_secondSlot 41 = .ok (.iadd, 1) := by decide +kernel
theorem dX3_secondSlot_42 : decode cX3_secondSlot 42 = .ok (.istore_n 2, 1) := by decide +kernel
theorem dX3_secondSlot_43 : decode cX3_secondSlot 43 = .ok (.iinc 3 1, 3) := by decide +kernel
theorem dX3_secondSlot_46 : decode cX3_secondSlot 46 = .ok (.goto (-42), 3) := by decide +kernel
theorem dX3_secondSlot_49 : decode cX3_secondSlot 49 = .ok (.aload_n 0, 1) := by decide +kernel
theorem dX3_secondSlot_50 : decode cX3_secondSlot 50 = .ok (.getfield 21, 3) := by decide +kernel
theorem dX3_secondSlot_53 : decode cX3_secondSlot 53 = .ok (.ireturn, 1) := by decide +kernel
theorem dX4_init_0 : decode cX4_init 0 = .ok (.aload_n 0, 1) := by decide +kernel
theorem dX4_init_1 : decode cX4_init 1 = .ok (.invokespecial 3, 3) := by decide +kernel
theorem dX4_init_4 : decode cX4_init 4 = .ok (.aload_n 0, 1) := by decide +kernel
theorem dX4_init_5 : decode cX4_init 5 = .ok (.sipush 181, 3) := by decide +kernel
theorem dX4_init_8 : decode cX4_init 8 = .ok (.newarray .int, 2) := by decide +kernel
theorem dX4_init_10 : decode cX4_init 10 = .ok (.putfield 9, 3) := by decide +kernel
theorem dX4_init_13 : decode cX4_init 13 = .ok (.aload_n 0, 1) := by decide +kernel
theorem dX4_init_14 : decode cX4_init 14 = .ok (.sipush 181, 3) := by decide +kernel
theorem dX4_init_17 : decode cX4_init 17 = .ok (.newarray .int, 2) := by decide +kernel
theorem dX4_init_19 : decode cX4_init 19 = .ok (.putfield 15, 3) := by decide +kernel
theorem dX4_init_22 : decode cX4_init 22 = .ok (.aload_n 0, 1) := by decide +kernel
theorem dX4_init_23 : decode cX4_init 23 = .ok (.sipush 181, 3) := by decide +kernel
theorem dX4_init_26 : decode cX4_init 26 = .ok (.newarray .int, 2) := by decide +kernel
theorem dX4_init_28 : decode cX4_init 28 = .ok (.putfield 18, 3) := by decide +kernel
theorem dX4_init_31 : decode cX4_init 31 = .ok (.return_, 1) := by decide +kernel
theorem dX4_width_0 : decode cX4_width 0 = .ok (.iload_n 1, 1) := by decide +kernel
theorem dX4_width_1 : decode cX4_width 1 = .ok (.ifCond .lt 21, 3) := by decide +kernel
theorem dX4_width_4 : decode cX4_width 4 = .ok (.iload_n 1, 1) := by decide +kernel
theorem dX4_width_5 : decode cX4_width 5 = .ok (.aload_n 0, 1) := by decide +kernel
theorem dX4_width_6 : decode cX4_width 6 = .ok (.getfield 9, 3) := by decide +kernel
theorem dX4_width_9 : decode cX4_width 9 = .ok (.arraylength, 1) := by decide +kernel
theorem dX4_width_10 : decode cX4_width 10 = .ok (.if_icmp .ge 12, 3) := by decide +kernel
theorem dX4_width_13 : decode cX4_width 13 = .ok (.aload_n 0, 1) := by decide +kernel
theorem dX4_width_14 : decode cX4_width 14 = .ok (.getfield 9, 3) := by decide +kernel
theorem dX4_width_17 : decode cX4_width 17 = .ok (.iload_n 1, 1) := by decide +kernel
theorem dX4_width_18 : decode cX4_width 18 = .ok (.iaload, 1) := by decide +kernel
theorem dX4_width_19 : decode cX4_width 19 = .ok (.goto 4, 3) := by decide +kernel
theorem dX4_width_22 : decode cX4_width 22 = .ok (.iconst 0, 1) := by decide +kernel
theorem dX4_width_23 : decode cX4_width 23 = .ok (.ireturn, 1) := by decide +kernel
theorem dX4_above_0 : decode cX4_above 0 = .ok (.iload_n 1, 1) := by decide +kernel
theorem dX4_above_1 : decode cX4_above 1 = .ok (.ifCond .lt 21, 3) := by decide +kernel
theorem dX4_above_4 : decode cX4_above 4 = .ok (.iload_n 1, 1) := by decide +kernel
theorem dX4_above_5 : decode cX4_above 5 = .ok (.aload_n 0, 1) := by decide +kernel
theorem dX4_above_6 : decode cX4_above 6 = .ok (.getfield 15, 3) := by decide +kernel
theorem dX4_above_9 : decode cX4_above 9 = .ok (.arraylength, 1) := by decide +kernel
theorem dX4_above_10 : decode cX4_above 10 = .ok (.if_icmp .ge 12, 3) := by decide +kernel
theorem dX4_above_13 : decode cX4_above 13 = .ok (.aload_n 0, 1) := by decide +kernel
theorem dX4_above_14 : decode cX4_above 14 = .ok (.getfield 15, 3) := by decide +kernel
theorem dX4_above_17 : decode cX4_above 17 = .ok (.iload_n 1, 1) := by decide +kernel
theorem dX4_above_18 : decode cX4_above 18 = .ok (.iaload, 1) := by decide +kernel
theorem dX4_above_19 : decode cX4_above 19 = .ok (.goto 4, 3) := by decide +kernel
theorem dX4_above_22 : decode cX4_above 22 = .ok (.iconst 0, 1) := by decide +kernel
theorem dX4_above_23 : decode cX4_above 23 = .ok (.ireturn, 1) := by decide +kernel
theorem dX4_below_0 : decode cX4_below 0 = .ok (.iload_n 1, 1) := by decide +kernel
theorem dX4_below_1 : decode cX4_below 1 = .ok (.ifCond .lt 21, 3) := by decide +kernel
theorem dX4_below_4 : decode cX4_below 4 = .ok (.iload_n 1, 1) := by decide +kernel
theorem dX4_below_5 : decode cX4_below 5 = .ok (.aload_n 0, 1) := by decide +kernel
theorem dX4_below_6 : decode cX4_below 6 = .ok (.getfield 18, 3) := by decide +kernel
theorem dX4_below_9 : decode cX4_below 9 = .ok (.arraylength, 1) := by decide +kernel
theorem dX4_below_10 : decode cX4_below 10 = .ok (.if_icmp .ge 12, 3) := by decide +kernel
theorem dX4_below_13 : decode cX4_below 13 = .ok (.aload_n 0, 1) := by decide +kernel
theorem dX4_below_14 : decode cX4_below 14 = .ok (.getfield 18, 3) := by decide +kernel
theorem dX4_below_17 : decode cX4_below 17 = .ok (.iload_n 1, 1) := by decide +kernel
theorem dX4_below_18 : decode cX4_below 18 = .ok (.iaload, 1) := by decide +kernel
theorem dX4_below_19 : decode cX4_below 19 = .ok (.goto 4, 3) := by decide +kernel
theorem dX4_below_22 : decode cX4_below 22 = .ok (.iconst 0, 1) := by decide +kernel
theorem dX4_below_23 : decode cX4_below 23 = .ok (.ireturn, 1) := by decide +kernel
theorem dX4_lines_0 : decode cX4_lines 0 = .ok (.aload_n 0, 1) := by decide +kernel
theorem dX4_lines_1 : decode cX4_lines 1 = .ok (.iload_n 1, 1) := by decide +kernel
theorem dX4_lines_2 : decode cX4_lines 2 = .ok (.invokevirtual 21, 3) := by decide +kernel
theorem dX4_lines_5 : decode cX4_lines 5 = .ok (.iconst 1, 1) := by decide +kernel
theorem dX4_lines_6 : decode cX4_lines 6 = .ok (.iadd, 1) := by decide +kernel
theorem dX4_lines_7 : decode cX4_lines 7 = .ok (.aload_n 0, 1) := by decide +kernel
theorem dX4_lines_8 : decode cX4_lines 8 = .ok (.iload_n 1, 1) := by decide +kernel
theorem dX4_lines_9 : decode cX4_lines 9 = .ok (.invokevirtual 25, 3) := by decide +kernel
theorem dX4_lines_12 : decode cX4_lines 12 = .ok (.iadd, 1) := by decide +kernel
theorem dX4_lines_13 : decode cX4_lines 13 = .ok (.ireturn, 1) := by decide +kernel
theorem dX4_measure_0 : decode cX4_measure 0 = .ok (.aload_n 1, 1) := by decide +kernel
theorem dX4_measure_1 : decode cX4_measure 1 = .ok (.getfield 28, 3) := by decide +kernel
theorem dX4_measure_4 : decode cX4_measure 4 = .ok (.istore_n 2, 1) := by decide +kernel
theorem dX4_measure_5 : decode cX4_measure 5 = .ok (.iload_n 2, 1) := by decide +kernel
theorem dX4_measure_6 : decode cX4_measure 6 = .ok (.ifCond .lt 40, 3) := by decide +kernel
theorem dX4_measure_9 : decode cX4_measure 9 = .ok (.aload_n 1, 1) := by decide +kernel
theorem dX4_measure_10 : decode cX4_measure 10 = .ok (.iload_n 2, 1) := by decide +kernel
theorem dX4_measure_11 : decode cX4_measure 11 = .ok (.iconst 1, 1) := by decide +kernel
theorem dX4_measure_12 : decode cX4_measure 12 = .ok (.isub, 1) := by decide +kernel
theorem dX4_measure_13 : decode cX4_measure 13 = .ok (.invokevirtual 34, 3) := by decide +kernel
theorem dX4_measure_16 : decode cX4_measure 16 = .ok (.istore_n 3, 1) := by decide +kernel
theorem dX4_measure_17 : decode cX4_measure 17 = .ok (.iload_n 2, 1) := by decide +kernel
theorem dX4_measure_18 : decode cX4_measure 18 = .ok (.ifCond .eq 16, 3) := by decide +kernel
theorem dX4_measure_21 : decode cX4_measure 21 = .ok (.iload_n 3, 1) := by decide +kernel
theorem dX4_measure_22 : decode cX4_measure 22 = .ok (.invokestatic 37, 3) := by decide +kernel
theorem dX4_measure_25 : decode cX4_measure 25 = .ok (.ifCond .ne 9, 3) := by decide +kernel
theorem dX4_measure_28 : decode cX4_measure 28 = .ok (.iload_n 3, 1) := by decide +kernel
theorem dX4_measure_29 : decode cX4_measure 29 = .ok (.bipush 6, 2) := by decide +kernel
theorem dX4_measure_31 : decode cX4_measure 31 = .ok (.if_icmp .ne 9, 3) := by decide +kernel
theorem dX4_measure_34 : decode cX4_measure 34 = .ok (.aload_n 0, 1) := by decide +kernel
theorem dX4_measure_35 : decode cX4_measure 35 = .ok (.aload_n 1, 1) := by decide +kernel
theorem dX4_measure_36 : decode cX4_measure 36 = .ok (.iload_n 2, 1) := by decide +kernel
theorem dX4_measure_37 : decode cX4_measure 37 = .ok (.invokevirtual 41, 3) := by decide +kernel
theorem dX4_measure_40 : decode cX4_measure 40 = .ok (.iinc 2 (-1), 3) := by decide +kernel
theorem dX4_measure_43 : decode cX4_measure 43 = .ok (.goto (-38), 3) := by decide +kernel
theorem dX4_measure_46 : decode cX4_measure 46 = .ok (.return_, 1) := by decide +kernel
theorem dX4_measureRow_0 : decode cX4_measureRow 0 = .ok (.aload_n 1, 1) := by decide +kernel
theorem dX4_measureRow_1 : decode cX4_measureRow 1 = .ok (.iload_n 2, 1) := by decide +kernel
theorem dX4_measureRow_2 : decode cX4_measureRow 2 = .ok (.invokevirtual 34, 3) := by decide +kernel
theorem dX4_measureRow_5 : decode cX4_measureRow 5 = .ok (.invokestatic 45, 3) := by decide +kernel
theorem dX4_measureRow_8 : decode cX4_measureRow 8 = .ok (.ifCond .ne 7, 3) := by decide +kernel
theorem dX4_measureRow_11 : decode cX4_measureRow 11 = .ok (.iconst 1, 1) := by decide +kernel
theorem dX4_measureRow_12 : decode cX4_measureRow 12 = .ok (.goto 4, 3) := by decide +kernel
theorem dX4_measureRow_15 : decode cX4_measureRow 15 = .ok (.iconst 0, 1) := by decide +kernel
theorem dX4_measureRow_16 : decode cX4_measureRow 16 = .ok (.istore_n 3, 1) := by decide +kernel
theorem dX4_measureRow_17 : decode cX4_measureRow 17 = .ok (.iload_n 3, 1) := by decide +kernel
theorem dX4_measureRow_18 : decode cX4_measureRow 18 = .ok (.ifCond .eq 7, 3) := by decide +kernel
theorem dX4_measureRow_21 : decode cX4_measureRow 21 = .ok (.iconst 1, 1) := by decide +kernel
theorem dX4_measureRow_22 : decode cX4_measureRow 22 = .ok (.goto 4, 3) := by decide +kernel
theorem dX4_measureRow_25 : decode cX4_measureRow 25 = .ok (.iconst 0, 1) := by decide +kernel
theorem dX4_measureRow_26 : decode cX4_measureRow 26 = .ok (.istore 4, 2) := by decide +kernel
theorem dX4_measureRow_28 : decode cX4_measureRow 28 = .ok (.iconst 0, 1) := by decide +kernel
theorem dX4_measureRow_29 : decode cX4_measureRow 29 = .ok (.istore 5, 2) := by decide +kernel
theorem dX4_measureRow_31 : decode cX4_measureRow 31 = .ok (.iconst 0, 1) := by decide +kernel
theorem dX4_measureRow_32 : decode cX4_measureRow 32 = .ok (.istore 6, 2) := by decide +kernel
theorem dX4_measureRow_34 : decode cX4_measureRow 34 = .ok (.iload_n 2, 1) := by decide +kernel
theorem dX4_measureRow_35 : decode cX4_measureRow 35 = .ok (.istore 7, 2) := by decide +kernel
theorem dX4_measureRow_37 : decode cX4_measureRow 37 = .ok (.iconst 0, 1) := by decide +kernel
theorem dX4_measureRow_38 : decode cX4_measureRow 38 = .ok (.istore 8, 2) := by decide +kernel
theorem dX4_measureRow_40 : decode cX4_measureRow 40 = .ok (.iload 8, 2) := by decide +kernel
theorem dX4_measureRow_42 : decode cX4_measureRow 42 = .ok (.bipush 60, 2) := by decide +kernel
theorem dX4_measureRow_44 : decode cX4_measureRow 44 = .ok (.if_icmp .ge 69, 3) := by decide +kernel
theorem dX4_measureRow_47 : decode cX4_measureRow 47 = .ok (.aload_n 1, 1) := by decide +kernel
theorem dX4_measureRow_48 : decode cX4_measureRow 48 = .ok (.iload 7, 2) := by decide +kernel
theorem dX4_measureRow_50 : decode cX4_measureRow 50 = .ok (.invokevirtual 34, 3) := by decide +kernel
theorem dX4_measureRow_53 : decode cX4_measureRow 53 = .ok (.invokestatic 45, 3) := by decide +kernel
theorem dX4_measureRow_56 : decode cX4_measureRow 56 = .ok (.ifCond .eq 57, 3) := by decide +kernel
theorem dX4_measureRow_59 : decode cX4_measureRow 59 = .ok (.iload 4, 2) := by decide +kernel
theorem dX4_measureRow_61 : decode cX4_measureRow 61 = .ok (.aload_n 0, 1) := by decide +kernel
theorem dX4_measureRow_62 : decode cX4_measureRow 62 = .ok (.aload_n 1, 1) := by decide +kernel
theorem dX4_measureRow_63 : decode cX4_measureRow 63 = .ok (.iload 7, 2) := by decide +kernel
theorem dX4_measureRow_65 : decode cX4_measureRow 65 = .ok (.invokevirtual 48, 3) := by decide +kernel
theorem dX4_measureRow_68 : decode cX4_measureRow 68 = .ok (.iadd, 1) := by decide +kernel
theorem dX4_measureRow_69 : decode cX4_measureRow 69 = .ok (.istore 4, 2) := by decide +kernel
theorem dX4_measureRow_71 : decode cX4_measureRow 71 = .ok (.iload 5, 2) := by decide +kernel
theorem dX4_measureRow_73 : decode cX4_measureRow 73 = .ok (.aload_n 0, 1) := by decide +kernel
theorem dX4_measureRow_74 : decode cX4_measureRow 74 = .ok (.aload_n 1, 1) := by decide +kernel
theorem dX4_measureRow_75 : decode cX4_measureRow 75 = .ok (.iload 7, 2) := by decide +kernel
theorem dX4_measureRow_77 : decode cX4_measureRow 77 = .ok (.invokevirtual 52, 3) := by decide +kernel
theorem dX4_measureRow_80 : decode cX4_measureRow 80 = .ok (.invokestatic 55, 3) := by decide +kernel
theorem dX4_measureRow_83 : decode cX4_measureRow 83 = .ok (.istore 5, 2) := by decide +kernel
theorem dX4_measureRow_85 : decode cX4_measureRow 85 = .ok (.iload 6, 2) := by decide +kernel
theorem dX4_measureRow_87 : decode cX4_measureRow 87 = .ok (.aload_n 0, 1) := by decide +kernel
theorem dX4_measureRow_88 : decode cX4_measureRow 88 = .ok (.aload_n 1, 1) := by decide +kernel
theorem dX4_measureRow_89 : decode cX4_measureRow 89 = .ok (.iload 7, 2) := by decide +kernel
theorem dX4_measureRow_91 : decode cX4_measureRow 91 = .ok (.invokevirtual 61, 3) := by decide +kernel
theorem dX4_measureRow_94 : decode cX4_measureRow 94 = .ok (.invokestatic 55, 3) := by decide +kernel
theorem dX4_measureRow_97 : decode cX4_measureRow 97 = .ok (.istore 6, 2) := by decide +kernel
theorem dX4_measureRow_99 : decode cX4_measureRow 99 = .ok (.aload_n 1, 1) := by decide +kernel
theorem dX4_measureRow_100 : decode cX4_measureRow 100 = .ok (.iload 7, 2) := by decide +kernel
theorem dX4_measureRow_102 : decode cX4_measureRow 102 = .ok (.invokevirtual 64, 3) := by decide +kernel
theorem dX4_measureRow_105 : decode cX4_measureRow 105 = .ok (.istore 7, 2) := by decide +kernel
theorem dX4_measureRow_107 : decode cX4_measureRow 107 = .ok (.iinc 8 1, 3) := by decide +kernel
theorem dX4_measureRow_110 : decode cX4_measureRow 110 = .ok (.goto (-70), 3) := by decide +kernel
theorem dX4_measureRow_113 : decode cX4_measureRow 113 = .ok (.iload_n 2, 1) := by decide +kernel
theorem dX4_measureRow_114 : decode cX4_measureRow 114 = .ok (.ifCond .lt 54, 3) := by decide +kernel
theorem dX4_measureRow_117 : decode cX4_measureRow 117 = .ok (.iload_n 2, 1) := by decide +kernel
theorem dX4_measureRow_118 : decode cX4_measureRow 118 = .ok (.aload_n 0, 1) := by decide +kernel
theorem dX4_measureRow_119 : decode cX4_measureRow 119 = .ok (.getfield 9, 3) := by decide +kernel
theorem dX4_measureRow_122 : decode cX4_measureRow 122 = .ok (.arraylength, 1) := by decide +kernel
theorem dX4_measureRow_123 : decode cX4_measureRow 123 = .ok (.if_icmp .ge 45, 3) := by decide +kernel
theorem dX4_measureRow_126 : decode cX4_measureRow 126 = .ok (.iload_n 2, 1) := by decide +kernel
theorem dX4_measureRow_127 : decode cX4_measureRow 127 = .ok (.aload_n 0, 1) := by decide +kernel
theorem dX4_measureRow_128 : decode cX4_measureRow 128 = .ok (.getfield 15, 3) := by decide +kernel
theorem dX4_measureRow_131 : decode cX4_measureRow 131 = .ok (.arraylength, 1) := by decide +kernel
theorem dX4_measureRow_132 : decode cX4_measureRow 132 = .ok (.if_icmp .ge 36, 3) := by decide +kernel
theorem dX4_measureRow_135 : decode cX4_measureRow 135 = .ok (.iload_n 2, 1) := by decide +kernel
theorem dX4_measureRow_136 : decode cX4_measureRow 136 = .ok (.aload_n 0, 1) := by decide +kernel
theorem dX4_measureRow_137 : decode cX4_measureRow 137 = .ok (.getfield 18, 3) := by decide +kernel
theorem dX4_measureRow_140 : decode cX4_measureRow 140 = .ok (.arraylength, 1) := by decide +kernel
theorem dX4_measureRow_141 : decode cX4_measureRow 141 = .ok (.if_icmp .ge 27, 3) := by decide +kernel
theorem dX4_measureRow_144 : decode cX4_measureRow 144 = .ok (.aload_n 0, 1) := by decide +kernel
theorem dX4_measureRow_145 : decode cX4_measureRow 145 = .ok (.getfield 9, 3) := by decide +kernel
theorem dX4_measureRow_148 : decode cX4_measureRow 148 = .ok (.iload_n 2, 1) := by decide +kernel
theorem dX4_measureRow_149 : decode cX4_measureRow 149 = .ok (.iload 4, 2) := by decide +kernel
theorem dX4_measureRow_151 : decode cX4_measureRow 151 = .ok (.iastore, 1) := by decide +kernel
theorem dX4_measureRow_152 : decode cX4_measureRow 152 = .ok (.aload_n 0, 1) := by decide +kernel
theorem dX4_measureRow_153 : decode cX4_measureRow 153 = .ok (.getfield 15, 3) := by decide +kernel
theorem dX4_measureRow_156 : decode cX4_measureRow 156 = .ok (.iload_n 2, 1) := by decide +kernel
theorem dX4_measureRow_157 : decode cX4_measureRow 157 = .ok (.iload 5, 2) := by decide +kernel
theorem dX4_measureRow_159 : decode cX4_measureRow 159 = .ok (.iastore, 1) := by decide +kernel
theorem dX4_measureRow_160 : decode cX4_measureRow 160 = .ok (.aload_n 0, 1) := by decide +kernel
theorem dX4_measureRow_161 : decode cX4_measureRow 161 = .ok (.getfield 18, 3) := by decide +kernel
theorem dX4_measureRow_164 : decode cX4_measureRow 164 = .ok (.iload_n 2, 1) := by decide +kernel
theorem dX4_measureRow_165 : decode cX4_measureRow 165 = .ok (.iload 6, 2) := by decide +kernel
theorem dX4_measureRow_167 : decode cX4_measureRow 167 = .ok (.iastore, 1) := by decide +kernel
theorem dX4_measureRow_168 : decode cX4_measureRow 168 = .ok (.return_, 1) := by decide +kernel
theorem dX4_itemWidth_0 : decode cX4_itemWidth 0 = .ok (.iload_n 2, 1) := by decide +kernel
theorem dX4_itemWidth_1 : decode cX4_itemWidth 1 = .ok (.iconst 1, 1) := by decide +kernel
theorem dX4_itemWidth_2 : decode cX4_itemWidth 2 = .ok (.iadd, 1) := by decide +kernel
theorem dX4_itemWidth_3 : decode cX4_itemWidth 3 = .ok (.istore_n 3, 1) := by decide +kernel
theorem dX4_itemWidth_4 : decode cX4_itemWidth 4 = .ok (.aload_n 1, 1) := by decide +kernel
theorem dX4_itemWidth_5 : decode cX4_itemWidth 5 = .ok (.iload_n 2, 1) := by decide +kernel
theorem dX4_itemWidth_6 : decode cX4_itemWidth 6 = .ok (.invokevirtual 34, 3) := by decide +kernel
theorem dX4_itemWidth_9 : decode cX4_itemWidth 9 = .ok (.tableswitch 75 1 5 #[35, 53, 53, 59, 67], 35) := by decide +kernel
theorem dX4_itemWidth_44 : decode cX4_itemWidth 44 = .ok (.aload_n 0, 1) := by decide +kernel
theorem dX4_itemWidth_45 : decode cX4_itemWidth 45 = .ok (.iload_n 3, 1) := by decide +kernel
theorem dX4_itemWidth_46 : decode cX4_itemWidth 46 = .ok (.invokevirtual 67, 3) := by decide +kernel
theorem dX4_itemWidth_49 : decode cX4_itemWidth 49 = .ok (.aload_n 0, 1) := by decide +kernel
theorem dX4_itemWidth_50 : decode cX4_itemWidth 50 = .ok (.aload_n 1, 1) := by decide +kernel
theorem dX4_itemWidth_51 : decode cX4_itemWidth 51 = .ok (.iload_n 2, 1) := by decide +kernel
theorem dX4_itemWidth_52 : decode cX4_itemWidth 52 = .ok (.invokevirtual 70, 3) := by decide +kernel
theorem dX4_itemWidth_55 : decode cX4_itemWidth 55 = .ok (.invokevirtual 67, 3) := by decide +kernel
theorem dX4_itemWidth_58 : decode cX4_itemWidth 58 = .ok (.invokestatic 55, 3) := by decide +kernel
theorem dX4_itemWidth_61 : decode cX4_itemWidth 61 = .ok (.ireturn, 1) := by decide +kernel
theorem dX4_itemWidth_62 : decode cX4_itemWidth 62 = .ok (.aload_n 0, 1) := by decide +kernel
theorem dX4_itemWidth_63 : decode cX4_itemWidth 63 = .ok (.iload_n 3, 1) := by decide +kernel
theorem dX4_itemWidth_64 : decode cX4_itemWidth 64 = .ok (.invokevirtual 67, 3) := by decide +kernel
theorem dX4_itemWidth_67 : decode cX4_itemWidth 67 = .ok (.ireturn, 1) := by decide +kernel
theorem dX4_itemWidth_68 : decode cX4_itemWidth 68 = .ok (.iconst 1, 1) := by decide +kernel
theorem dX4_itemWidth_69 : decode cX4_itemWidth 69 = .ok (.aload_n 0, 1) := by decide +kernel
theorem dX4_itemWidth_70 : decode cX4_itemWidth 70 = .ok (.iload_n 3, 1) := by decide +kernel
theorem dX4_itemWidth_71 : decode cX4_itemWidth 71 = .ok (.invokevirtual 67, 3) := by decide +kernel
theorem dX4_itemWidth_74 : decode cX4_itemWidth 74 = .ok (.iadd, 1) := by decide +kernel
theorem dX4_itemWidth_75 : decode cX4_itemWidth 75 = .ok (.ireturn, 1) := by decide +kernel
theorem dX4_itemWidth_76 : decode cX4_itemWidth 76 = .ok (.iconst 2, 1) := by decide +kernel
theorem dX4_itemWidth_77 : decode cX4_itemWidth 77 = .ok (.aload_n 0, 1) := by decide +kernel
theorem dX4_itemWidth_78 : decode cX4_itemWidth 78 = .ok (.iload_n 3, 1) := by decide +kernel
theorem dX4_itemWidth_79 : decode cX4_itemWidth 79 = .ok (.invokevirtual 67, 3) := by decide +kernel
theorem dX4_itemWidth_82 : decode cX4_itemWidth 82 = .ok (.iadd, 1) := by decide +kernel
theorem dX4_itemWidth_83 : decode cX4_itemWidth 83 = .ok (.ireturn, 1) := by decide +kernel
theorem dX4_itemWidth_84 : decode cX4_itemWidth 84 = .ok (.iconst 1, 1) := by decide +kernel
theorem dX4_itemWidth_85 : decode cX4_itemWidth 85 = .ok (.ireturn, 1) := by decide +kernel
theorem dX4_itemAbove_0 : decode cX4_itemAbove 0 = .ok (.iload_n 2, 1) := by decide +kernel
theorem dX4_itemAbove_1 : decode cX4_itemAbove 1 = .ok (.iconst 1, 1) := by decide +kernel
theorem dX4_itemAbove_2 : decode cX4_itemAbove 2 = .ok (.iadd, 1) := by decide +kernel
theorem dX4_itemAbove_3 : decode cX4_itemAbove 3 = .ok (.istore_n 3, 1) := by decide +kernel
theorem dX4_itemAbove_4 : decode cX4_itemAbove 4 = .ok (.aload_n 1, 1) := by decide +kernel
theorem dX4_itemAbove_5 : decode cX4_itemAbove 5 = .ok (.iload_n 2, 1) := by decide +kernel
theorem dX4_itemAbove_6 : decode cX4_itemAbove 6 = .ok (.invokevirtual 34, 3) := by decide +kernel
theorem dX4_itemAbove_9 : decode cX4_itemAbove 9 = .ok (.tableswitch 55 1 5 #[35, 35, 55, 41, 49], 35) := by decide +kernel
theorem dX4_itemAbove_44 : decode cX4_itemAbove 44 = .ok (.aload_n 0, 1) := by decide +kernel
theorem dX4_itemAbove_45 : decode cX4_itemAbove 45 = .ok (.iload_n 3, 1) := by decide +kernel
theorem dX4_itemAbove_46 : decode cX4_itemAbove 46 = .ok (.invokevirtual 73, 3) := by decide +kernel
theorem dX4_itemAbove_49 : decode cX4_itemAbove 49 = .ok (.ireturn, 1) := by decide +kernel
theorem dX4_itemAbove_50 : decode cX4_itemAbove 50 = .ok (.iconst 1, 1) := by decide +kernel
theorem dX4_itemAbove_51 : decode cX4_itemAbove 51 = .ok (.aload_n 0, 1) := by decide +kernel
theorem dX4_itemAbove_52 : decode cX4_itemAbove 52 = .ok (.iload_n 3, 1) := by decide +kernel
theorem dX4_itemAbove_53 : decode cX4_itemAbove 53 = .ok (.invokevirtual 21, 3) := by decide +kernel
theorem dX4_itemAbove_56 : decode cX4_itemAbove 56 = .ok (.iadd, 1) := by decide +kernel
theorem dX4_itemAbove_57 : decode cX4_itemAbove 57 = .ok (.ireturn, 1) := by decide +kernel
theorem dX4_itemAbove_58 : decode cX4_itemAbove 58 = .ok (.aload_n 0, 1) := by decide +kernel
theorem dX4_itemAbove_59 : decode cX4_itemAbove 59 = .ok (.iload_n 3, 1) := by decide +kernel
theorem dX4_itemAbove_60 : decode cX4_itemAbove 60 = .ok (.invokevirtual 21, 3) := by decide +kernel
theorem dX4_itemAbove_63 : decode cX4_itemAbove 63 = .ok (.ireturn, 1) := by decide +kernel
theorem dX4_itemAbove_64 : decode cX4_itemAbove 64 = .ok (.iconst 0, 1) := by decide +kernel
theorem dX4_itemAbove_65 : decode cX4_itemAbove 65 = .ok (.ireturn, 1) := by decide +kernel
theorem dX4_itemBelow_0 : decode cX4_itemBelow 0 = .ok (.iload_n 2, 1) := by decide +kernel
theorem dX4_itemBelow_1 : decode cX4_itemBelow 1 = .ok (.iconst 1, 1) := by decide +kernel
theorem dX4_itemBelow_2 : decode cX4_itemBelow 2 = .ok (.iadd, 1) := by decide +kernel
theorem dX4_itemBelow_3 : decode cX4_itemBelow 3 = .ok (.istore_n 3, 1) := by decide +kernel
theorem dX4_itemBelow_4 : decode cX4_itemBelow 4 = .ok (.aload_n 1, 1) := by decide +kernel
theorem dX4_itemBelow_5 : decode cX4_itemBelow 5 = .ok (.iload_n 2, 1) := by decide +kernel
theorem dX4_itemBelow_6 : decode cX4_itemBelow 6 = .ok (.invokevirtual 34, 3) := by decide +kernel
theorem dX4_itemBelow_9 : decode cX4_itemBelow 9 = .ok (.tableswitch 57 1 5 #[35, 57, 45, 51, 51], 35) := by decide +kernel
theorem dX4_itemBelow_44 : decode cX4_itemBelow 44 = .ok (.aload_n 0, 1) := by decide +kernel
theorem dX4_itemBelow_45 : decode cX4_itemBelow 45 = .ok (.aload_n 1, 1) := by decide +kernel
theorem dX4_itemBelow_46 : decode cX4_itemBelow 46 = .ok (.iload_n 2, 1) := by decide +kernel
theorem dX4_itemBelow_47 : decode cX4_itemBelow 47 = .ok (.invokevirtual 70, 3) := by decide +kernel
theorem dX4_itemBelow_50 : decode cX4_itemBelow 50 = .ok (.invokevirtual 73, 3) := by decide +kernel
theorem dX4_itemBelow_53 : decode cX4_itemBelow 53 = .ok (.ireturn, 1) := by decide +kernel
theorem dX4_itemBelow_54 : decode cX4_itemBelow 54 = .ok (.aload_n 0, 1) := by decide +kernel
theorem dX4_itemBelow_55 : decode cX4_itemBelow 55 = .ok (.iload_n 3, 1) := by decide +kernel
theorem dX4_itemBelow_56 : decode cX4_itemBelow 56 = .ok (.invokevirtual 73, 3) := by decide +kernel
theorem dX4_itemBelow_59 : decode cX4_itemBelow 59 = .ok (.ireturn, 1) := by decide +kernel
theorem dX4_itemBelow_60 : decode cX4_itemBelow 60 = .ok (.aload_n 0, 1) := by decide +kernel
theorem dX4_itemBelow_61 : decode cX4_itemBelow 61 = .ok (.iload_n 3, 1) := by decide +kernel
theorem dX4_itemBelow_62 : decode cX4_itemBelow 62 = .ok (.invokevirtual 25, 3) := by decide +kernel
theorem dX4_itemBelow_65 : decode cX4_itemBelow 65 = .ok (.ireturn, 1) := by decide +kernel
theorem dX4_itemBelow_66 : decode cX4_itemBelow 66 = .ok (.iconst 0, 1) := by decide +kernel
theorem dX4_itemBelow_67 : decode cX4_itemBelow 67 = .ok (.ireturn, 1) := by decide +kernel
theorem dX4_signAt_0 : decode cX4_signAt 0 = .ok (.aload_n 0, 1) := by decide +kernel
theorem dX4_signAt_1 : decode cX4_signAt 1 = .ok (.iconst 0, 1) := by decide +kernel
theorem dX4_signAt_2 : decode cX4_signAt 2 = .ok (.putfield 76, 3) := by decide +kernel
theorem dX4_signAt_5 : decode cX4_signAt 5 = .ok (.aload_n 0, 1) := by decide +kernel
theorem dX4_signAt_6 : decode cX4_signAt 6 = .ok (.iload_n 2, 1) := by decide +kernel
theorem dX4_signAt_7 : decode cX4_signAt 7 = .ok (.putfield 79, 3) := by decide +kernel
theorem dX4_signAt_10 : decode cX4_signAt 10 = .ok (.aload_n 0, 1) := by decide +kernel
theorem dX4_signAt_11 : decode cX4_signAt 11 = .ok (.iload_n 3, 1) := by decide +kernel
theorem dX4_signAt_12 : decode cX4_signAt 12 = .ok (.aload_n 0, 1) := by decide +kernel
theorem dX4_signAt_13 : decode cX4_signAt 13 = .ok (.iconst 0, 1) := by decide +kernel
theorem dX4_signAt_14 : decode cX4_signAt 14 = .ok (.invokevirtual 21, 3) := by decide +kernel
theorem dX4_signAt_17 : decode cX4_signAt 17 = .ok (.isub, 1) := by decide +kernel
theorem dX4_signAt_18 : decode cX4_signAt 18 = .ok (.putfield 82, 3) := by decide +kernel
theorem dX4_signAt_21 : decode cX4_signAt 21 = .ok (.iconst 0, 1) := by decide +kernel
theorem dX4_signAt_22 : decode cX4_signAt 22 = .ok (.istore 4, 2) := by decide +kernel
theorem dX4_signAt_24 : decode cX4_signAt 24 = .ok (.iload 4, 2) := by decide +kernel
theorem dX4_signAt_26 : decode cX4_signAt 26 = .ok (.iconst 5, 1) := by decide +kernel
theorem dX4_signAt_27 : decode cX4_signAt 27 = .ok (.if_icmp .gt 26, 3) := by decide +kernel
theorem dX4_signAt_30 : decode cX4_signAt 30 = .ok (.aload_n 0, 1) := by decide +kernel
theorem dX4_signAt_31 : decode cX4_signAt 31 = .ok (.aload_n 1, 1) := by decide +kernel
theorem dX4_signAt_32 : decode cX4_signAt 32 = .ok (.invokevirtual 85, 3) := by decide +kernel
theorem dX4_signAt_35 : decode cX4_signAt 35 = .ok (.istore 5, 2) := by decide +kernel
theorem dX4_signAt_37 : decode cX4_signAt 37 = .ok (.iload 5, 2) := by decide +kernel
theorem dX4_signAt_39 : decode cX4_signAt 39 = .ok (.bipush (-9), 2) := by decide +kernel
theorem dX4_signAt_41 : decode cX4_signAt 41 = .ok (.if_icmp .eq 6, 3) := by decide +kernel
theorem dX4_signAt_44 : decode cX4_signAt 44 = .ok (.iload 5, 2) := by decide +kernel
theorem dX4_signAt_46 : decode cX4_signAt 46 = .ok (.ireturn, 1) := by decide +kernel
theorem dX4_signAt_47 : decode cX4_signAt 47 = .ok (.iinc 4 1, 3) := by decide +kernel
theorem dX4_signAt_50 : decode cX4_signAt 50 = .ok (.goto (-26), 3) := by decide +kernel
theorem dX4_signAt_53 : decode cX4_signAt 53 = .ok (.bipush 32, 2) := by decide +kernel
theorem dX4_signAt_55 : decode cX4_signAt 55 = .ok (.ireturn, 1) := by decide +kernel
theorem dX4_signInRow_0 : decode cX4_signInRow 0 = .ok (.aload_n 1, 1) := by decide +kernel
theorem dX4_signInRow_1 : decode cX4_signInRow 1 = .ok (.aload_n 0, 1) := by decide +kernel
theorem dX4_signInRow_2 : decode cX4_signInRow 2 = .ok (.getfield 76, 3) := by decide +kernel
theorem dX4_signInRow_5 : decode cX4_signInRow 5 = .ok (.invokevirtual 34, 3) := by decide +kernel
theorem dX4_signInRow_8 : decode cX4_signInRow 8 = .ok (.invokestatic 45, 3) := by decide +kernel
theorem dX4_signInRow_11 : decode cX4_signInRow 11 = .ok (.ifCond .ne 18, 3) := by decide +kernel
theorem dX4_signInRow_14 : decode cX4_signInRow 14 = .ok (.aload_n 0, 1) := by decide +kernel
theorem dX4_signInRow_15 : decode cX4_signInRow 15 = .ok (.getfield 82, 3) := by decide +kernel
theorem dX4_signInRow_18 : decode cX4_signInRow 18 = .ok (.ifCond .ne 8, 3) := by decide +kernel
theorem dX4_signInRow_21 : decode cX4_signInRow 21 = .ok (.bipush 63, 2) := by decide +kernel
theorem dX4_signInRow_23 : decode cX4_signInRow 23 = .ok (.goto 5, 3) := by decide +kernel
theorem dX4_signInRow_26 : decode cX4_signInRow 26 = .ok (.bipush 32, 2) := by decide +kernel
theorem dX4_signInRow_28 : decode cX4_signInRow 28 = .ok (.ireturn, 1) := by decide +kernel
theorem dX4_signInRow_29 : decode cX4_signInRow 29 = .ok (.aload_n 0, 1) := by decide +kernel
theorem dX4_signInRow_30 : decode cX4_signInRow 30 = .ok (.aload_n 1, 1) := by decide +kernel
theorem dX4_signInRow_31 : decode cX4_signInRow 31 = .ok (.invokevirtual 89, 3) := by decide +kernel
theorem dX4_signInRow_34 : decode cX4_signInRow 34 = .ok (.istore_n 2, 1) := by decide +kernel
theorem dX4_signInRow_35 : decode cX4_signInRow 35 = .ok (.aload_n 1, 1) := by decide +kernel
theorem dX4_signInRow_36 : decode cX4_signInRow 36 = .ok (.iload_n 2, 1) := by decide +kernel
theorem dX4_signInRow_37 : decode cX4_signInRow 37 = .ok (.invokevirtual 34, 3) := by decide +kernel
theorem dX4_signInRow_40 : decode cX4_signInRow 40 = .ok (.tableswitch 91 1 5 #[36, 43, 59, 75, 83], 36) := by decide +kernel
theorem dX4_signInRow_76 : decode cX4_signInRow 76 = .ok (.aload_n 0, 1) := by decide +kernel
theorem dX4_signInRow_77 : decode cX4_signInRow 77 = .ok (.aload_n 1, 1) := by decide +kernel
theorem dX4_signInRow_78 : decode cX4_signInRow 78 = .ok (.iload_n 2, 1) := by decide +kernel
theorem dX4_signInRow_79 : decode cX4_signInRow 79 = .ok (.invokevirtual 92, 3) := by decide +kernel
theorem dX4_signInRow_82 : decode cX4_signInRow 82 = .ok (.ireturn, 1) := by decide +kernel
theorem dX4_signInRow_83 : decode cX4_signInRow 83 = .ok (.aload_n 0, 1) := by decide +kernel
theorem dX4_signInRow_84 : decode cX4_signInRow 84 = .ok (.iload_n 2, 1) := by decide +kernel
theorem dX4_signInRow_85 : decode cX4_signInRow 85 = .ok (.iconst 1, 1) := by decide +kernel
theorem dX4_signInRow_86 : decode cX4_signInRow 86 = .ok (.iadd, 1) := by decide +kernel
theorem dX4_signInRow_87 : decode cX4_signInRow 87 = .ok (.iconst 0, 1) := by decide +kernel
theorem dX4_signInRow_88 : decode cX4_signInRow 88 = .ok (.aload_n 0, 1) := by decide +kernel
theorem dX4_signInRow_89 : decode cX4_signInRow 89 = .ok (.iload_n 2, 1) := by decide +kernel
theorem dX4_signInRow_90 : decode cX4_signInRow 90 = .ok (.iconst 1, 1) := by decide +kernel
theorem dX4_signInRow_91 : decode cX4_signInRow 91 = .ok (.iadd, 1) := by decide +kernel
theorem dX4_signInRow_92 : decode cX4_signInRow 92 = .ok (.invokevirtual 95, 3) := by decide +kernel
theorem dX4_signInRow_95 : decode cX4_signInRow 95 = .ok (.invokevirtual 98, 3) := by decide +kernel
theorem dX4_signInRow_98 : decode cX4_signInRow 98 = .ok (.ireturn, 1) := by decide +kernel
theorem dX4_signInRow_99 : decode cX4_signInRow 99 = .ok (.aload_n 0, 1) := by decide +kernel
theorem dX4_signInRow_100 : decode cX4_signInRow 100 = .ok (.iload_n 2, 1) := by decide +kernel
theorem dX4_signInRow_101 : decode cX4_signInRow 101 = .ok (.iconst 1, 1) := by decide +kernel
theorem dX4_signInRow_102 : decode cX4_signInRow 102 = .ok (.iadd, 1) := by decide +kernel
theorem dX4_signInRow_103 : decode cX4_signInRow 103 = .ok (.iconst 0, 1) := by decide +kernel
theorem dX4_signInRow_104 : decode cX4_signInRow 104 = .ok (.aload_n 0, 1) := by decide +kernel
theorem dX4_signInRow_105 : decode cX4_signInRow 105 = .ok (.iload_n 2, 1) := by decide +kernel
theorem dX4_signInRow_106 : decode cX4_signInRow 106 = .ok (.iconst 1, 1) := by decide +kernel
theorem dX4_signInRow_107 : decode cX4_signInRow 107 = .ok (.iadd, 1) := by decide +kernel
theorem dX4_signInRow_108 : decode cX4_signInRow 108 = .ok (.invokevirtual 102, 3) := by decide +kernel
theorem dX4_signInRow_111 : decode cX4_signInRow 111 = .ok (.invokevirtual 98, 3) := by decide +kernel
theorem dX4_signInRow_114 : decode cX4_signInRow 114 = .ok (.ireturn, 1) := by decide +kernel
theorem dX4_signInRow_115 : decode cX4_signInRow 115 = .ok (.aload_n 0, 1) := by decide +kernel
theorem dX4_signInRow_116 : decode cX4_signInRow 116 = .ok (.iload_n 2, 1) := by decide +kernel
theorem dX4_signInRow_117 : decode cX4_signInRow 117 = .ok (.iconst 1, 1) := by decide +kernel
theorem dX4_signInRow_118 : decode cX4_signInRow 118 = .ok (.iadd, 1) := by decide +kernel
theorem dX4_signInRow_119 : decode cX4_signInRow 119 = .ok (.invokevirtual 105, 3) := by decide +kernel
theorem dX4_signInRow_122 : decode cX4_signInRow 122 = .ok (.ireturn, 1) := by decide +kernel
theorem dX4_signInRow_123 : decode cX4_signInRow 123 = .ok (.aload_n 0, 1) := by decide +kernel
theorem dX4_signInRow_124 : decode cX4_signInRow 124 = .ok (.iload_n 2, 1) := by decide +kernel
theorem dX4_signInRow_125 : decode cX4_signInRow 125 = .ok (.iconst 1, 1) := by decide +kernel
theorem dX4_signInRow_126 : decode cX4_signInRow 126 = .ok (.iadd, 1) := by decide +kernel
theorem dX4_signInRow_127 : decode cX4_signInRow 127 = .ok (.invokevirtual 108, 3) := by decide +kernel
theorem dX4_signInRow_130 : decode cX4_signInRow 130 = .ok (.ireturn, 1) := by decide +kernel
theorem dX4_signInRow_131 : decode cX4_signInRow 131 = .ok (.aload_n 0, 1) := by decide +kernel
theorem dX4_signInRow_132 : decode cX4_signInRow 132 = .ok (.getfield 82, 3) := by decide +kernel
theorem dX4_signInRow_135 : decode cX4_signInRow 135 = .ok (.ifCond .ne 11, 3) := by decide +kernel
theorem dX4_signInRow_138 : decode cX4_signInRow 138 = .ok (.aload_n 1, 1) := by decide +kernel
theorem dX4_signInRow_139 : decode cX4_signInRow 139 = .ok (.iload_n 2, 1) := by decide +kernel
theorem dX4_signInRow_140 : decode cX4_signInRow 140 = .ok (.invokevirtual 34, 3) := by decide +kernel
theorem dX4_signInRow_143 : decode cX4_signInRow 143 = .ok (.goto 5, 3) := by decide +kernel
theorem dX4_signInRow_146 : decode cX4_signInRow 146 = .ok (.bipush 32, 2) := by decide +kernel
theorem dX4_signInRow_148 : decode cX4_signInRow 148 = .ok (.ireturn, 1) := by decide +kernel
theorem dX4_itemAtColumn_0 : decode cX4_itemAtColumn 0 = .ok (.aload_n 0, 1) := by decide +kernel
theorem dX4_itemAtColumn_1 : decode cX4_itemAtColumn 1 = .ok (.getfield 76, 3) := by decide +kernel
theorem dX4_itemAtColumn_4 : decode cX4_itemAtColumn 4 = .ok (.istore_n 2, 1) := by decide +kernel
theorem dX4_itemAtColumn_5 : decode cX4_itemAtColumn 5 = .ok (.iconst 0, 1) := by decide +kernel
theorem dX4_itemAtColumn_6 : decode cX4_itemAtColumn 6 = .ok (.istore_n 3, 1) := by decide +kernel
theorem dX4_itemAtColumn_7 : decode cX4_itemAtColumn 7 = .ok (.iload_n 3, 1) := by decide +kernel
theorem dX4_itemAtColumn_8 : decode cX4_itemAtColumn 8 = .ok (.bipush 60, 2) := by decide +kernel
theorem dX4_itemAtColumn_10 : decode cX4_itemAtColumn 10 = .ok (.if_icmp .ge 43, 3) := by decide +kernel
theorem dX4_itemAtColumn_13 : decode cX4_itemAtColumn 13 = .ok (.aload_n 0, 1) := by decide +kernel
theorem dX4_itemAtColumn_14 : decode cX4_itemAtColumn 14 = .ok (.getfield 79, 3) := by decide +kernel
theorem dX4_itemAtColumn_17 : decode cX4_itemAtColumn 17 = .ok (.aload_n 0, 1) := by decide +kernel
theorem dX4_itemAtColumn_18 : decode cX4_itemAtColumn 18 = .ok (.aload_n 1, 1) := by decide +kernel
theorem dX4_itemAtColumn_19 : decode cX4_itemAtColumn 19 = .ok (.iload_n 2, 1) := by decide +kernel
theorem dX4_itemAtColumn_20 : decode cX4_itemAtColumn 20 = .ok (.invokevirtual 48, 3) := by decide +kernel
theorem dX4_itemAtColumn_23 : decode cX4_itemAtColumn 23 = .ok (.if_icmp .lt 30, 3) := by decide +kernel
theorem dX4_itemAtColumn_26 : decode cX4_itemAtColumn 26 = .ok (.aload_n 0, 1) := by decide +kernel
theorem dX4_itemAtColumn_27 : decode cX4_itemAtColumn 27 = .ok (.dup, 1) := by decide +kernel
theorem dX4_itemAtColumn_28 : decode cX4_itemAtColumn 28 = .ok (.getfield 79, 3) := by decide +kernel
theorem dX4_itemAtColumn_31 : decode cX4_itemAtColumn 31 = .ok (.aload_n 0, 1) := by decide +kernel
theorem dX4_itemAtColumn_32 : decode cX4_itemAtColumn 32 = .ok (.aload_n 1, 1) := by decide +kernel
theorem dX4_itemAtColumn_33 : decode cX4_itemAtColumn 33 = .ok (.iload_n 2, 1) := by decide +kernel
theorem dX4_itemAtColumn_34 : decode cX4_itemAtColumn 34 = .ok (.invokevirtual 48, 3) := by decide +kernel
theorem dX4_itemAtColumn_37 : decode cX4_itemAtColumn 37 = .ok (.isub, 1) := by decide +kernel
theorem dX4_itemAtColumn_38 : decode cX4_itemAtColumn 38 = .ok (.putfield 79, 3) := by decide +kernel
theorem dX4_itemAtColumn_41 : decode cX4_itemAtColumn 41 = .ok (.aload_n 1, 1) := by decide +kernel
theorem dX4_itemAtColumn_42 : decode cX4_itemAtColumn 42 = .ok (.iload_n 2, 1) := by decide +kernel
theorem dX4_itemAtColumn_43 : decode cX4_itemAtColumn 43 = .ok (.invokevirtual 64, 3) := by decide +kernel
theorem dX4_itemAtColumn_46 : decode cX4_itemAtColumn 46 = .ok (.istore_n 2, 1) := by decide +kernel
theorem dX4_itemAtColumn_47 : decode cX4_itemAtColumn 47 = .ok (.iinc 3 1, 3) := by decide +kernel
theorem dX4_itemAtColumn_50 : decode cX4_itemAtColumn 50 = .ok (.goto (-43), 3) := by decide +kernel
theorem dX4_itemAtColumn_53 : decode cX4_itemAtColumn 53 = .ok (.iload_n 2, 1) := by decide +kernel
theorem dX4_itemAtColumn_54 : decode cX4_itemAtColumn 54 = .ok (.ireturn, 1) := by decide +kernel
theorem dX4_signInFraction_0 : decode cX4_signInFraction 0 = .ok (.aload_n 0, 1) := by decide +kernel
theorem dX4_signInFraction_1 : decode cX4_signInFraction 1 = .ok (.getfield 82, 3) := by decide +kernel
theorem dX4_signInFraction_4 : decode cX4_signInFraction 4 = .ok (.ifCond .ne 6, 3) := by decide +kernel
theorem dX4_signInFraction_7 : decode cX4_signInFraction 7 = .ok (.bipush 45, 2) := by decide +kernel
theorem dX4_signInFraction_9 : decode cX4_signInFraction 9 = .ok (.ireturn, 1) := by decide +kernel
theorem dX4_signInFraction_10 : decode cX4_signInFraction 10 = .ok (.aload_n 0, 1) := by decide +kernel
theorem dX4_signInFraction_11 : decode cX4_signInFraction 11 = .ok (.getfield 82, 3) := by decide +kernel
theorem dX4_signInFraction_14 : decode cX4_signInFraction 14 = .ok (.ifCond .ge 9, 3) := by decide +kernel
theorem dX4_signInFraction_17 : decode cX4_signInFraction 17 = .ok (.iload_n 2, 1) := by decide +kernel
theorem dX4_signInFraction_18 : decode cX4_signInFraction 18 = .ok (.iconst 1, 1) := by decide +kernel
theorem dX4_signInFraction_19 : decode cX4_signInFraction 19 = .ok (.iadd, 1) := by decide +kernel
theorem dX4_signInFraction_20 : decode cX4_signInFraction 20 = .ok (.goto 8, 3) := by decide +kernel
theorem dX4_signInFraction_23 : decode cX4_signInFraction 23 = .ok (.aload_n 1, 1) := by decide +kernel
theorem dX4_signInFraction_24 : decode cX4_signInFraction 24 = .ok (.iload_n 2, 1) := by decide +kernel
theorem dX4_signInFraction_25 : decode cX4_signInFraction 25 = .ok (.invokevirtual 70, 3) := by decide +kernel
theorem dX4_signInFraction_28 : decode cX4_signInFraction 28 = .ok (.istore_n 3, 1) := by decide +kernel
theorem dX4_signInFraction_29 : decode cX4_signInFraction 29 = .ok (.aload_n 0, 1) := by decide +kernel
theorem dX4_signInFraction_30 : decode cX4_signInFraction 30 = .ok (.aload_n 1, 1) := by decide +kernel
theorem dX4_signInFraction_31 : decode cX4_signInFraction 31 = .ok (.iload_n 2, 1) := by decide +kernel
theorem dX4_signInFraction_32 : decode cX4_signInFraction 32 = .ok (.invokevirtual 48, 3) := by decide +kernel
theorem dX4_signInFraction_35 : decode cX4_signInFraction 35 = .ok (.aload_n 0, 1) := by decide +kernel
theorem dX4_signInFraction_36 : decode cX4_signInFraction 36 = .ok (.iload_n 3, 1) := by decide +kernel
theorem dX4_signInFraction_37 : decode cX4_signInFraction 37 = .ok (.invokevirtual 67, 3) := by decide +kernel
theorem dX4_signInFraction_40 : decode cX4_signInFraction 40 = .ok (.isub, 1) := by decide +kernel
theorem dX4_signInFraction_41 : decode cX4_signInFraction 41 = .ok (.iconst 2, 1) := by decide +kernel
theorem dX4_signInFraction_42 : decode cX4_signInFraction 42 = .ok (.idiv, 1) := by decide +kernel
theorem dX4_signInFraction_43 : decode cX4_signInFraction 43 = .ok (.istore 4, 2) := by decide +kernel
theorem dX4_signInFraction_45 : decode cX4_signInFraction 45 = .ok (.aload_n 0, 1) := by decide +kernel
theorem dX4_signInFraction_46 : decode cX4_signInFraction 46 = .ok (.iload_n 3, 1) := by decide +kernel
theorem dX4_signInFraction_47 : decode cX4_signInFraction 47 = .ok (.iload 4, 2) := by decide +kernel
theorem dX4_signInFraction_49 : decode cX4_signInFraction 49 = .ok (.aload_n 0, 1) := by decide +kernel
theorem dX4_signInFraction_50 : decode cX4_signInFraction 50 = .ok (.getfield 82, 3) := by decide +kernel
theorem dX4_signInFraction_53 : decode cX4_signInFraction 53 = .ok (.ifCond .ge 11, 3) := by decide +kernel
theorem dX4_signInFraction_56 : decode cX4_signInFraction 56 = .ok (.aload_n 0, 1) := by decide +kernel
theorem dX4_signInFraction_57 : decode cX4_signInFraction 57 = .ok (.iload_n 3, 1) := by decide +kernel
theorem dX4_signInFraction_58 : decode cX4_signInFraction 58 = .ok (.invokevirtual 95, 3) := by decide +kernel
theorem dX4_signInFraction_61 : decode cX4_signInFraction 61 = .ok (.goto 8, 3) := by decide +kernel
theorem dX4_signInFraction_64 : decode cX4_signInFraction 64 = .ok (.aload_n 0, 1) := by decide +kernel
theorem dX4_signInFraction_65 : decode cX4_signInFraction 65 = .ok (.iload_n 3, 1) := by decide +kernel
theorem dX4_signInFraction_66 : decode cX4_signInFraction 66 = .ok (.invokevirtual 102, 3) := by decide +kernel
theorem dX4_signInFraction_69 : decode cX4_signInFraction 69 = .ok (.invokevirtual 98, 3) := by decide +kernel
theorem dX4_signInFraction_72 : decode cX4_signInFraction 72 = .ok (.ireturn, 1) := by decide +kernel
theorem dX4_signInRoot_0 : decode cX4_signInRoot 0 = .ok (.aload_n 0, 1) := by decide +kernel
theorem dX4_signInRoot_1 : decode cX4_signInRoot 1 = .ok (.getfield 82, 3) := by decide +kernel
theorem dX4_signInRoot_4 : decode cX4_signInRoot 4 = .ok (.aload_n 0, 1) := by decide +kernel
theorem dX4_signInRoot_5 : decode cX4_signInRoot 5 = .ok (.iload_n 1, 1) := by decide +kernel
theorem dX4_signInRoot_6 : decode cX4_signInRoot 6 = .ok (.invokevirtual 21, 3) := by decide +kernel
theorem dX4_signInRoot_9 : decode cX4_signInRoot 9 = .ok (.ineg, 1) := by decide +kernel
theorem dX4_signInRoot_10 : decode cX4_signInRoot 10 = .ok (.iconst 1, 1) := by decide +kernel
theorem dX4_signInRoot_11 : decode cX4_signInRoot 11 = .ok (.isub, 1) := by decide +kernel
theorem dX4_signInRoot_12 : decode cX4_signInRoot 12 = .ok (.if_icmp .ne 18, 3) := by decide +kernel
theorem dX4_signInRoot_15 : decode cX4_signInRoot 15 = .ok (.aload_n 0, 1) := by decide +kernel
theorem dX4_signInRoot_16 : decode cX4_signInRoot 16 = .ok (.getfield 79, 3) := by decide +kernel
theorem dX4_signInRoot_19 : decode cX4_signInRoot 19 = .ok (.ifCond .le 8, 3) := by decide +kernel
theorem dX4_signInRoot_22 : decode cX4_signInRoot 22 = .ok (.bipush 95, 2) := by decide +kernel
theorem dX4_signInRoot_24 : decode cX4_signInRoot 24 = .ok (.goto 5, 3) := by decide +kernel
theorem dX4_signInRoot_27 : decode cX4_signInRoot 27 = .ok (.bipush 32, 2) := by decide +kernel
theorem dX4_signInRoot_29 : decode cX4_signInRoot 29 = .ok (.ireturn, 1) := by decide +kernel
theorem dX4_signInRoot_30 : decode cX4_signInRoot 30 = .ok (.aload_n 0, 1) := by decide +kernel
theorem dX4_signInRoot_31 : decode cX4_signInRoot 31 = .ok (.getfield 79, 3) := by decide +kernel
theorem dX4_signInRoot_34 : decode cX4_signInRoot 34 = .ok (.ifCond .ne 19, 3) := by decide +kernel
theorem dX4_signInRoot_37 : decode cX4_signInRoot 37 = .ok (.aload_n 0, 1) := by decide +kernel
theorem dX4_signInRoot_38 : decode cX4_signInRoot 38 = .ok (.iload_n 1, 1) := by decide +kernel
theorem dX4_signInRoot_39 : decode cX4_signInRoot 39 = .ok (.invokevirtual 111, 3) := by decide +kernel
theorem dX4_signInRoot_42 : decode cX4_signInRoot 42 = .ok (.ifCond .eq 8, 3) := by decide +kernel
theorem dX4_signInRoot_45 : decode cX4_signInRoot 45 = .ok (.bipush 86, 2) := by decide +kernel
theorem dX4_signInRoot_47 : decode cX4_signInRoot 47 = .ok (.goto 5, 3) := by decide +kernel
theorem dX4_signInRoot_50 : decode cX4_signInRoot 50 = .ok (.bipush 32, 2) := by decide +kernel
theorem dX4_signInRoot_52 : decode cX4_signInRoot 52 = .ok (.ireturn, 1) := by decide +kernel
theorem dX4_signInRoot_53 : decode cX4_signInRoot 53 = .ok (.aload_n 0, 1) := by decide +kernel
theorem dX4_signInRoot_54 : decode cX4_signInRoot 54 = .ok (.iload_n 1, 1) := by decide +kernel
theorem dX4_signInRoot_55 : decode cX4_signInRoot 55 = .ok (.iconst 1, 1) := by decide +kernel
theorem dX4_signInRoot_56 : decode cX4_signInRoot 56 = .ok (.iconst 0, 1) := by decide +kernel
theorem dX4_signInRoot_57 : decode cX4_signInRoot 57 = .ok (.invokevirtual 98, 3) := by decide +kernel
theorem dX4_signInRoot_60 : decode cX4_signInRoot 60 = .ok (.ireturn, 1) := by decide +kernel
theorem dX4_signInParentheses_0 : decode cX4_signInParentheses 0 = .ok (.aload_n 0, 1) := by decide +kernel
theorem dX4_signInParentheses_1 : decode cX4_signInParentheses 1 = .ok (.getfield 79, 3) := by decide +kernel
theorem dX4_signInParentheses_4 : decode cX4_signInParentheses 4 = .ok (.ifCond .ne 19, 3) := by decide +kernel
theorem dX4_signInParentheses_7 : decode cX4_signInParentheses 7 = .ok (.aload_n 0, 1) := by decide +kernel
theorem dX4_signInParentheses_8 : decode cX4_signInParentheses 8 = .ok (.iload_n 1, 1) := by decide +kernel
theorem dX4_signInParentheses_9 : decode cX4_signInParentheses 9 = .ok (.invokevirtual 111, 3) := by decide +kernel
theorem dX4_signInParentheses_12 : decode cX4_signInParentheses 12 = .ok (.ifCond .eq 8, 3) := by decide +kernel
theorem dX4_signInParentheses_15 : decode cX4_signInParentheses 15 = .ok (.bipush 40, 2) := by decide +kernel
theorem dX4_signInParentheses_17 : decode cX4_signInParentheses 17 = .ok (.goto 5, 3) := by decide +kernel
theorem dX4_signInParentheses_20 : decode cX4_signInParentheses 20 = .ok (.bipush 32, 2) := by decide +kernel
theorem dX4_signInParentheses_22 : decode cX4_signInParentheses 22 = .ok (.ireturn, 1) := by decide +kernel
theorem dX4_signInParentheses_23 : decode cX4_signInParentheses 23 = .ok (.aload_n 0, 1) := by decide +kernel
theorem dX4_signInParentheses_24 : decode cX4_signInParentheses 24 = .ok (.getfield 79, 3) := by decide +kernel
theorem dX4_signInParentheses_27 : decode cX4_signInParentheses 27 = .ok (.aload_n 0, 1) := by decide +kernel
theorem dX4_signInParentheses_28 : decode cX4_signInParentheses 28 = .ok (.iload_n 1, 1) := by decide +kernel
theorem dX4_signInParentheses_29 : decode cX4_signInParentheses 29 = .ok (.invokevirtual 67, 3) := by decide +kernel
theorem dX4_signInParentheses_32 : decode cX4_signInParentheses 32 = .ok (.iconst 1, 1) := by decide +kernel
theorem dX4_signInParentheses_33 : decode cX4_signInParentheses 33 = .ok (.iadd, 1) := by decide +kernel
theorem dX4_signInParentheses_34 : decode cX4_signInParentheses 34 = .ok (.if_icmp .ne 19, 3) := by decide +kernel
theorem dX4_signInParentheses_37 : decode cX4_signInParentheses 37 = .ok (.aload_n 0, 1) := by decide +kernel
theorem dX4_signInParentheses_38 : decode cX4_signInParentheses 38 = .ok (.iload_n 1, 1) := by decide +kernel
theorem dX4_signInParentheses_39 : decode cX4_signInParentheses 39 = .ok (.invokevirtual 111, 3) := by decide +kernel
theorem dX4_signInParentheses_42 : decode cX4_signInParentheses 42 = .ok (.ifCond .eq 8, 3) := by decide +kernel
theorem dX4_signInParentheses_45 : decode cX4_signInParentheses 45 = .ok (.bipush 41, 2) := by decide +kernel
theorem dX4_signInParentheses_47 : decode cX4_signInParentheses 47 = .ok (.goto 5, 3) := by decide +kernel
theorem dX4_signInParentheses_50 : decode cX4_signInParentheses 50 = .ok (.bipush 32, 2) := by decide +kernel
theorem dX4_signInParentheses_52 : decode cX4_signInParentheses 52 = .ok (.ireturn, 1) := by decide +kernel
theorem dX4_signInParentheses_53 : decode cX4_signInParentheses 53 = .ok (.aload_n 0, 1) := by decide +kernel
theorem dX4_signInParentheses_54 : decode cX4_signInParentheses 54 = .ok (.iload_n 1, 1) := by decide +kernel
theorem dX4_signInParentheses_55 : decode cX4_signInParentheses 55 = .ok (.iconst 1, 1) := by decide +kernel
theorem dX4_signInParentheses_56 : decode cX4_signInParentheses 56 = .ok (.iconst 0, 1) := by decide +kernel
theorem dX4_signInParentheses_57 : decode cX4_signInParentheses 57 = .ok (.invokevirtual 98, 3) := by decide +kernel
theorem dX4_signInParentheses_60 : decode cX4_signInParentheses 60 = .ok (.ireturn, 1) := by decide +kernel
theorem dX4_isBeside_0 : decode cX4_isBeside 0 = .ok (.aload_n 0, 1) := by decide +kernel
theorem dX4_isBeside_1 : decode cX4_isBeside 1 = .ok (.getfield 82, 3) := by decide +kernel
theorem dX4_isBeside_4 : decode cX4_isBeside 4 = .ok (.aload_n 0, 1) := by decide +kernel
theorem dX4_isBeside_5 : decode cX4_isBeside 5 = .ok (.iload_n 1, 1) := by decide +kernel
theorem dX4_isBeside_6 : decode cX4_isBeside 6 = .ok (.invokevirtual 21, 3) := by decide +kernel
theorem dX4_isBeside_9 : decode cX4_isBeside 9 = .ok (.ineg, 1) := by decide +kernel
theorem dX4_isBeside_10 : decode cX4_isBeside 10 = .ok (.if_icmp .lt 19, 3) := by decide +kernel
theorem dX4_isBeside_13 : decode cX4_isBeside 13 = .ok (.aload_n 0, 1) := by decide +kernel
theorem dX4_isBeside_14 : decode cX4_isBeside 14 = .ok (.getfield 82, 3) := by decide +kernel
theorem dX4_isBeside_17 : decode cX4_isBeside 17 = .ok (.aload_n 0, 1) := by decide +kernel
theorem dX4_isBeside_18 : decode cX4_isBeside 18 = .ok (.iload_n 1, 1) := by decide +kernel
theorem dX4_isBeside_19 : decode cX4_isBeside 19 = .ok (.invokevirtual 25, 3) := by decide +kernel
theorem dX4_isBeside_22 : decode cX4_isBeside 22 = .ok (.if_icmp .gt 7, 3) := by decide +kernel
theorem dX4_isBeside_25 : decode cX4_isBeside 25 = .ok (.iconst 1, 1) := by decide +kernel
theorem dX4_isBeside_26 : decode cX4_isBeside 26 = .ok (.goto 4, 3) := by decide +kernel
theorem dX4_isBeside_29 : decode cX4_isBeside 29 = .ok (.iconst 0, 1) := by decide +kernel
theorem dX4_isBeside_30 : decode cX4_isBeside 30 = .ok (.ireturn, 1) := by decide +kernel
theorem dX4_upwards_0 : decode cX4_upwards 0 = .ok (.iconst (-1), 1) := by decide +kernel
theorem dX4_upwards_1 : decode cX4_upwards 1 = .ok (.aload_n 0, 1) := by decide +kernel
theorem dX4_upwards_2 : decode cX4_upwards 2 = .ok (.iload_n 1, 1) := by decide +kernel
theorem dX4_upwards_3 : decode cX4_upwards 3 = .ok (.invokevirtual 25, 3) := by decide +kernel
theorem dX4_upwards_6 : decode cX4_upwards 6 = .ok (.isub, 1) := by decide +kernel
theorem dX4_upwards_7 : decode cX4_upwards 7 = .ok (.ireturn, 1) := by decide +kernel
theorem dX4_downwards_0 : decode cX4_downwards 0 = .ok (.iconst 1, 1) := by decide +kernel
theorem dX4_downwards_1 : decode cX4_downwards 1 = .ok (.aload_n 0, 1) := by decide +kernel
theorem dX4_downwards_2 : decode cX4_downwards 2 = .ok (.iload_n 1, 1) := by decide +kernel
theorem dX4_downwards_3 : decode cX4_downwards 3 = .ok (.invokevirtual 21, 3) := by decide +kernel
theorem dX4_downwards_6 : decode cX4_downwards 6 = .ok (.iadd, 1) := by decide +kernel
theorem dX4_downwards_7 : decode cX4_downwards 7 = .ok (.ireturn, 1) := by decide +kernel
theorem dX4_enterSlot_0 : decode cX4_enterSlot 0 = .ok (.aload_n 0, 1) := by decide +kernel
theorem dX4_enterSlot_1 : decode cX4_enterSlot 1 = .ok (.dup, 1) := by decide +kernel
theorem dX4_enterSlot_2 : decode cX4_enterSlot 2 = .ok (.getfield 79, 3) := by decide +kernel
theorem dX4_enterSlot_5 : decode cX4_enterSlot 5 = .ok (.iload_n 2, 1) := by decide +kernel
theorem dX4_enterSlot_6 : decode cX4_enterSlot 6 = .ok (.isub, 1) := by decide +kernel
theorem dX4_enterSlot_7 : decode cX4_enterSlot 7 = .ok (.putfield 79, 3) := by decide +kernel
theorem dX4_enterSlot_10 : decode cX4_enterSlot 10 = .ok (.aload_n 0, 1) := by decide +kernel
theorem dX4_enterSlot_11 : decode cX4_enterSlot 11 = .ok (.dup, 1) := by decide +kernel
theorem dX4_enterSlot_12 : decode cX4_enterSlot 12 = .ok (.getfield 82, 3) := by decide +kernel
theorem dX4_enterSlot_15 : decode cX4_enterSlot 15 = .ok (.iload_n 3, 1) := by decide +kernel
theorem dX4_enterSlot_16 : decode cX4_enterSlot 16 = .ok (.isub, 1) := by decide +kernel
theorem dX4_enterSlot_17 : decode cX4_enterSlot 17 = .ok (.putfield 82, 3) := by decide +kernel
theorem dX4_enterSlot_20 : decode cX4_enterSlot 20 = .ok (.aload_n 0, 1) := by decide +kernel
theorem dX4_enterSlot_21 : decode cX4_enterSlot 21 = .ok (.getfield 79, 3) := by decide +kernel
theorem dX4_enterSlot_24 : decode cX4_enterSlot 24 = .ok (.ifCond .lt 23, 3) := by decide +kernel
theorem dX4_enterSlot_27 : decode cX4_enterSlot 27 = .ok (.aload_n 0, 1) := by decide +kernel
theorem dX4_enterSlot_28 : decode cX4_enterSlot 28 = .ok (.getfield 79, 3) := by decide +kernel
theorem dX4_enterSlot_31 : decode cX4_enterSlot 31 = .ok (.aload_n 0, 1) := by decide +kernel
theorem dX4_enterSlot_32 : decode cX4_enterSlot 32 = .ok (.iload_n 1, 1) := by decide +kernel
theorem dX4_enterSlot_33 : decode cX4_enterSlot 33 = .ok (.invokevirtual 67, 3) := by decide +kernel
theorem dX4_enterSlot_36 : decode cX4_enterSlot 36 = .ok (.if_icmp .ge 11, 3) := by decide +kernel
theorem dX4_enterSlot_39 : decode cX4_enterSlot 39 = .ok (.aload_n 0, 1) := by decide +kernel
theorem dX4_enterSlot_40 : decode cX4_enterSlot 40 = .ok (.iload_n 1, 1) := by decide +kernel
theorem dX4_enterSlot_41 : decode cX4_enterSlot 41 = .ok (.invokevirtual 111, 3) := by decide +kernel
theorem dX4_enterSlot_44 : decode cX4_enterSlot 44 = .ok (.ifCond .ne 6, 3) := by decide +kernel
theorem dX4_enterSlot_47 : decode cX4_enterSlot 47 = .ok (.bipush 32, 2) := by decide +kernel
theorem dX4_enterSlot_49 : decode cX4_enterSlot 49 = .ok (.ireturn, 1) := by decide +kernel
theorem dX4_enterSlot_50 : decode cX4_enterSlot 50 = .ok (.aload_n 0, 1) := by decide +kernel
theorem dX4_enterSlot_51 : decode cX4_enterSlot 51 = .ok (.iload_n 1, 1) := by decide +kernel
theorem dX4_enterSlot_52 : decode cX4_enterSlot 52 = .ok (.putfield 76, 3) := by decide +kernel
theorem dX4_enterSlot_55 : decode cX4_enterSlot 55 = .ok (.bipush (-9), 2) := by decide +kernel
theorem dX4_enterSlot_57 : decode cX4_enterSlot 57 = .ok (.ireturn, 1) := by decide +kernel
theorem dX5_init_0 : decode cX5_init 0 = .ok (.aload_n 0, 1) := by decide +kernel
theorem dX5_init_1 : decode cX5_init 1 = .ok (.invokespecial 3, 3) := by decide +kernel
theorem dX5_init_4 : decode cX5_init 4 = .ok (.aload_n 0, 1) := by decide +kernel
theorem dX5_init_5 : decode cX5_init 5 = .ok (.bipush 120, 2) := by decide +kernel
theorem dX5_init_7 : decode cX5_init 7 = .ok (.newarray .int, 2) := by decide +kernel
theorem dX5_init_9 : decode cX5_init 9 = .ok (.putfield 9, 3) := by decide +kernel
theorem dX5_init_12 : decode cX5_init 12 = .ok (.aload_n 0, 1) := by decide +kernel
theorem dX5_init_13 : decode cX5_init 13 = .ok (.new 15, 3) := by decide +kernel
theorem dX5_init_16 : decode cX5_init 16 = .ok (.dup, 1) := by decide +kernel
theorem dX5_init_17 : decode cX5_init 17 = .ok (.sipush 360, 3) := by decide +kernel
theorem dX5_init_20 : decode cX5_init 20 = .ok (.invokespecial 17, 3) := by decide +kernel
theorem dX5_init_23 : decode cX5_init 23 = .ok (.putfield 20, 3) := by decide +kernel
theorem dX5_init_26 : decode cX5_init 26 = .ok (.aload_n 0, 1) := by decide +kernel
theorem dX5_init_27 : decode cX5_init 27 = .ok (.sipush 720, 3) := by decide +kernel
theorem dX5_init_30 : decode cX5_init 30 = .ok (.newarray .int, 2) := by decide +kernel
theorem dX5_init_32 : decode cX5_init 32 = .ok (.putfield 24, 3) := by decide +kernel
theorem dX5_init_35 : decode cX5_init 35 = .ok (.return_, 1) := by decide +kernel
theorem dX5_hasRoom_0 : decode cX5_hasRoom 0 = .ok (.aload_n 0, 1) := by decide +kernel
theorem dX5_hasRoom_1 : decode cX5_hasRoom 1 = .ok (.getfield 27, 3) := by decide +kernel
theorem dX5_hasRoom_4 : decode cX5_hasRoom 4 = .ok (.aload_n 0, 1) := by decide +kernel
theorem dX5_hasRoom_5 : decode cX5_hasRoom 5 = .ok (.getfield 9, 3) := by decide +kernel
theorem dX5_hasRoom_8 : decode cX5_hasRoom 8 = .ok (.arraylength, 1) := by decide +kernel
theorem dX5_hasRoom_9 : decode cX5_hasRoom 9 = .ok (.if_icmp .ge 7, 3) := by decide +kernel
theorem dX5_hasRoom_12 : decode cX5_hasRoom 12 = .ok (.iconst 1, 1) := by decide +kernel
theorem dX5_hasRoom_13 : decode cX5_hasRoom 13 = .ok (.goto 4, 3) := by decide +kernel
theorem dX5_hasRoom_16 : decode cX5_hasRoom 16 = .ok (.iconst 0, 1) := by decide +kernel
theorem dX5_hasRoom_17 : decode cX5_hasRoom 17 = .ok (.ireturn, 1) := by decide +kernel
theorem dX5_addSign_0 : decode cX5_addSign 0 = .ok (.aload_n 0, 1) := by decide +kernel
theorem dX5_addSign_1 : decode cX5_addSign 1 = .ok (.getfield 27, 3) := by decide +kernel
theorem dX5_addSign_4 : decode cX5_addSign 4 = .ok (.ifCond .lt 35, 3) := by decide +kernel
theorem dX5_addSign_7 : decode cX5_addSign 7 = .ok (.aload_n 0, 1) := by decide +kernel
theorem dX5_addSign_8 : decode cX5_addSign 8 = .ok (.getfield 27, 3) := by decide +kernel
theorem dX5_addSign_11 : decode cX5_addSign 11 = .ok (.aload_n 0, 1) := by decide +kernel
theorem dX5_addSign_12 : decode cX5_addSign 12 = .ok (.getfield 9, 3) := by decide +kernel
theorem dX5_addSign_15 : decode cX5_addSign 15 = .ok (.arraylength, 1) := by decide +kernel
theorem dX5_addSign_16 : decode cX5_addSign 16 = .ok (.if_icmp .ge 23, 3) := by decide +kernel
theorem dX5_addSign_19 : decode cX5_addSign 19 = .ok (.aload_n 0, 1) := by decide +kernel
theorem dX5_addSign_20 : decode cX5_addSign 20 = .ok (.getfield 9, 3) := by decide +kernel
theorem dX5_addSign_23 : decode cX5_addSign 23 = .ok (.aload_n 0, 1) := by decide +kernel
theorem dX5_addSign_24 : decode cX5_addSign 24 = .ok (.getfield 27, 3) := by decide +kernel
theorem dX5_addSign_27 : decode cX5_addSign 27 = .ok (.iload_n 1, 1) := by decide +kernel
theorem dX5_addSign_28 : decode cX5_addSign 28 = .ok (.iastore, 1) := by decide +kernel
theorem dX5_addSign_29 : decode cX5_addSign 29 = .ok (.aload_n 0, 1) := by decide +kernel
theorem dX5_addSign_30 : decode cX5_addSign 30 = .ok (.dup, 1) := by decide +kernel
theorem dX5_addSign_31 : decode cX5_addSign 31 = .ok (.getfield 27, 3) := by decide +kernel
theorem dX5_addSign_34 : decode cX5_addSign 34 = .ok (.iconst 1, 1) := by decide +kernel
theorem dX5_addSign_35 : decode cX5_addSign 35 = .ok (.iadd, 1) := by decide +kernel
theorem dX5_addSign_36 : decode cX5_addSign 36 = .ok (.putfield 27, 3) := by decide +kernel
theorem dX5_addSign_39 : decode cX5_addSign 39 = .ok (.return_, 1) := by decide +kernel
theorem dX5_firstError_0 : decode cX5_firstError 0 = .ok (.aload_n 0, 1) := by decide +kernel
theorem dX5_firstError_1 : decode cX5_firstError 1 = .ok (.invokevirtual 31, 3) := by decide +kernel
theorem dX5_firstError_4 : decode cX5_firstError 4 = .ok (.iconst 0, 1) := by decide +kernel
theorem dX5_firstError_5 : decode cX5_firstError 5 = .ok (.istore_n 1, 1) := by decide +kernel
theorem dX5_firstError_6 : decode cX5_firstError 6 = .ok (.iload_n 1, 1) := by decide +kernel
theorem dX5_firstError_7 : decode cX5_firstError 7 = .ok (.aload_n 0, 1) := by decide +kernel
theorem dX5_firstError_8 : decode cX5_firstError 8 = .ok (.getfield 27, 3) := by decide +kernel
theorem dX5_firstError_11 : decode cX5_firstError 11 = .ok (.if_icmp .ge 33, 3) := by decide +kernel
theorem dX5_firstError_14 : decode cX5_firstError 14 = .ok (.iload_n 1, 1) := by decide +kernel
theorem dX5_firstError_15 : decode cX5_firstError 15 = .ok (.aload_n 0, 1) := by decide +kernel
theorem dX5_firstError_16 : decode cX5_firstError 16 = .ok (.getfield 9, 3) := by decide +kernel
theorem dX5_firstError_19 : decode cX5_firstError 19 = .ok (.arraylength, 1) := by decide +kernel
theorem dX5_firstError_20 : decode cX5_firstError 20 = .ok (.if_icmp .ge 24, 3) := by decide +kernel
theorem dX5_firstError_23 : decode cX5_firstError 23 = .ok (.aload_n 0, 1) := by decide +kernel
theorem dX5_firstError_24 : decode cX5_firstError 24 = .ok (.aload_n 0, 1) := by decide +kernel
theorem dX5_firstError_25 : decode cX5_firstError 25 = .ok (.getfield 9, 3) := by decide +kernel
theorem dX5_firstError_28 : decode cX5_firstError 28 = .ok (.iload_n 1, 1) := by decide +kernel
theorem dX5_firstError_29 : decode cX5_firstError 29 = .ok (.iaload, 1) := by decide +kernel
theorem dX5_firstError_30 : decode cX5_firstError 30 = .ok (.invokevirtual 34, 3) := by decide +kernel
theorem dX5_firstError_33 : decode cX5_firstError 33 = .ok (.ifCond .ne 5, 3) := by decide +kernel
theorem dX5_firstError_36 : decode cX5_firstError 36 = .ok (.iload_n 1, 1) := by decide +kernel
theorem dX5_firstError_37 : decode cX5_firstError 37 = .ok (.ireturn, 1) := by decide +kernel
theorem dX5_firstError_38 : decode cX5_firstError 38 = .ok (.iinc 1 1, 3) := by decide +kernel
theorem dX5_firstError_41 : decode cX5_firstError 41 = .ok (.goto (-35), 3) := by decide +kernel
theorem dX5_firstError_44 : decode cX5_firstError 44 = .ok (.aload_n 0, 1) := by decide +kernel
theorem dX5_firstError_45 : decode cX5_firstError 45 = .ok (.getfield 38, 3) := by decide +kernel
theorem dX5_firstError_48 : decode cX5_firstError 48 = .ok (.ifCond .ne 19, 3) := by decide +kernel
theorem dX5_firstError_51 : decode cX5_firstError 51 = .ok (.aload_n 0, 1) := by decide +kernel
theorem dX5_firstError_52 : decode cX5_firstError 52 = .ok (.getfield 41, 3) := by decide +kernel
theorem dX5_firstError_55 : decode cX5_firstError 55 = .ok (.iconst 2, 1) := by decide +kernel
theorem dX5_firstError_56 : decode cX5_firstError 56 = .ok (.if_icmp .eq 11, 3) := by decide +kernel
theorem dX5_firstError_59 : decode cX5_firstError 59 = .ok (.aload_n 0, 1) := by decide +kernel
theorem dX5_firstError_60 : decode cX5_firstError 60 = .ok (.getfield 41, 3) := by decide +kernel
theorem dX5_firstError_63 : decode cX5_firstError 63 = .ok (.iconst 3, 1) := by decide +kernel
theorem dX5_firstError_64 : decode cX5_firstError 64 = .ok (.if_icmp .ne 8, 3) := by decide +kernel
theorem dX5_firstError_67 : decode cX5_firstError 67 = .ok (.aload_n 0, 1) := by decide +kernel
theorem dX5_firstError_68 : decode cX5_firstError 68 = .ok (.getfield 27, 3) := by decide +kernel
theorem dX5_firstError_71 : decode cX5_firstError 71 = .ok (.ireturn, 1) := by decide +kernel
theorem dX5_firstError_72 : decode cX5_firstError 72 = .ok (.aload_n 0, 1) := by decide +kernel
theorem dX5_firstError_73 : decode cX5_firstError 73 = .ok (.invokevirtual 44, 3) := by decide +kernel
theorem dX5_firstError_76 : decode cX5_firstError 76 = .ok (.bipush (-9), 2) := by decide +kernel
theorem dX5_firstError_78 : decode cX5_firstError 78 = .ok (.ireturn, 1) := by decide +kernel
theorem dX5_begin_0 : decode cX5_begin 0 = .ok (.aload_n 0, 1) := by decide +kernel
theorem dX5_begin_1 : decode cX5_begin 1 = .ok (.getfield 20, 3) := by decide +kernel
theorem dX5_begin_4 : decode cX5_begin 4 = .ok (.iconst 0, 1) := by decide +kernel
theorem dX5_begin_5 : decode cX5_begin 5 = .ok (.putfield 47, 3) := by decide +kernel
theorem dX5_begin_8 : decode cX5_begin 8 = .ok (.aload_n 0, 1) := by decide +kernel
theorem dX5_begin_9 : decode cX5_begin 9 = .ok (.iconst 0, 1) := by decide +kernel
theorem dX5_begin_10 : decode cX5_begin 10 = .ok (.putfield 50, 3) := by decide +kernel
theorem dX5_begin_13 : decode cX5_begin 13 = .ok (.aload_n 0, 1) := by decide +kernel
theorem dX5_begin_14 : decode cX5_begin 14 = .ok (.iconst 0, 1) := by decide +kernel
theorem dX5_begin_15 : decode cX5_begin 15 = .ok (.putfield 38, 3) := by decide +kernel
theorem dX5_begin_18 : decode cX5_begin 18 = .ok (.aload_n 0, 1) := by decide +kernel
theorem dX5_begin_19 : decode cX5_begin 19 = .ok (.invokevirtual 53, 3) := by decide +kernel
theorem dX5_begin_22 : decode cX5_begin 22 = .ok (.return_, 1) := by decide +kernel
theorem dX5_beginText_0 : decode cX5_beginText 0 = .ok (.aload_n 0, 1) := by decide +kernel
theorem dX5_beginText_1 : decode cX5_beginText 1 = .ok (.iconst 0, 1) := by decide +kernel
theorem dX5_beginText_2 : decode cX5_beginText 2 = .ok (.putfield 41, 3) := by decide +kernel
theorem dX5_beginText_5 : decode cX5_beginText 5 = .ok (.aload_n 0, 1) := by decide +kernel
theorem dX5_beginText_6 : decode cX5_beginText 6 = .ok (.aload_n 0, 1) := by decide +kernel
theorem dX5_beginText_7 : decode cX5_beginText 7 = .ok (.getfield 20, 3) := by decide +kernel
theorem dX5_beginText_10 : decode cX5_beginText 10 = .ok (.getfield 47, 3) := by decide +kernel
theorem dX5_beginText_13 : decode cX5_beginText 13 = .ok (.putfield 56, 3) := by decide +kernel
theorem dX5_beginText_16 : decode cX5_beginText 16 = .ok (.aload_n 0, 1) := by decide +kernel
theorem dX5_beginText_17 : decode cX5_beginText 17 = .ok (.aload_n 0, 1) := by decide +kernel
theorem dX5_beginText_18 : decode cX5_beginText 18 = .ok (.getfield 20, 3) := by decide +kernel
theorem dX5_beginText_21 : decode cX5_beginText 21 = .ok (.getfield 47, 3) := by decide +kernel
theorem dX5_beginText_24 : decode cX5_beginText 24 = .ok (.putfield 59, 3) := by decide +kernel
theorem dX5_beginText_27 : decode cX5_beginText 27 = .ok (.aload_n 0, 1) := by decide +kernel
theorem dX5_beginText_28 : decode cX5_beginText 28 = .ok (.iconst 0, 1) := by decide +kernel
theorem dX5_beginText_29 : decode cX5_beginText 29 = .ok (.putfield 62, 3) := by decide +kernel
theorem dX5_beginText_32 : decode cX5_beginText 32 = .ok (.aload_n 0, 1) := by decide +kernel
theorem dX5_beginText_33 : decode cX5_beginText 33 = .ok (.iconst 0, 1) := by decide +kernel
theorem dX5_beginText_34 : decode cX5_beginText 34 = .ok (.putfield 66, 3) := by decide +kernel
theorem dX5_beginText_37 : decode cX5_beginText 37 = .ok (.aload_n 0, 1) := by decide +kernel
theorem dX5_beginText_38 : decode cX5_beginText 38 = .ok (.iconst 0, 1) := by decide +kernel
theorem dX5_beginText_39 : decode cX5_beginText 39 = .ok (.putfield 69, 3) := by decide +kernel
theorem dX5_beginText_42 : decode cX5_beginText 42 = .ok (.aload_n 0, 1) := by decide +kernel
theorem dX5_beginText_43 : decode cX5_beginText 43 = .ok (.iconst 0, 1) := by decide +kernel
theorem dX5_beginText_44 : decode cX5_beginText 44 = .ok (.putfield 72, 3) := by decide +kernel
theorem dX5_beginText_47 : decode cX5_beginText 47 = .ok (.return_, 1) := by decide +kernel
theorem dX5_takes_0 : decode cX5_takes 0 = .ok (.aload_n 0, 1) := by decide +kernel
theorem dX5_takes_1 : decode cX5_takes 1 = .ok (.getfield 41, 3) := by decide +kernel
theorem dX5_takes_4 : decode cX5_takes 4 = .ok (.iconst 2, 1) := by decide +kernel
theorem dX5_takes_5 : decode cX5_takes 5 = .ok (.if_icmp .ne 9, 3) := by decide +kernel
theorem dX5_takes_8 : decode cX5_takes 8 = .ok (.aload_n 0, 1) := by decide +kernel
theorem dX5_takes_9 : decode cX5_takes 9 = .ok (.iload_n 1, 1) := by decide +kernel
theorem dX5_takes_10 : decode cX5_takes 10 = .ok (.invokevirtual 75, 3) := by decide +kernel
theorem dX5_takes_13 : decode cX5_takes 13 = .ok (.ireturn, 1) := by decide +kernel
theorem dX5_takes_14 : decode cX5_takes 14 = .ok (.aload_n 0, 1) := by decide +kernel
theorem dX5_takes_15 : decode cX5_takes 15 = .ok (.getfield 41, 3) := by decide +kernel
theorem dX5_takes_18 : decode cX5_takes 18 = .ok (.iconst 3, 1) := by decide +kernel
theorem dX5_takes_19 : decode cX5_takes 19 = .ok (.if_icmp .ne 23, 3) := by decide +kernel
theorem dX5_takes_22 : decode cX5_takes 22 = .ok (.iload_n 1, 1) := by decide +kernel
theorem dX5_takes_23 : decode cX5_takes 23 = .ok (.bipush 40, 2) := by decide +kernel
theorem dX5_takes_25 : decode cX5_takes 25 = .ok (.if_icmp .ne 15, 3) := by decide +kernel
theorem dX5_takes_28 : decode cX5_takes 28 = .ok (.aload_n 0, 1) := by decide +kernel
theorem dX5_takes_29 : decode cX5_takes 29 = .ok (.iconst 4, 1) := by decide +kernel
theorem dX5_takes_30 : decode cX5_takes 30 = .ok (.invokevirtual 78, 3) := by decide +kernel
theorem dX5_takes_33 : decode cX5_takes 33 = .ok (.ifCond .eq 7, 3) := by decide +kernel
theorem dX5_takes_36 : decode cX5_takes 36 = .ok (.iconst 1, 1) := by decide +kernel
theorem dX5_takes_37 : decode cX5_takes 37 = .ok (.goto 4, 3) := by decide +kernel
theorem dX5_takes_40 : decode cX5_takes 40 = .ok (.iconst 0, 1) := by decide +kernel
theorem dX5_takes_41 : decode cX5_takes 41 = .ok (.ireturn, 1) := by decide +kernel
theorem dX5_takes_42 : decode cX5_takes 42 = .ok (.iload_n 1, 1) := by decide +kernel
theorem dX5_takes_43 : decode cX5_takes 43 = .ok (.bipush 94, 2) := by decide +kernel
theorem dX5_takes_45 : decode cX5_takes 45 = .ok (.if_icmp .eq 9, 3) := by decide +kernel
theorem dX5_takes_48 : decode cX5_takes 48 = .ok (.iload_n 1, 1) := by decide +kernel
theorem dX5_takes_49 : decode cX5_takes 49 = .ok (.bipush 95, 2) := by decide +kernel
theorem dX5_takes_51 : decode cX5_takes 51 = .ok (.if_icmp .ne 20, 3) := by decide +kernel
theorem dX5_takes_54 : decode cX5_takes 54 = .ok (.aload_n 0, 1) := by decide +kernel
theorem dX5_takes_55 : decode cX5_takes 55 = .ok (.iload_n 1, 1) := by decide +kernel
theorem dX5_takes_56 : decode cX5_takes 56 = .ok (.bipush 94, 2) := by decide +kernel
theorem dX5_takes_58 : decode cX5_takes 58 = .ok (.if_icmp .ne 7, 3) := by decide +kernel
theorem dX5_takes_61 : decode cX5_takes 61 = .ok (.iconst 2, 1) := by decide +kernel
theorem dX5_takes_62 : decode cX5_takes 62 = .ok (.goto 4, 3) := by decide +kernel
theorem dX5_takes_65 : decode cX5_takes 65 = .ok (.iconst 3, 1) := by decide +kernel
theorem dX5_takes_66 : decode cX5_takes 66 = .ok (.invokevirtual 81, 3) := by decide +kernel
theorem dX5_takes_69 : decode cX5_takes 69 = .ok (.iconst 1, 1) := by decide +kernel
theorem dX5_takes_70 : decode cX5_takes 70 = .ok (.ireturn, 1) := by decide +kernel
theorem dX5_takes_71 : decode cX5_takes 71 = .ok (.iload_n 1, 1) := by decide +kernel
theorem dX5_takes_72 : decode cX5_takes 72 = .ok (.bipush 47, 2) := by decide +kernel
theorem dX5_takes_74 : decode cX5_takes 74 = .ok (.if_icmp .ne 8, 3) := by decide +kernel
theorem dX5_takes_77 : decode cX5_takes 77 = .ok (.aload_n 0, 1) := by decide +kernel
theorem dX5_takes_78 : decode cX5_takes 78 = .ok (.invokevirtual 84, 3) := by decide +kernel
theorem dX5_takes_81 : decode cX5_takes 81 = .ok (.ireturn, 1) := by decide +kernel
theorem dX5_takes_82 : decode cX5_takes 82 = .ok (.aload_n 0, 1) := by decide +kernel
theorem dX5_takes_83 : decode cX5_takes 83 = .ok (.invokevirtual 44, 3) := by decide +kernel
theorem dX5_takes_86 : decode cX5_takes 86 = .ok (.aload_n 0, 1) := by decide +kernel
theorem dX5_takes_87 : decode cX5_takes 87 = .ok (.iload_n 1, 1) := by decide +kernel
theorem dX5_takes_88 : decode cX5_takes 88 = .ok (.invokevirtual 88, 3) := by decide +kernel
theorem dX5_takes_91 : decode cX5_takes 91 = .ok (.ireturn, 1) := by decide +kernel
theorem dX5_takesElement_0 : decode cX5_takesElement 0 = .ok (.aload_n 0, 1) := by decide +kernel
theorem dX5_takesElement_1 : decode cX5_takesElement 1 = .ok (.iconst 0, 1) := by decide +kernel
theorem dX5_takesElement_2 : decode cX5_takesElement 2 = .ok (.putfield 41, 3) := by decide +kernel
theorem dX5_takesElement_5 : decode cX5_takesElement 5 = .ok (.iload_n 1, 1) := by decide +kernel
theorem dX5_takesElement_6 : decode cX5_takesElement 6 = .ok (.bipush 32, 2) := by decide +kernel
theorem dX5_takesElement_8 : decode cX5_takesElement 8 = .ok (.if_icmp .ne 5, 3) := by decide +kernel
theorem dX5_takesElement_11 : decode cX5_takesElement 11 = .ok (.iconst 1, 1) := by decide +kernel
theorem dX5_takesElement_12 : decode cX5_takesElement 12 = .ok (.ireturn, 1) := by decide +kernel
theorem dX5_takesElement_13 : decode cX5_takesElement 13 = .ok (.iload_n 1, 1) := by decide +kernel
theorem dX5_takesElement_14 : decode cX5_takesElement 14 = .ok (.invokestatic 91, 3) := by decide +kernel
theorem dX5_takesElement_17 : decode cX5_takesElement 17 = .ok (.ifCond .eq 13, 3) := by decide +kernel
theorem dX5_takesElement_20 : decode cX5_takesElement 20 = .ok (.aload_n 0, 1) := by decide +kernel
theorem dX5_takesElement_21 : decode cX5_takesElement 21 = .ok (.getfield 20, 3) := by decide +kernel
theorem dX5_takesElement_24 : decode cX5_takesElement 24 = .ok (.iload_n 1, 1) := by decide +kernel
theorem dX5_takesElement_25 : decode cX5_takesElement 25 = .ok (.invokevirtual 94, 3) := by decide +kernel
theorem dX5_takesElement_28 : decode cX5_takesElement 28 = .ok (.iconst 1, 1) := by decide +kernel
theorem dX5_takesElement_29 : decode cX5_takesElement 29 = .ok (.ireturn, 1) := by decide +kernel
theorem dX5_takesElement_30 : decode cX5_takesElement 30 = .ok (.iload_n 1, 1) := by decide +kernel
theorem dX5_takesElement_31 : decode cX5_takesElement 31 = .ok (.bipush 41, 2) := by decide +kernel
theorem dX5_takesElement_33 : decode cX5_takesElement 33 = .ok (.if_icmp .ne 8, 3) := by decide +kernel
theorem dX5_takesElement_36 : decode cX5_takesElement 36 = .ok (.aload_n 0, 1) := by decide +kernel
theorem dX5_takesElement_37 : decode cX5_takesElement 37 = .ok (.invokevirtual 97, 3) := by decide +kernel
theorem dX5_takesElement_40 : decode cX5_takesElement 40 = .ok (.ireturn, 1) := by decide +kernel
theorem dX5_takesElement_41 : decode cX5_takesElement 41 = .ok (.aload_n 0, 1) := by decide +kernel
theorem dX5_takesElement_42 : decode cX5_takesElement 42 = .ok (.aload_n 0, 1) := by decide +kernel
theorem dX5_takesElement_43 : decode cX5_takesElement 43 = .ok (.getfield 20, 3) := by decide +kernel
theorem dX5_takesElement_46 : decode cX5_takesElement 46 = .ok (.getfield 47, 3) := by decide +kernel
theorem dX5_takesElement_49 : decode cX5_takesElement 49 = .ok (.putfield 56, 3) := by decide +kernel
theorem dX5_takesElement_52 : decode cX5_takesElement 52 = .ok (.aload_n 0, 1) := by decide +kernel
theorem dX5_takesElement_53 : decode cX5_takesElement 53 = .ok (.aload_n 0, 1) := by decide +kernel
theorem dX5_takesElement_54 : decode cX5_takesElement 54 = .ok (.getfield 20, 3) := by decide +kernel
theorem dX5_takesElement_57 : decode cX5_takesElement 57 = .ok (.getfield 47, 3) := by decide +kernel
theorem dX5_takesElement_60 : decode cX5_takesElement 60 = .ok (.putfield 59, 3) := by decide +kernel
theorem dX5_takesElement_63 : decode cX5_takesElement 63 = .ok (.aload_n 0, 1) := by decide +kernel
theorem dX5_takesElement_64 : decode cX5_takesElement 64 = .ok (.iload_n 1, 1) := by decide +kernel
theorem dX5_takesElement_65 : decode cX5_takesElement 65 = .ok (.invokevirtual 75, 3) := by decide +kernel
theorem dX5_takesElement_68 : decode cX5_takesElement 68 = .ok (.ireturn, 1) := by decide +kernel
theorem dX5_takesBase_0 : decode cX5_takesBase 0 = .ok (.iload_n 1, 1) := by decide +kernel
theorem dX5_takesBase_1 : decode cX5_takesBase 1 = .ok (.invokestatic 100, 3) := by decide +kernel
theorem dX5_takesBase_4 : decode cX5_takesBase 4 = .ok (.ifCond .ne 10, 3) := by decide +kernel
theorem dX5_takesBase_7 : decode cX5_takesBase 7 = .ok (.iload_n 1, 1) := by decide +kernel
theorem dX5_takesBase_8 : decode cX5_takesBase 8 = .ok (.invokestatic 103, 3) := by decide +kernel
theorem dX5_takesBase_11 : decode cX5_takesBase 11 = .ok (.ifCond .eq 18, 3) := by decide +kernel
theorem dX5_takesBase_14 : decode cX5_takesBase 14 = .ok (.aload_n 0, 1) := by decide +kernel
theorem dX5_takesBase_15 : decode cX5_takesBase 15 = .ok (.getfield 20, 3) := by decide +kernel
theorem dX5_takesBase_18 : decode cX5_takesBase 18 = .ok (.iload_n 1, 1) := by decide +kernel
theorem dX5_takesBase_19 : decode cX5_takesBase 19 = .ok (.invokevirtual 94, 3) := by decide +kernel
theorem dX5_takesBase_22 : decode cX5_takesBase 22 = .ok (.aload_n 0, 1) := by decide +kernel
theorem dX5_takesBase_23 : decode cX5_takesBase 23 = .ok (.iconst 0, 1) := by decide +kernel
theorem dX5_takesBase_24 : decode cX5_takesBase 24 = .ok (.invokevirtual 106, 3) := by decide +kernel
theorem dX5_takesBase_27 : decode cX5_takesBase 27 = .ok (.iconst 1, 1) := by decide +kernel
theorem dX5_takesBase_28 : decode cX5_takesBase 28 = .ok (.ireturn, 1) := by decide +kernel
theorem dX5_takesBase_29 : decode cX5_takesBase 29 = .ok (.iload_n 1, 1) := by decide +kernel
theorem dX5_takesBase_30 : decode cX5_takesBase 30 = .ok (.bipush 114, 2) := by decide +kernel
theorem dX5_takesBase_32 : decode cX5_takesBase 32 = .ok (.if_icmp .ne 10, 3) := by decide +kernel
theorem dX5_takesBase_35 : decode cX5_takesBase 35 = .ok (.aload_n 0, 1) := by decide +kernel
theorem dX5_takesBase_36 : decode cX5_takesBase 36 = .ok (.iconst 3, 1) := by decide +kernel
theorem dX5_takesBase_37 : decode cX5_takesBase 37 = .ok (.putfield 41, 3) := by decide +kernel
theorem dX5_takesBase_40 : decode cX5_takesBase 40 = .ok (.iconst 1, 1) := by decide +kernel
theorem dX5_takesBase_41 : decode cX5_takesBase 41 = .ok (.ireturn, 1) := by decide +kernel
theorem dX5_takesBase_42 : decode cX5_takesBase 42 = .ok (.iload_n 1, 1) := by decide +kernel
theorem dX5_takesBase_43 : decode cX5_takesBase 43 = .ok (.bipush 40, 2) := by decide +kernel
theorem dX5_takesBase_45 : decode cX5_takesBase 45 = .ok (.if_icmp .ne 15, 3) := by decide +kernel
theorem dX5_takesBase_48 : decode cX5_takesBase 48 = .ok (.aload_n 0, 1) := by decide +kernel
theorem dX5_takesBase_49 : decode cX5_takesBase 49 = .ok (.iconst 5, 1) := by decide +kernel
theorem dX5_takesBase_50 : decode cX5_takesBase 50 = .ok (.invokevirtual 78, 3) := by decide +kernel
theorem dX5_takesBase_53 : decode cX5_takesBase 53 = .ok (.ifCond .eq 7, 3) := by decide +kernel
theorem dX5_takesBase_56 : decode cX5_takesBase 56 = .ok (.iconst 1, 1) := by decide +kernel
theorem dX5_takesBase_57 : decode cX5_takesBase 57 = .ok (.goto 4, 3) := by decide +kernel
theorem dX5_takesBase_60 : decode cX5_takesBase 60 = .ok (.iconst 0, 1) := by decide +kernel
theorem dX5_takesBase_61 : decode cX5_takesBase 61 = .ok (.ireturn, 1) := by decide +kernel
theorem dX5_beginScript_0 : decode cX5_beginScript 0 = .ok (.aload_n 0, 1) := by decide +kernel
theorem dX5_beginScript_1 : decode cX5_beginScript 1 = .ok (.aload_n 0, 1) := by decide +kernel
theorem dX5_beginScript_2 : decode cX5_beginScript 2 = .ok (.getfield 41, 3) := by decide +kernel
theorem dX5_beginScript_5 : decode cX5_beginScript 5 = .ok (.iconst 1, 1) := by decide +kernel
theorem dX5_beginScript_6 : decode cX5_beginScript 6 = .ok (.if_icmp .ne 7, 3) := by decide +kernel
theorem dX5_beginScript_9 : decode cX5_beginScript 9 = .ok (.iconst 1, 1) := by decide +kernel
theorem dX5_beginScript_10 : decode cX5_beginScript 10 = .ok (.goto 4, 3) := by decide +kernel
theorem dX5_beginScript_13 : decode cX5_beginScript 13 = .ok (.iconst 0, 1) := by decide +kernel
theorem dX5_beginScript_14 : decode cX5_beginScript 14 = .ok (.putfield 72, 3) := by decide +kernel
theorem dX5_beginScript_17 : decode cX5_beginScript 17 = .ok (.aload_n 0, 1) := by decide +kernel
theorem dX5_beginScript_18 : decode cX5_beginScript 18 = .ok (.iload_n 1, 1) := by decide +kernel
theorem dX5_beginScript_19 : decode cX5_beginScript 19 = .ok (.putfield 69, 3) := by decide +kernel
theorem dX5_beginScript_22 : decode cX5_beginScript 22 = .ok (.aload_n 0, 1) := by decide +kernel
theorem dX5_beginScript_23 : decode cX5_beginScript 23 = .ok (.getfield 20, 3) := by decide +kernel
theorem dX5_beginScript_26 : decode cX5_beginScript 26 = .ok (.iload_n 1, 1) := by decide +kernel
theorem dX5_beginScript_27 : decode cX5_beginScript 27 = .ok (.invokevirtual 94, 3) := by decide +kernel
theorem dX5_beginScript_30 : decode cX5_beginScript 30 = .ok (.aload_n 0, 1) := by decide +kernel
theorem dX5_beginScript_31 : decode cX5_beginScript 31 = .ok (.iconst 2, 1) := by decide +kernel
theorem dX5_beginScript_32 : decode cX5_beginScript 32 = .ok (.putfield 41, 3) := by decide +kernel
theorem dX5_beginScript_35 : decode cX5_beginScript 35 = .ok (.return_, 1) := by decide +kernel
theorem dX5_endBase_0 : decode cX5_endBase 0 = .ok (.aload_n 0, 1) := by decide +kernel
theorem dX5_endBase_1 : decode cX5_endBase 1 = .ok (.getfield 69, 3) := by decide +kernel
theorem dX5_endBase_4 : decode cX5_endBase 4 = .ok (.ifCond .ne 14, 3) := by decide +kernel
theorem dX5_endBase_7 : decode cX5_endBase 7 = .ok (.aload_n 0, 1) := by decide +kernel
theorem dX5_endBase_8 : decode cX5_endBase 8 = .ok (.iload_n 1, 1) := by decide +kernel
theorem dX5_endBase_9 : decode cX5_endBase 9 = .ok (.putfield 66, 3) := by decide +kernel
theorem dX5_endBase_12 : decode cX5_endBase 12 = .ok (.aload_n 0, 1) := by decide +kernel
theorem dX5_endBase_13 : decode cX5_endBase 13 = .ok (.iconst 1, 1) := by decide +kernel
theorem dX5_endBase_14 : decode cX5_endBase 14 = .ok (.putfield 41, 3) := by decide +kernel
theorem dX5_endBase_17 : decode cX5_endBase 17 = .ok (.return_, 1) := by decide +kernel
theorem dX5_endBase_18 : decode cX5_endBase 18 = .ok (.aload_n 0, 1) := by decide +kernel
theorem dX5_endBase_19 : decode cX5_endBase 19 = .ok (.iconst 0, 1) := by decide +kernel
theorem dX5_endBase_20 : decode cX5_endBase 20 = .ok (.putfield 66, 3) := by decide +kernel
theorem dX5_endBase_23 : decode cX5_endBase 23 = .ok (.aload_n 0, 1) := by decide +kernel
theorem dX5_endBase_24 : decode cX5_endBase 24 = .ok (.getfield 20, 3) := by decide +kernel
theorem dX5_endBase_27 : decode cX5_endBase 27 = .ok (.bipush 10, 2) := by decide +kernel
theorem dX5_endBase_29 : decode cX5_endBase 29 = .ok (.aload_n 0, 1) := by decide +kernel
theorem dX5_endBase_30 : decode cX5_endBase 30 = .ok (.getfield 69, 3) := by decide +kernel
theorem dX5_endBase_33 : decode cX5_endBase 33 = .ok (.iadd, 1) := by decide +kernel
theorem dX5_endBase_34 : decode cX5_endBase 34 = .ok (.invokevirtual 94, 3) := by decide +kernel
theorem dX5_endBase_37 : decode cX5_endBase 37 = .ok (.aload_n 0, 1) := by decide +kernel
theorem dX5_endBase_38 : decode cX5_endBase 38 = .ok (.iconst 0, 1) := by decide +kernel
theorem dX5_endBase_39 : decode cX5_endBase 39 = .ok (.putfield 69, 3) := by decide +kernel
theorem dX5_endBase_42 : decode cX5_endBase 42 = .ok (.aload_n 0, 1) := by decide +kernel
theorem dX5_endBase_43 : decode cX5_endBase 43 = .ok (.aload_n 0, 1) := by decide +kernel
theorem dX5_endBase_44 : decode cX5_endBase 44 = .ok (.getfield 72, 3) := by decide +kernel
theorem dX5_endBase_47 : decode cX5_endBase 47 = .ok (.ifCond .eq 7, 3) := by decide +kernel
theorem dX5_endBase_50 : decode cX5_endBase 50 = .ok (.iconst 1, 1) := by decide +kernel
theorem dX5_endBase_51 : decode cX5_endBase 51 = .ok (.goto 4, 3) := by decide +kernel
theorem dX5_endBase_54 : decode cX5_endBase 54 = .ok (.iconst 0, 1) := by decide +kernel
theorem dX5_endBase_55 : decode cX5_endBase 55 = .ok (.putfield 41, 3) := by decide +kernel
theorem dX5_endBase_58 : decode cX5_endBase 58 = .ok (.return_, 1) := by decide +kernel
theorem dX5_takesDivision_0 : decode cX5_takesDivision 0 = .ok (.aload_n 0, 1) := by decide +kernel
theorem dX5_takesDivision_1 : decode cX5_takesDivision 1 = .ok (.getfield 41, 3) := by decide +kernel
theorem dX5_takesDivision_4 : decode cX5_takesDivision 4 = .ok (.iconst 1, 1) := by decide +kernel
theorem dX5_takesDivision_5 : decode cX5_takesDivision 5 = .ok (.if_icmp .eq 5, 3) := by decide +kernel
theorem dX5_takesDivision_8 : decode cX5_takesDivision 8 = .ok (.iconst 0, 1) := by decide +kernel
theorem dX5_takesDivision_9 : decode cX5_takesDivision 9 = .ok (.ireturn, 1) := by decide +kernel
theorem dX5_takesDivision_10 : decode cX5_takesDivision 10 = .ok (.aload_n 0, 1) := by decide +kernel
theorem dX5_takesDivision_11 : decode cX5_takesDivision 11 = .ok (.invokevirtual 110, 3) := by decide +kernel
theorem dX5_takesDivision_14 : decode cX5_takesDivision 14 = .ok (.aload_n 0, 1) := by decide +kernel
theorem dX5_takesDivision_15 : decode cX5_takesDivision 15 = .ok (.getfield 20, 3) := by decide +kernel
theorem dX5_takesDivision_18 : decode cX5_takesDivision 18 = .ok (.aload_n 0, 1) := by decide +kernel
theorem dX5_takesDivision_19 : decode cX5_takesDivision 19 = .ok (.getfield 56, 3) := by decide +kernel
theorem dX5_takesDivision_22 : decode cX5_takesDivision 22 = .ok (.iconst 1, 1) := by decide +kernel
theorem dX5_takesDivision_23 : decode cX5_takesDivision 23 = .ok (.invokevirtual 113, 3) := by decide +kernel
theorem dX5_takesDivision_26 : decode cX5_takesDivision 26 = .ok (.aload_n 0, 1) := by decide +kernel
theorem dX5_takesDivision_27 : decode cX5_takesDivision 27 = .ok (.getfield 20, 3) := by decide +kernel
theorem dX5_takesDivision_30 : decode cX5_takesDivision 30 = .ok (.bipush 6, 2) := by decide +kernel
theorem dX5_takesDivision_32 : decode cX5_takesDivision 32 = .ok (.invokevirtual 94, 3) := by decide +kernel
theorem dX5_takesDivision_35 : decode cX5_takesDivision 35 = .ok (.aload_n 0, 1) := by decide +kernel
theorem dX5_takesDivision_36 : decode cX5_takesDivision 36 = .ok (.aload_n 0, 1) := by decide +kernel
theorem dX5_takesDivision_37 : decode cX5_takesDivision 37 = .ok (.getfield 20, 3) := by decide +kernel
theorem dX5_takesDivision_40 : decode cX5_takesDivision 40 = .ok (.getfield 47, 3) := by decide +kernel
theorem dX5_takesDivision_43 : decode cX5_takesDivision 43 = .ok (.putfield 59, 3) := by decide +kernel
theorem dX5_takesDivision_46 : decode cX5_takesDivision 46 = .ok (.aload_n 0, 1) := by decide +kernel
theorem dX5_takesDivision_47 : decode cX5_takesDivision 47 = .ok (.iconst 1, 1) := by decide +kernel
theorem dX5_takesDivision_48 : decode cX5_takesDivision 48 = .ok (.putfield 62, 3) := by decide +kernel
theorem dX5_takesDivision_51 : decode cX5_takesDivision 51 = .ok (.aload_n 0, 1) := by decide +kernel
theorem dX5_takesDivision_52 : decode cX5_takesDivision 52 = .ok (.iconst 2, 1) := by decide +kernel
theorem dX5_takesDivision_53 : decode cX5_takesDivision 53 = .ok (.putfield 41, 3) := by decide +kernel
theorem dX5_takesDivision_56 : decode cX5_takesDivision 56 = .ok (.iconst 1, 1) := by decide +kernel
theorem dX5_takesDivision_57 : decode cX5_takesDivision 57 = .ok (.ireturn, 1) := by decide +kernel
theorem dX5_endFactor_0 : decode cX5_endFactor 0 = .ok (.aload_n 0, 1) := by decide +kernel
theorem dX5_endFactor_1 : decode cX5_endFactor 1 = .ok (.getfield 41, 3) := by decide +kernel
theorem dX5_endFactor_4 : decode cX5_endFactor 4 = .ok (.iconst 1, 1) := by decide +kernel
theorem dX5_endFactor_5 : decode cX5_endFactor 5 = .ok (.if_icmp .ne 14, 3) := by decide +kernel
theorem dX5_endFactor_8 : decode cX5_endFactor 8 = .ok (.aload_n 0, 1) := by decide +kernel
theorem dX5_endFactor_9 : decode cX5_endFactor 9 = .ok (.getfield 62, 3) := by decide +kernel
theorem dX5_endFactor_12 : decode cX5_endFactor 12 = .ok (.ifCond .eq 7, 3) := by decide +kernel
theorem dX5_endFactor_15 : decode cX5_endFactor 15 = .ok (.aload_n 0, 1) := by decide +kernel
theorem dX5_endFactor_16 : decode cX5_endFactor 16 = .ok (.invokevirtual 110, 3) := by decide +kernel
theorem dX5_endFactor_19 : decode cX5_endFactor 19 = .ok (.return_, 1) := by decide +kernel
theorem dX5_endOperand_0 : decode cX5_endOperand 0 = .ok (.aload_n 0, 1) := by decide +kernel
theorem dX5_endOperand_1 : decode cX5_endOperand 1 = .ok (.getfield 66, 3) := by decide +kernel
theorem dX5_endOperand_4 : decode cX5_endOperand 4 = .ok (.ifCond .eq 48, 3) := by decide +kernel
theorem dX5_endOperand_7 : decode cX5_endOperand 7 = .ok (.aload_n 0, 1) := by decide +kernel
theorem dX5_endOperand_8 : decode cX5_endOperand 8 = .ok (.getfield 20, 3) := by decide +kernel
theorem dX5_endOperand_11 : decode cX5_endOperand 11 = .ok (.aload_n 0, 1) := by decide +kernel
theorem dX5_endOperand_12 : decode cX5_endOperand 12 = .ok (.getfield 20, 3) := by decide +kernel
theorem dX5_endOperand_15 : decode cX5_endOperand 15 = .ok (.getfield 47, 3) := by decide +kernel
theorem dX5_endOperand_18 : decode cX5_endOperand 18 = .ok (.iconst 1, 1) := by decide +kernel
theorem dX5_endOperand_19 : decode cX5_endOperand 19 = .ok (.isub, 1) := by decide +kernel
theorem dX5_endOperand_20 : decode cX5_endOperand 20 = .ok (.aload_n 0, 1) := by decide +kernel
theorem dX5_endOperand_21 : decode cX5_endOperand 21 = .ok (.getfield 20, 3) := by decide +kernel
theorem dX5_endOperand_24 : decode cX5_endOperand 24 = .ok (.getfield 47, 3) := by decide +kernel
theorem dX5_endOperand_27 : decode cX5_endOperand 27 = .ok (.invokevirtual 117, 3) := by decide +kernel
theorem dX5_endOperand_30 : decode cX5_endOperand 30 = .ok (.aload_n 0, 1) := by decide +kernel
theorem dX5_endOperand_31 : decode cX5_endOperand 31 = .ok (.getfield 20, 3) := by decide +kernel
theorem dX5_endOperand_34 : decode cX5_endOperand 34 = .ok (.aload_n 0, 1) := by decide +kernel
theorem dX5_endOperand_35 : decode cX5_endOperand 35 = .ok (.getfield 59, 3) := by decide +kernel
theorem dX5_endOperand_38 : decode cX5_endOperand 38 = .ok (.aload_n 0, 1) := by decide +kernel
theorem dX5_endOperand_39 : decode cX5_endOperand 39 = .ok (.getfield 59, 3) := by decide +kernel
theorem dX5_endOperand_42 : decode cX5_endOperand 42 = .ok (.iconst 1, 1) := by decide +kernel
theorem dX5_endOperand_43 : decode cX5_endOperand 43 = .ok (.iadd, 1) := by decide +kernel
theorem dX5_endOperand_44 : decode cX5_endOperand 44 = .ok (.invokevirtual 117, 3) := by decide +kernel
theorem dX5_endOperand_47 : decode cX5_endOperand 47 = .ok (.aload_n 0, 1) := by decide +kernel
theorem dX5_endOperand_48 : decode cX5_endOperand 48 = .ok (.iconst 0, 1) := by decide +kernel
theorem dX5_endOperand_49 : decode cX5_endOperand 49 = .ok (.putfield 66, 3) := by decide +kernel
theorem dX5_endOperand_52 : decode cX5_endOperand 52 = .ok (.aload_n 0, 1) := by decide +kernel
theorem dX5_endOperand_53 : decode cX5_endOperand 53 = .ok (.getfield 62, 3) := by decide +kernel
theorem dX5_endOperand_56 : decode cX5_endOperand 56 = .ok (.ifCond .eq 17, 3) := by decide +kernel
theorem dX5_endOperand_59 : decode cX5_endOperand 59 = .ok (.aload_n 0, 1) := by decide +kernel
theorem dX5_endOperand_60 : decode cX5_endOperand 60 = .ok (.getfield 20, 3) := by decide +kernel
theorem dX5_endOperand_63 : decode cX5_endOperand 63 = .ok (.bipush 11, 2) := by decide +kernel
theorem dX5_endOperand_65 : decode cX5_endOperand 65 = .ok (.invokevirtual 94, 3) := by decide +kernel
theorem dX5_endOperand_68 : decode cX5_endOperand 68 = .ok (.aload_n 0, 1) := by decide +kernel
theorem dX5_endOperand_69 : decode cX5_endOperand 69 = .ok (.iconst 0, 1) := by decide +kernel
theorem dX5_endOperand_70 : decode cX5_endOperand 70 = .ok (.putfield 62, 3) := by decide +kernel
theorem dX5_endOperand_73 : decode cX5_endOperand 73 = .ok (.return_, 1) := by decide +kernel
theorem dX5_isItem_0 : decode cX5_isItem 0 = .ok (.iload_n 1, 1) := by decide +kernel
theorem dX5_isItem_1 : decode cX5_isItem 1 = .ok (.iconst 4, 1) := by decide +kernel
theorem dX5_isItem_2 : decode cX5_isItem 2 = .ok (.if_icmp .eq 10, 3) := by decide +kernel
theorem dX5_isItem_5 : decode cX5_isItem 5 = .ok (.aload_n 0, 1) := by decide +kernel
theorem dX5_isItem_6 : decode cX5_isItem 6 = .ok (.getfield 69, 3) := by decide +kernel
theorem dX5_isItem_9 : decode cX5_isItem 9 = .ok (.ifCond .ne 7, 3) := by decide +kernel
theorem dX5_isItem_12 : decode cX5_isItem 12 = .ok (.iconst 1, 1) := by decide +kernel
theorem dX5_isItem_13 : decode cX5_isItem 13 = .ok (.goto 4, 3) := by decide +kernel
theorem dX5_isItem_16 : decode cX5_isItem 16 = .ok (.iconst 0, 1) := by decide +kernel
theorem dX5_isItem_17 : decode cX5_isItem 17 = .ok (.ireturn, 1) := by decide +kernel
theorem dX5_opensBracket_0 : decode cX5_opensBracket 0 = .ok (.aload_n 0, 1) := by decide +kernel
theorem dX5_opensBracket_1 : decode cX5_opensBracket 1 = .ok (.getfield 50, 3) := by decide +kernel
theorem dX5_opensBracket_4 : decode cX5_opensBracket 4 = .ok (.aload_n 0, 1) := by decide +kernel
theorem dX5_opensBracket_5 : decode cX5_opensBracket 5 = .ok (.getfield 24, 3) := by decide +kernel
theorem dX5_opensBracket_8 : decode cX5_opensBracket 8 = .ok (.arraylength, 1) := by decide +kernel
theorem dX5_opensBracket_9 : decode cX5_opensBracket 9 = .ok (.bipush 6, 2) := by decide +kernel
theorem dX5_opensBracket_11 : decode cX5_opensBracket 11 = .ok (.isub, 1) := by decide +kernel
theorem dX5_opensBracket_12 : decode cX5_opensBracket 12 = .ok (.if_icmp .le 5, 3) := by decide +kernel
theorem dX5_opensBracket_15 : decode cX5_opensBracket 15 = .ok (.iconst 0, 1) := by decide +kernel
theorem dX5_opensBracket_16 : decode cX5_opensBracket 16 = .ok (.ireturn, 1) := by decide +kernel
theorem dX5_opensBracket_17 : decode cX5_opensBracket 17 = .ok (.aload_n 0, 1) := by decide +kernel
theorem dX5_opensBracket_18 : decode cX5_opensBracket 18 = .ok (.iload_n 1, 1) := by decide +kernel
theorem dX5_opensBracket_19 : decode cX5_opensBracket 19 = .ok (.invokevirtual 120, 3) := by decide +kernel
theorem dX5_opensBracket_22 : decode cX5_opensBracket 22 = .ok (.ifCond .eq 11, 3) := by decide +kernel
theorem dX5_opensBracket_25 : decode cX5_opensBracket 25 = .ok (.aload_n 0, 1) := by decide +kernel
theorem dX5_opensBracket_26 : decode cX5_opensBracket 26 = .ok (.getfield 20, 3) := by decide +kernel
theorem dX5_opensBracket_29 : decode cX5_opensBracket 29 = .ok (.iload_n 1, 1) := by decide +kernel
theorem dX5_opensBracket_30 : decode cX5_opensBracket 30 = .ok (.invokevirtual 94, 3) := by decide +kernel
theorem dX5_opensBracket_33 : decode cX5_opensBracket 33 = .ok (.aload_n 0, 1) := by decide +kernel
theorem dX5_opensBracket_34 : decode cX5_opensBracket 34 = .ok (.aload_n 0, 1) := by decide +kernel
theorem dX5_opensBracket_35 : decode cX5_opensBracket 35 = .ok (.getfield 38, 3) := by decide +kernel
theorem dX5_opensBracket_38 : decode cX5_opensBracket 38 = .ok (.invokevirtual 123, 3) := by decide +kernel
theorem dX5_opensBracket_41 : decode cX5_opensBracket 41 = .ok (.aload_n 0, 1) := by decide +kernel
theorem dX5_opensBracket_42 : decode cX5_opensBracket 42 = .ok (.aload_n 0, 1) := by decide +kernel
theorem dX5_opensBracket_43 : decode cX5_opensBracket 43 = .ok (.getfield 56, 3) := by decide +kernel
theorem dX5_opensBracket_46 : decode cX5_opensBracket 46 = .ok (.invokevirtual 123, 3) := by decide +kernel
theorem dX5_opensBracket_49 : decode cX5_opensBracket 49 = .ok (.aload_n 0, 1) := by decide +kernel
theorem dX5_opensBracket_50 : decode cX5_opensBracket 50 = .ok (.aload_n 0, 1) := by decide +kernel
theorem dX5_opensBracket_51 : decode cX5_opensBracket 51 = .ok (.getfield 59, 3) := by decide +kernel
theorem dX5_opensBracket_54 : decode cX5_opensBracket 54 = .ok (.invokevirtual 123, 3) := by decide +kernel
theorem dX5_opensBracket_57 : decode cX5_opensBracket 57 = .ok (.aload_n 0, 1) := by decide +kernel
theorem dX5_opensBracket_58 : decode cX5_opensBracket 58 = .ok (.aload_n 0, 1) := by decide +kernel
theorem dX5_opensBracket_59 : decode cX5_opensBracket 59 = .ok (.getfield 62, 3) := by decide +kernel
theorem dX5_opensBracket_62 : decode cX5_opensBracket 62 = .ok (.ifCond .eq 7, 3) := by decide +kernel
theorem dX5_opensBracket_65 : decode cX5_opensBracket 65 = .ok (.iconst 1, 1) := by decide +kernel
theorem dX5_opensBracket_66 : decode cX5_opensBracket 66 = .ok (.goto 4, 3) := by decide +kernel
theorem dX5_opensBracket_69 : decode cX5_opensBracket 69 = .ok (.iconst 0, 1) := by decide +kernel
theorem dX5_opensBracket_70 : decode cX5_opensBracket 70 = .ok (.invokevirtual 123, 3) := by decide +kernel
theorem dX5_opensBracket_73 : decode cX5_opensBracket 73 = .ok (.aload_n 0, 1) := by decide +kernel
theorem dX5_opensBracket_74 : decode cX5_opensBracket 74 = .ok (.aload_n 0, 1) := by decide +kernel
theorem dX5_opensBracket_75 : decode cX5_opensBracket 75 = .ok (.getfield 69, 3) := by decide +kernel
theorem dX5_opensBracket_78 : decode cX5_opensBracket 78 = .ok (.invokevirtual 123, 3) := by decide +kernel
theorem dX5_opensBracket_81 : decode cX5_opensBracket 81 = .ok (.aload_n 0, 1) := by decide +kernel
theorem dX5_opensBracket_82 : decode cX5_opensBracket 82 = .ok (.aload_n 0, 1) := by decide +kernel
theorem dX5_opensBracket_83 : decode cX5_opensBracket 83 = .ok (.getfield 72, 3) := by decide +kernel
theorem dX5_opensBracket_86 : decode cX5_opensBracket 86 = .ok (.ifCond .eq 7, 3) := by decide +kernel
theorem dX5_opensBracket_89 : decode cX5_opensBracket 89 = .ok (.iconst 1, 1) := by decide +kernel
theorem dX5_opensBracket_90 : decode cX5_opensBracket 90 = .ok (.goto 4, 3) := by decide +kernel
theorem dX5_opensBracket_93 : decode cX5_opensBracket 93 = .ok (.iconst 0, 1) := by decide +kernel
theorem dX5_opensBracket_94 : decode cX5_opensBracket 94 = .ok (.invokevirtual 123, 3) := by decide +kernel
theorem dX5_opensBracket_97 : decode cX5_opensBracket 97 = .ok (.aload_n 0, 1) := by decide +kernel
theorem dX5_opensBracket_98 : decode cX5_opensBracket 98 = .ok (.iload_n 1, 1) := by decide +kernel
theorem dX5_opensBracket_99 : decode cX5_opensBracket 99 = .ok (.putfield 38, 3) := by decide +kernel
theorem dX5_opensBracket_102 : decode cX5_opensBracket 102 = .ok (.aload_n 0, 1) := by decide +kernel
theorem dX5_opensBracket_103 : decode cX5_opensBracket 103 = .ok (.invokevirtual 53, 3) := by decide +kernel
theorem dX5_opensBracket_106 : decode cX5_opensBracket 106 = .ok (.iconst 1, 1) := by decide +kernel
theorem dX5_opensBracket_107 : decode cX5_opensBracket 107 = .ok (.ireturn, 1) := by decide +kernel
theorem dX5_closesBracket_0 : decode cX5_closesBracket 0 = .ok (.aload_n 0, 1) := by decide +kernel
theorem dX5_closesBracket_1 : decode cX5_closesBracket 1 = .ok (.getfield 38, 3) := by decide +kernel
theorem dX5_closesBracket_4 : decode cX5_closesBracket 4 = .ok (.ifCond .ne 5, 3) := by decide +kernel
theorem dX5_closesBracket_7 : decode cX5_closesBracket 7 = .ok (.iconst 0, 1) := by decide +kernel
theorem dX5_closesBracket_8 : decode cX5_closesBracket 8 = .ok (.ireturn, 1) := by decide +kernel
theorem dX5_closesBracket_9 : decode cX5_closesBracket 9 = .ok (.aload_n 0, 1) := by decide +kernel
theorem dX5_closesBracket_10 : decode cX5_closesBracket 10 = .ok (.getfield 38, 3) := by decide +kernel
theorem dX5_closesBracket_13 : decode cX5_closesBracket 13 = .ok (.istore_n 1, 1) := by decide +kernel
theorem dX5_closesBracket_14 : decode cX5_closesBracket 14 = .ok (.aload_n 0, 1) := by decide +kernel
theorem dX5_closesBracket_15 : decode cX5_closesBracket 15 = .ok (.aload_n 0, 1) := by decide +kernel
theorem dX5_closesBracket_16 : decode cX5_closesBracket 16 = .ok (.invokevirtual 126, 3) := by decide +kernel
theorem dX5_closesBracket_19 : decode cX5_closesBracket 19 = .ok (.iconst 1, 1) := by decide +kernel
theorem dX5_closesBracket_20 : decode cX5_closesBracket 20 = .ok (.if_icmp .ne 7, 3) := by decide +kernel
theorem dX5_closesBracket_23 : decode cX5_closesBracket 23 = .ok (.iconst 1, 1) := by decide +kernel
theorem dX5_closesBracket_24 : decode cX5_closesBracket 24 = .ok (.goto 4, 3) := by decide +kernel
theorem dX5_closesBracket_27 : decode cX5_closesBracket 27 = .ok (.iconst 0, 1) := by decide +kernel
theorem dX5_closesBracket_28 : decode cX5_closesBracket 28 = .ok (.putfield 72, 3) := by decide +kernel
theorem dX5_closesBracket_31 : decode cX5_closesBracket 31 = .ok (.aload_n 0, 1) := by decide +kernel
theorem dX5_closesBracket_32 : decode cX5_closesBracket 32 = .ok (.aload_n 0, 1) := by decide +kernel
theorem dX5_closesBracket_33 : decode cX5_closesBracket 33 = .ok (.invokevirtual 126, 3) := by decide +kernel
theorem dX5_closesBracket_36 : decode cX5_closesBracket 36 = .ok (.putfield 69, 3) := by decide +kernel
theorem dX5_closesBracket_39 : decode cX5_closesBracket 39 = .ok (.aload_n 0, 1) := by decide +kernel
theorem dX5_closesBracket_40 : decode cX5_closesBracket 40 = .ok (.aload_n 0, 1) := by decide +kernel
theorem dX5_closesBracket_41 : decode cX5_closesBracket 41 = .ok (.invokevirtual 126, 3) := by decide +kernel
theorem dX5_closesBracket_44 : decode cX5_closesBracket 44 = .ok (.iconst 1, 1) := by decide +kernel
theorem dX5_closesBracket_45 : decode cX5_closesBracket 45 = .ok (.if_icmp .ne 7, 3) := by decide +kernel
theorem dX5_closesBracket_48 : decode cX5_closesBracket 48 = .ok (.iconst 1, 1) := by decide +kernel
theorem dX5_closesBracket_49 : decode cX5_closesBracket 49 = .ok (.goto 4, 3) := by decide +kernel
theorem dX5_closesBracket_52 : decode cX5_closesBracket 52 = .ok (.iconst 0, 1) := by decide +kernel
theorem dX5_closesBracket_53 : decode cX5_closesBracket 53 = .ok (.putfield 62, 3) := by decide +kernel
theorem dX5_closesBracket_56 : decode cX5_closesBracket 56 = .ok (.aload_n 0, 1) := by decide +kernel
theorem dX5_closesBracket_57 : decode cX5_closesBracket 57 = .ok (.aload_n 0, 1) := by decide +kernel
theorem dX5_closesBracket_58 : decode cX5_closesBracket 58 = .ok (.invokevirtual 126, 3) := by decide +kernel
theorem dX5_closesBracket_61 : decode cX5_closesBracket 61 = .ok (.putfield 59, 3) := by decide +kernel
theorem dX5_closesBracket_64 : decode cX5_closesBracket 64 = .ok (.aload_n 0, 1) := by decide +kernel
theorem dX5_closesBracket_65 : decode cX5_closesBracket 65 = .ok (.aload_n 0, 1) := by decide +kernel
theorem dX5_closesBracket_66 : decode cX5_closesBracket 66 = .ok (.invokevirtual 126, 3) := by decide +kernel
theorem dX5_closesBracket_69 : decode cX5_closesBracket 69 = .ok (.putfield 56, 3) := by decide +kernel
theorem dX5_closesBracket_72 : decode cX5_closesBracket 72 = .ok (.aload_n 0, 1) := by decide +kernel
theorem dX5_closesBracket_73 : decode cX5_closesBracket 73 = .ok (.aload_n 0, 1) := by decide +kernel
theorem dX5_closesBracket_74 : decode cX5_closesBracket 74 = .ok (.invokevirtual 126, 3) := by decide +kernel
theorem dX5_closesBracket_77 : decode cX5_closesBracket 77 = .ok (.putfield 38, 3) := by decide +kernel
theorem dX5_closesBracket_80 : decode cX5_closesBracket 80 = .ok (.aload_n 0, 1) := by decide +kernel
theorem dX5_closesBracket_81 : decode cX5_closesBracket 81 = .ok (.iload_n 1, 1) := by decide +kernel
theorem dX5_closesBracket_82 : decode cX5_closesBracket 82 = .ok (.invokevirtual 120, 3) := by decide +kernel
theorem dX5_closesBracket_85 : decode cX5_closesBracket 85 = .ok (.ifCond .eq 14, 3) := by decide +kernel
theorem dX5_closesBracket_88 : decode cX5_closesBracket 88 = .ok (.aload_n 0, 1) := by decide +kernel
theorem dX5_closesBracket_89 : decode cX5_closesBracket 89 = .ok (.getfield 20, 3) := by decide +kernel
theorem dX5_closesBracket_92 : decode cX5_closesBracket 92 = .ok (.bipush 10, 2) := by decide +kernel
theorem dX5_closesBracket_94 : decode cX5_closesBracket 94 = .ok (.iload_n 1, 1) := by decide +kernel
theorem dX5_closesBracket_95 : decode cX5_closesBracket 95 = .ok (.iadd, 1) := by decide +kernel
theorem dX5_closesBracket_96 : decode cX5_closesBracket 96 = .ok (.invokevirtual 94, 3) := by decide +kernel
theorem dX5_closesBracket_99 : decode cX5_closesBracket 99 = .ok (.aload_n 0, 1) := by decide +kernel
theorem dX5_closesBracket_100 : decode cX5_closesBracket 100 = .ok (.iload_n 1, 1) := by decide +kernel
theorem dX5_closesBracket_101 : decode cX5_closesBracket 101 = .ok (.iconst 5, 1) := by decide +kernel
theorem dX5_closesBracket_102 : decode cX5_closesBracket 102 = .ok (.if_icmp .ne 7, 3) := by decide +kernel
theorem dX5_closesBracket_105 : decode cX5_closesBracket 105 = .ok (.iconst 1, 1) := by decide +kernel
theorem dX5_closesBracket_106 : decode cX5_closesBracket 106 = .ok (.goto 4, 3) := by decide +kernel
theorem dX5_closesBracket_109 : decode cX5_closesBracket 109 = .ok (.iconst 0, 1) := by decide +kernel
theorem dX5_closesBracket_110 : decode cX5_closesBracket 110 = .ok (.invokevirtual 106, 3) := by decide +kernel
theorem dX5_closesBracket_113 : decode cX5_closesBracket 113 = .ok (.iconst 1, 1) := by decide +kernel
theorem dX5_closesBracket_114 : decode cX5_closesBracket 114 = .ok (.ireturn, 1) := by decide +kernel
theorem dX5_push_0 : decode cX5_push 0 = .ok (.aload_n 0, 1) := by decide +kernel
theorem dX5_push_1 : decode cX5_push 1 = .ok (.getfield 50, 3) := by decide +kernel
theorem dX5_push_4 : decode cX5_push 4 = .ok (.ifCond .lt 35, 3) := by decide +kernel
theorem dX5_push_7 : decode cX5_push 7 = .ok (.aload_n 0, 1) := by decide +kernel
theorem dX5_push_8 : decode cX5_push 8 = .ok (.getfield 50, 3) := by decide +kernel
theorem dX5_push_11 : decode cX5_push 11 = .ok (.aload_n 0, 1) := by decide +kernel
theorem dX5_push_12 : decode cX5_push 12 = .ok (.getfield 24, 3) := by decide +kernel
theorem dX5_push_15 : decode cX5_push 15 = .ok (.arraylength, 1) := by decide +kernel
theorem dX5_push_16 : decode cX5_push 16 = .ok (.if_icmp .ge 23, 3) := by decide +kernel
theorem dX5_push_19 : decode cX5_push 19 = .ok (.aload_n 0, 1) := by decide +kernel
theorem dX5_push_20 : decode cX5_push 20 = .ok (.getfield 24, 3) := by decide +kernel
theorem dX5_push_23 : decode cX5_push 23 = .ok (.aload_n 0, 1) := by decide +kernel
theorem dX5_push_24 : decode cX5_push 24 = .ok (.getfield 50, 3) := by decide +kernel
theorem dX5_push_27 : decode cX5_push 27 = .ok (.iload_n 1, 1) := by decide +kernel
theorem dX5_push_28 : decode cX5_push 28 = .ok (.iastore, 1) := by decide +kernel
theorem dX5_push_29 : decode cX5_push 29 = .ok (.aload_n 0, 1) := by decide +kernel
theorem dX5_push_30 : decode cX5_push 30 = .ok (.dup, 1) := by decide +kernel
theorem dX5_push_31 : decode cX5_push 31 = .ok (.getfield 50, 3) := by decide +kernel
theorem dX5_push_34 : decode cX5_push 34 = .ok (.iconst 1, 1) := by decide +kernel
theorem dX5_push_35 : decode cX5_push 35 = .ok (.iadd, 1) := by decide +kernel
theorem dX5_push_36 : decode cX5_push 36 = .ok (.putfield 50, 3) := by decide +kernel
theorem dX5_push_39 : decode cX5_push 39 = .ok (.return_, 1) := by decide +kernel
theorem dX5_pop_0 : decode cX5_pop 0 = .ok (.aload_n 0, 1) := by decide +kernel
theorem dX5_pop_1 : decode cX5_pop 1 = .ok (.getfield 50, 3) := by decide +kernel
theorem dX5_pop_4 : decode cX5_pop 4 = .ok (.ifCond .le 15, 3) := by decide +kernel
theorem dX5_pop_7 : decode cX5_pop 7 = .ok (.aload_n 0, 1) := by decide +kernel
theorem dX5_pop_8 : decode cX5_pop 8 = .ok (.getfield 50, 3) := by decide +kernel
theorem dX5_pop_11 : decode cX5_pop 11 = .ok (.aload_n 0, 1) := by decide +kernel
theorem dX5_pop_12 : decode cX5_pop 12 = .ok (.getfield 24, 3) := by decide +kernel
theorem dX5_pop_15 : decode cX5_pop 15 = .ok (.arraylength, 1) := by decide +kernel
theorem dX5_pop_16 : decode cX5_pop 16 = .ok (.if_icmp .le 5, 3) := by decide +kernel
theorem dX5_pop_19 : decode cX5_pop 19 = .ok (.iconst 0, 1) := by decide +kernel
theorem dX5_pop_20 : decode cX5_pop 20 = .ok (.ireturn, 1) := by decide +kernel
theorem dX5_pop_21 : decode cX5_pop 21 = .ok (.aload_n 0, 1) := by decide +kernel
theorem dX5_pop_22 : decode cX5_pop 22 = .ok (.dup, 1) := by decide +kernel
theorem dX5_pop_23 : decode cX5_pop 23 = .ok (.getfield 50, 3) := by decide +kernel
theorem dX5_pop_26 : decode cX5_pop 26 = .ok (.iconst 1, 1) := by decide +kernel
theorem dX5_pop_27 : decode cX5_pop 27 = .ok (.isub, 1) := by decide +kernel
theorem dX5_pop_28 : decode cX5_pop 28 = .ok (.putfield 50, 3) := by decide +kernel
theorem dX5_pop_31 : decode cX5_pop 31 = .ok (.aload_n 0, 1) := by decide +kernel
theorem dX5_pop_32 : decode cX5_pop 32 = .ok (.getfield 24, 3) := by decide +kernel
theorem dX5_pop_35 : decode cX5_pop 35 = .ok (.aload_n 0, 1) := by decide +kernel
theorem dX5_pop_36 : decode cX5_pop 36 = .ok (.getfield 50, 3) := by decide +kernel
theorem dX5_pop_39 : decode cX5_pop 39 = .ok (.iaload, 1) := by decide +kernel
theorem dX5_pop_40 : decode cX5_pop 40 = .ok (.ireturn, 1) := by decide +kernel
theorem dX6_init_0 : decode cX6_init 0 = .ok (.aload_n 0, 1) := by decide +kernel
theorem dX6_init_1 : decode cX6_init 1 = .ok (.invokespecial 3, 3) := by decide +kernel
theorem dX6_init_4 : decode cX6_init 4 = .ok (.aload_n 0, 1) := by decide +kernel
theorem dX6_init_5 : decode cX6_init 5 = .ok (.sipush 300, 3) := by decide +kernel
theorem dX6_init_8 : decode cX6_init 8 = .ok (.newarray .int, 2) := by decide +kernel
theorem dX6_init_10 : decode cX6_init 10 = .ok (.putfield 9, 3) := by decide +kernel
theorem dX6_init_13 : decode cX6_init 13 = .ok (.aload_n 0, 1) := by decide +kernel
theorem dX6_init_14 : decode cX6_init 14 = .ok (.bipush 6, 2) := by decide +kernel
theorem dX6_init_16 : decode cX6_init 16 = .ok (.newarray .boolean, 2) := by decide +kernel
theorem dX6_init_18 : decode cX6_init 18 = .ok (.putfield 15, 3) := by decide +kernel
theorem dX6_init_21 : decode cX6_init 21 = .ok (.return_, 1) := by decide +kernel
theorem dX6_signAt_0 : decode cX6_signAt 0 = .ok (.iload_n 1, 1) := by decide +kernel
theorem dX6_signAt_1 : decode cX6_signAt 1 = .ok (.ifCond .lt 29, 3) := by decide +kernel
theorem dX6_signAt_4 : decode cX6_signAt 4 = .ok (.iload_n 1, 1) := by decide +kernel
theorem dX6_signAt_5 : decode cX6_signAt 5 = .ok (.aload_n 0, 1) := by decide +kernel
theorem dX6_signAt_6 : decode cX6_signAt 6 = .ok (.getfield 19, 3) := by decide +kernel
theorem dX6_signAt_9 : decode cX6_signAt 9 = .ok (.if_icmp .ge 21, 3) := by decide +kernel
theorem dX6_signAt_12 : decode cX6_signAt 12 = .ok (.iload_n 1, 1) := by decide +kernel
theorem dX6_signAt_13 : decode cX6_signAt 13 = .ok (.aload_n 0, 1) := by decide +kernel
theorem dX6_signAt_14 : decode cX6_signAt 14 = .ok (.getfield 9, 3) := by decide +kernel
theorem dX6_signAt_17 : decode cX6_signAt 17 = .ok (.arraylength, 1) := by decide +kernel
theorem dX6_signAt_18 : decode cX6_signAt 18 = .ok (.if_icmp .ge 12, 3) := by decide +kernel
theorem dX6_signAt_21 : decode cX6_signAt 21 = .ok (.aload_n 0, 1) := by decide +kernel
theorem dX6_signAt_22 : decode cX6_signAt 22 = .ok (.getfield 9, 3) := by decide +kernel
theorem dX6_signAt_25 : decode cX6_signAt 25 = .ok (.iload_n 1, 1) := by decide +kernel
theorem dX6_signAt_26 : decode cX6_signAt 26 = .ok (.iaload, 1) := by decide +kernel
theorem dX6_signAt_27 : decode cX6_signAt 27 = .ok (.goto 5, 3) := by decide +kernel
theorem dX6_signAt_30 : decode cX6_signAt 30 = .ok (.bipush 32, 2) := by decide +kernel
theorem dX6_signAt_32 : decode cX6_signAt 32 = .ok (.ireturn, 1) := by decide +kernel
theorem dX6_write_0 : decode cX6_write 0 = .ok (.aload_n 0, 1) := by decide +kernel
theorem dX6_write_1 : decode cX6_write 1 = .ok (.iconst 0, 1) := by decide +kernel
theorem dX6_write_2 : decode cX6_write 2 = .ok (.putfield 19, 3) := by decide +kernel
theorem dX6_write_5 : decode cX6_write 5 = .ok (.iconst 0, 1) := by decide +kernel
theorem dX6_write_6 : decode cX6_write 6 = .ok (.istore_n 2, 1) := by decide +kernel
theorem dX6_write_7 : decode cX6_write 7 = .ok (.iconst 0, 1) := by decide +kernel
theorem dX6_write_8 : decode cX6_write 8 = .ok (.istore_n 3, 1) := by decide +kernel
theorem dX6_write_9 : decode cX6_write 9 = .ok (.iload_n 3, 1) := by decide +kernel
theorem dX6_write_10 : decode cX6_write 10 = .ok (.aload_n 1, 1) := by decide +kernel
theorem dX6_write_11 : decode cX6_write 11 = .ok (.getfield 23, 3) := by decide +kernel
theorem dX6_write_14 : decode cX6_write 14 = .ok (.if_icmp .ge 103, 3) := by decide +kernel
theorem dX6_write_17 : decode cX6_write 17 = .ok (.aload_n 1, 1) := by decide +kernel
theorem dX6_write_18 : decode cX6_write 18 = .ok (.iload_n 3, 1) := by decide +kernel
theorem dX6_write_19 : decode cX6_write 19 = .ok (.invokevirtual 28, 3) := by decide +kernel
theorem dX6_write_22 : decode cX6_write 22 = .ok (.istore 4, 2) := by decide +kernel
theorem dX6_write_24 : decode cX6_write 24 = .ok (.iload 4, 2) := by decide +kernel
theorem dX6_write_26 : decode cX6_write 26 = .ok (.invokestatic 32, 3) := by decide +kernel
theorem dX6_write_29 : decode cX6_write 29 = .ok (.ifCond .eq 16, 3) := by decide +kernel
theorem dX6_write_32 : decode cX6_write 32 = .ok (.iinc 2 1, 3) := by decide +kernel
theorem dX6_write_35 : decode cX6_write 35 = .ok (.aload_n 0, 1) := by decide +kernel
theorem dX6_write_36 : decode cX6_write 36 = .ok (.aload_n 1, 1) := by decide +kernel
theorem dX6_write_37 : decode cX6_write 37 = .ok (.iload_n 3, 1) := by decide +kernel
theorem dX6_write_38 : decode cX6_write 38 = .ok (.iload_n 2, 1) := by decide +kernel
theorem dX6_write_39 : decode cX6_write 39 = .ok (.invokevirtual 36, 3) := by decide +kernel
theorem dX6_write_42 : decode cX6_write 42 = .ok (.goto 69, 3) := by decide +kernel
theorem dX6_write_45 : decode cX6_write 45 = .ok (.iload 4, 2) := by decide +kernel
theorem dX6_write_47 : decode cX6_write 47 = .ok (.bipush 6, 2) := by decide +kernel
theorem dX6_write_49 : decode cX6_write 49 = .ok (.if_icmp .ne 37, 3) := by decide +kernel
theorem dX6_write_52 : decode cX6_write 52 = .ok (.aload_n 0, 1) := by decide +kernel
theorem dX6_write_53 : decode cX6_write 53 = .ok (.iload_n 2, 1) := by decide +kernel
theorem dX6_write_54 : decode cX6_write 54 = .ok (.invokevirtual 40, 3) := by decide +kernel
theorem dX6_write_57 : decode cX6_write 57 = .ok (.aload_n 0, 1) := by decide +kernel
theorem dX6_write_58 : decode cX6_write 58 = .ok (.bipush 47, 2) := by decide +kernel
theorem dX6_write_60 : decode cX6_write 60 = .ok (.invokevirtual 44, 3) := by decide +kernel
theorem dX6_write_63 : decode cX6_write 63 = .ok (.aload_n 0, 1) := by decide +kernel
theorem dX6_write_64 : decode cX6_write 64 = .ok (.iload_n 2, 1) := by decide +kernel
theorem dX6_write_65 : decode cX6_write 65 = .ok (.aload_n 1, 1) := by decide +kernel
theorem dX6_write_66 : decode cX6_write 66 = .ok (.iload_n 3, 1) := by decide +kernel
theorem dX6_write_67 : decode cX6_write 67 = .ok (.iconst 1, 1) := by decide +kernel
theorem dX6_write_68 : decode cX6_write 68 = .ok (.iadd, 1) := by decide +kernel
theorem dX6_write_69 : decode cX6_write 69 = .ok (.invokestatic 47, 3) := by decide +kernel
theorem dX6_write_72 : decode cX6_write 72 = .ok (.ifCond .ne 7, 3) := by decide +kernel
theorem dX6_write_75 : decode cX6_write 75 = .ok (.iconst 1, 1) := by decide +kernel
theorem dX6_write_76 : decode cX6_write 76 = .ok (.goto 4, 3) := by decide +kernel
theorem dX6_write_79 : decode cX6_write 79 = .ok (.iconst 0, 1) := by decide +kernel
theorem dX6_write_80 : decode cX6_write 80 = .ok (.invokevirtual 51, 3) := by decide +kernel
theorem dX6_write_83 : decode cX6_write 83 = .ok (.goto 28, 3) := by decide +kernel
theorem dX6_write_86 : decode cX6_write 86 = .ok (.iload 4, 2) := by decide +kernel
theorem dX6_write_88 : decode cX6_write 88 = .ok (.invokestatic 55, 3) := by decide +kernel
theorem dX6_write_91 : decode cX6_write 91 = .ok (.ifCond .eq 14, 3) := by decide +kernel
theorem dX6_write_94 : decode cX6_write 94 = .ok (.aload_n 0, 1) := by decide +kernel
theorem dX6_write_95 : decode cX6_write 95 = .ok (.iload_n 2, 1) := by decide +kernel
theorem dX6_write_96 : decode cX6_write 96 = .ok (.invokevirtual 40, 3) := by decide +kernel
theorem dX6_write_99 : decode cX6_write 99 = .ok (.iinc 2 (-1), 3) := by decide +kernel
theorem dX6_write_102 : decode cX6_write 102 = .ok (.goto 9, 3) := by decide +kernel
theorem dX6_write_105 : decode cX6_write 105 = .ok (.aload_n 0, 1) := by decide +kernel
theorem dX6_write_106 : decode cX6_write 106 = .ok (.iload 4, 2) := by decide +kernel
theorem dX6_write_108 : decode cX6_write 108 = .ok (.invokevirtual 44, 3) := by decide +kernel
theorem dX6_write_111 : decode cX6_write 111 = .ok (.iinc 3 1, 3) := by decide +kernel
theorem dX6_write_114 : decode cX6_write 114 = .ok (.goto (-105), 3) := by decide +kernel
theorem dX6_write_117 : decode cX6_write 117 = .ok (.return_, 1) := by decide +kernel
theorem dX6_beginStructure_0 : decode cX6_beginStructure 0 = .ok (.aload_n 1, 1) := by decide +kernel
theorem dX6_beginStructure_1 : decode cX6_beginStructure 1 = .ok (.iload_n 2, 1) := by decide +kernel
theorem dX6_beginStructure_2 : decode cX6_beginStructure 2 = .ok (.invokevirtual 28, 3) := by decide +kernel
theorem dX6_beginStructure_5 : decode cX6_beginStructure 5 = .ok (.istore 4, 2) := by decide +kernel
theorem dX6_beginStructure_7 : decode cX6_beginStructure 7 = .ok (.iload_n 2, 1) := by decide +kernel
theorem dX6_beginStructure_8 : decode cX6_beginStructure 8 = .ok (.iconst 1, 1) := by decide +kernel
theorem dX6_beginStructure_9 : decode cX6_beginStructure 9 = .ok (.iadd, 1) := by decide +kernel
theorem dX6_beginStructure_10 : decode cX6_beginStructure 10 = .ok (.istore 5, 2) := by decide +kernel
theorem dX6_beginStructure_12 : decode cX6_beginStructure 12 = .ok (.iload 4, 2) := by decide +kernel
theorem dX6_beginStructure_14 : decode cX6_beginStructure 14 = .ok (.iconst 1, 1) := by decide +kernel
theorem dX6_beginStructure_15 : decode cX6_beginStructure 15 = .ok (.if_icmp .ne 25, 3) := by decide +kernel
theorem dX6_beginStructure_18 : decode cX6_beginStructure 18 = .ok (.aload_n 0, 1) := by decide +kernel
theorem dX6_beginStructure_19 : decode cX6_beginStructure 19 = .ok (.iload_n 3, 1) := by decide +kernel
theorem dX6_beginStructure_20 : decode cX6_beginStructure 20 = .ok (.aload_n 1, 1) := by decide +kernel
theorem dX6_beginStructure_21 : decode cX6_beginStructure 21 = .ok (.iload 5, 2) := by decide +kernel
theorem dX6_beginStructure_23 : decode cX6_beginStructure 23 = .ok (.invokestatic 47, 3) := by decide +kernel
theorem dX6_beginStructure_26 : decode cX6_beginStructure 26 = .ok (.ifCond .ne 7, 3) := by decide +kernel
theorem dX6_beginStructure_29 : decode cX6_beginStructure 29 = .ok (.iconst 1, 1) := by decide +kernel
theorem dX6_beginStructure_30 : decode cX6_beginStructure 30 = .ok (.goto 4, 3) := by decide +kernel
theorem dX6_beginStructure_33 : decode cX6_beginStructure 33 = .ok (.iconst 0, 1) := by decide +kernel
theorem dX6_beginStructure_34 : decode cX6_beginStructure 34 = .ok (.invokevirtual 51, 3) := by decide +kernel
theorem dX6_beginStructure_37 : decode cX6_beginStructure 37 = .ok (.goto 86, 3) := by decide +kernel
theorem dX6_beginStructure_40 : decode cX6_beginStructure 40 = .ok (.iload 4, 2) := by decide +kernel
theorem dX6_beginStructure_42 : decode cX6_beginStructure 42 = .ok (.invokestatic 58, 3) := by decide +kernel
theorem dX6_beginStructure_45 : decode cX6_beginStructure 45 = .ok (.ifCond .eq 60, 3) := by decide +kernel
theorem dX6_beginStructure_48 : decode cX6_beginStructure 48 = .ok (.aload_n 1, 1) := by decide +kernel
theorem dX6_beginStructure_49 : decode cX6_beginStructure 49 = .ok (.iload_n 2, 1) := by decide +kernel
theorem dX6_beginStructure_50 : decode cX6_beginStructure 50 = .ok (.iconst 1, 1) := by decide +kernel
theorem dX6_beginStructure_51 : decode cX6_beginStructure 51 = .ok (.isub, 1) := by decide +kernel
theorem dX6_beginStructure_52 : decode cX6_beginStructure 52 = .ok (.invokevirtual 28, 3) := by decide +kernel
theorem dX6_beginStructure_55 : decode cX6_beginStructure 55 = .ok (.bipush 11, 2) := by decide +kernel
theorem dX6_beginStructure_57 : decode cX6_beginStructure 57 = .ok (.if_icmp .ne 9, 3) := by decide +kernel
theorem dX6_beginStructure_60 : decode cX6_beginStructure 60 = .ok (.aload_n 0, 1) := by decide +kernel
theorem dX6_beginStructure_61 : decode cX6_beginStructure 61 = .ok (.bipush 32, 2) := by decide +kernel
theorem dX6_beginStructure_63 : decode cX6_beginStructure 63 = .ok (.invokevirtual 44, 3) := by decide +kernel
theorem dX6_beginStructure_66 : decode cX6_beginStructure 66 = .ok (.aload_n 0, 1) := by decide +kernel
theorem dX6_beginStructure_67 : decode cX6_beginStructure 67 = .ok (.iload 4, 2) := by decide +kernel
theorem dX6_beginStructure_69 : decode cX6_beginStructure 69 = .ok (.iconst 2, 1) := by decide +kernel
theorem dX6_beginStructure_70 : decode cX6_beginStructure 70 = .ok (.if_icmp .ne 8, 3) := by decide +kernel
theorem dX6_beginStructure_73 : decode cX6_beginStructure 73 = .ok (.bipush 94, 2) := by decide +kernel
theorem dX6_beginStructure_75 : decode cX6_beginStructure 75 = .ok (.goto 5, 3) := by decide +kernel
theorem dX6_beginStructure_78 : decode cX6_beginStructure 78 = .ok (.bipush 95, 2) := by decide +kernel
theorem dX6_beginStructure_80 : decode cX6_beginStructure 80 = .ok (.invokevirtual 44, 3) := by decide +kernel
theorem dX6_beginStructure_83 : decode cX6_beginStructure 83 = .ok (.aload_n 0, 1) := by decide +kernel
theorem dX6_beginStructure_84 : decode cX6_beginStructure 84 = .ok (.iload_n 3, 1) := by decide +kernel
theorem dX6_beginStructure_85 : decode cX6_beginStructure 85 = .ok (.aload_n 1, 1) := by decide +kernel
theorem dX6_beginStructure_86 : decode cX6_beginStructure 86 = .ok (.iload 5, 2) := by decide +kernel
theorem dX6_beginStructure_88 : decode cX6_beginStructure 88 = .ok (.invokestatic 61, 3) := by decide +kernel
theorem dX6_beginStructure_91 : decode cX6_beginStructure 91 = .ok (.ifCond .ne 7, 3) := by decide +kernel
theorem dX6_beginStructure_94 : decode cX6_beginStructure 94 = .ok (.iconst 1, 1) := by decide +kernel
theorem dX6_beginStructure_95 : decode cX6_beginStructure 95 = .ok (.goto 4, 3) := by decide +kernel
theorem dX6_beginStructure_98 : decode cX6_beginStructure 98 = .ok (.iconst 0, 1) := by decide +kernel
theorem dX6_beginStructure_99 : decode cX6_beginStructure 99 = .ok (.invokevirtual 51, 3) := by decide +kernel
theorem dX6_beginStructure_102 : decode cX6_beginStructure 102 = .ok (.goto 21, 3) := by decide +kernel
theorem dX6_beginStructure_105 : decode cX6_beginStructure 105 = .ok (.iload 4, 2) := by decide +kernel
theorem dX6_beginStructure_107 : decode cX6_beginStructure 107 = .ok (.iconst 4, 1) := by decide +kernel
theorem dX6_beginStructure_108 : decode cX6_beginStructure 108 = .ok (.if_icmp .ne 9, 3) := by decide +kernel
theorem dX6_beginStructure_111 : decode cX6_beginStructure 111 = .ok (.aload_n 0, 1) := by decide +kernel
theorem dX6_beginStructure_112 : decode cX6_beginStructure 112 = .ok (.bipush 114, 2) := by decide +kernel
theorem dX6_beginStructure_114 : decode cX6_beginStructure 114 = .ok (.invokevirtual 44, 3) := by decide +kernel
theorem dX6_beginStructure_117 : decode cX6_beginStructure 117 = .ok (.aload_n 0, 1) := by decide +kernel
theorem dX6_beginStructure_118 : decode cX6_beginStructure 118 = .ok (.iload_n 3, 1) := by decide +kernel
theorem dX6_beginStructure_119 : decode cX6_beginStructure 119 = .ok (.iconst 1, 1) := by decide +kernel
theorem dX6_beginStructure_120 : decode cX6_beginStructure 120 = .ok (.invokevirtual 51, 3) := by decide +kernel
theorem dX6_beginStructure_123 : decode cX6_beginStructure 123 = .ok (.return_, 1) := by decide +kernel
theorem dX6_beginSlot_0 : decode cX6_beginSlot 0 = .ok (.iload_n 1, 1) := by decide +kernel
theorem dX6_beginSlot_1 : decode cX6_beginSlot 1 = .ok (.ifCond .lt 19, 3) := by decide +kernel
theorem dX6_beginSlot_4 : decode cX6_beginSlot 4 = .ok (.iload_n 1, 1) := by decide +kernel
theorem dX6_beginSlot_5 : decode cX6_beginSlot 5 = .ok (.aload_n 0, 1) := by decide +kernel
theorem dX6_beginSlot_6 : decode cX6_beginSlot 6 = .ok (.getfield 15, 3) := by decide +kernel
theorem dX6_beginSlot_9 : decode cX6_beginSlot 9 = .ok (.arraylength, 1) := by decide +kernel
theorem dX6_beginSlot_10 : decode cX6_beginSlot 10 = .ok (.if_icmp .ge 10, 3) := by decide +kernel
theorem dX6_beginSlot_13 : decode cX6_beginSlot 13 = .ok (.aload_n 0, 1) := by decide +kernel
theorem dX6_beginSlot_14 : decode cX6_beginSlot 14 = .ok (.getfield 15, 3) := by decide +kernel
theorem dX6_beginSlot_17 : decode cX6_beginSlot 17 = .ok (.iload_n 1, 1) := by decide +kernel
theorem dX6_beginSlot_18 : decode cX6_beginSlot 18 = .ok (.iload_n 2, 1) := by decide +kernel
theorem dX6_beginSlot_19 : decode cX6_beginSlot 19 = .ok (.bastore, 1) := by decide +kernel
theorem dX6_beginSlot_20 : decode cX6_beginSlot 20 = .ok (.iload_n 2, 1) := by decide +kernel
theorem dX6_beginSlot_21 : decode cX6_beginSlot 21 = .ok (.ifCond .eq 9, 3) := by decide +kernel
theorem dX6_beginSlot_24 : decode cX6_beginSlot 24 = .ok (.aload_n 0, 1) := by decide +kernel
theorem dX6_beginSlot_25 : decode cX6_beginSlot 25 = .ok (.bipush 40, 2) := by decide +kernel
theorem dX6_beginSlot_27 : decode cX6_beginSlot 27 = .ok (.invokevirtual 44, 3) := by decide +kernel
theorem dX6_beginSlot_30 : decode cX6_beginSlot 30 = .ok (.return_, 1) := by decide +kernel
theorem dX6_endSlot_0 : decode cX6_endSlot 0 = .ok (.iload_n 1, 1) := by decide +kernel
theorem dX6_endSlot_1 : decode cX6_endSlot 1 = .ok (.ifCond .lt 27, 3) := by decide +kernel
theorem dX6_endSlot_4 : decode cX6_endSlot 4 = .ok (.iload_n 1, 1) := by decide +kernel
theorem dX6_endSlot_5 : decode cX6_endSlot 5 = .ok (.aload_n 0, 1) := by decide +kernel
theorem dX6_endSlot_6 : decode cX6_endSlot 6 = .ok (.getfield 15, 3) := by decide +kernel
theorem dX6_endSlot_9 : decode cX6_endSlot 9 = .ok (.arraylength, 1) := by decide +kernel
theorem dX6_endSlot_10 : decode cX6_endSlot 10 = .ok (.if_icmp .ge 18, 3) := by decide +kernel
theorem dX6_endSlot_13 : decode cX6_endSlot 13 = .ok (.aload_n 0, 1) := by decide +kernel
theorem dX6_endSlot_14 : decode cX6_endSlot 14 = .ok (.getfield 15, 3) := by decide +kernel
theorem dX6_endSlot_17 : decode cX6_endSlot 17 = .ok (.iload_n 1, 1) := by decide +kernel
theorem dX6_endSlot_18 : decode cX6_endSlot 18 = .ok (.baload, 1) := by decide +kernel
theorem dX6_endSlot_19 : decode cX6_endSlot 19 = .ok (.ifCond .eq 9, 3) := by decide +kernel
theorem dX6_endSlot_22 : decode cX6_endSlot 22 = .ok (.aload_n 0, 1) := by decide +kernel
theorem dX6_endSlot_23 : decode cX6_endSlot 23 = .ok (.bipush 41, 2) := by decide +kernel
theorem dX6_endSlot_25 : decode cX6_endSlot 25 = .ok (.invokevirtual 44, 3) := by decide +kernel
theorem dX6_endSlot_28 : decode cX6_endSlot 28 = .ok (.return_, 1) := by decide +kernel
theorem dX6_put_0 : decode cX6_put 0 = .ok (.aload_n 0, 1) := by decide +kernel
theorem dX6_put_1 : decode cX6_put 1 = .ok (.getfield 19, 3) := by decide +kernel
theorem dX6_put_4 : decode cX6_put 4 = .ok (.ifCond .lt 35, 3) := by decide +kernel
theorem dX6_put_7 : decode cX6_put 7 = .ok (.aload_n 0, 1) := by decide +kernel
theorem dX6_put_8 : decode cX6_put 8 = .ok (.getfield 19, 3) := by decide +kernel
theorem dX6_put_11 : decode cX6_put 11 = .ok (.aload_n 0, 1) := by decide +kernel
theorem dX6_put_12 : decode cX6_put 12 = .ok (.getfield 9, 3) := by decide +kernel
theorem dX6_put_15 : decode cX6_put 15 = .ok (.arraylength, 1) := by decide +kernel
theorem dX6_put_16 : decode cX6_put 16 = .ok (.if_icmp .ge 23, 3) := by decide +kernel
theorem dX6_put_19 : decode cX6_put 19 = .ok (.aload_n 0, 1) := by decide +kernel
theorem dX6_put_20 : decode cX6_put 20 = .ok (.getfield 9, 3) := by decide +kernel
theorem dX6_put_23 : decode cX6_put 23 = .ok (.aload_n 0, 1) := by decide +kernel
theorem dX6_put_24 : decode cX6_put 24 = .ok (.getfield 19, 3) := by decide +kernel
theorem dX6_put_27 : decode cX6_put 27 = .ok (.iload_n 1, 1) := by decide +kernel
theorem dX6_put_28 : decode cX6_put 28 = .ok (.iastore, 1) := by decide +kernel
theorem dX6_put_29 : decode cX6_put 29 = .ok (.aload_n 0, 1) := by decide +kernel
theorem dX6_put_30 : decode cX6_put 30 = .ok (.dup, 1) := by decide +kernel
theorem dX6_put_31 : decode cX6_put 31 = .ok (.getfield 19, 3) := by decide +kernel
theorem dX6_put_34 : decode cX6_put 34 = .ok (.iconst 1, 1) := by decide +kernel
theorem dX6_put_35 : decode cX6_put 35 = .ok (.iadd, 1) := by decide +kernel
theorem dX6_put_36 : decode cX6_put 36 = .ok (.putfield 19, 3) := by decide +kernel
theorem dX6_put_39 : decode cX6_put 39 = .ok (.return_, 1) := by decide +kernel
theorem dX6_standsAsOperand_0 : decode cX6_standsAsOperand 0 = .ok (.aload_n 0, 1) := by decide +kernel
theorem dX6_standsAsOperand_1 : decode cX6_standsAsOperand 1 = .ok (.iload_n 1, 1) := by decide +kernel
theorem dX6_standsAsOperand_2 : decode cX6_standsAsOperand 2 = .ok (.invokevirtual 28, 3) := by decide +kernel
theorem dX6_standsAsOperand_5 : decode cX6_standsAsOperand 5 = .ok (.istore_n 2, 1) := by decide +kernel
theorem dX6_standsAsOperand_6 : decode cX6_standsAsOperand 6 = .ok (.iload_n 2, 1) := by decide +kernel
theorem dX6_standsAsOperand_7 : decode cX6_standsAsOperand 7 = .ok (.invokestatic 64, 3) := by decide +kernel
theorem dX6_standsAsOperand_10 : decode cX6_standsAsOperand 10 = .ok (.ifCond .ne 22, 3) := by decide +kernel
theorem dX6_standsAsOperand_13 : decode cX6_standsAsOperand 13 = .ok (.iload_n 2, 1) := by decide +kernel
theorem dX6_standsAsOperand_14 : decode cX6_standsAsOperand 14 = .ok (.invokestatic 67, 3) := by decide +kernel
theorem dX6_standsAsOperand_17 : decode cX6_standsAsOperand 17 = .ok (.ifCond .ne 15, 3) := by decide +kernel
theorem dX6_standsAsOperand_20 : decode cX6_standsAsOperand 20 = .ok (.iload_n 2, 1) := by decide +kernel
theorem dX6_standsAsOperand_21 : decode cX6_standsAsOperand 21 = .ok (.iconst 4, 1) := by decide +kernel
theorem dX6_standsAsOperand_22 : decode cX6_standsAsOperand 22 = .ok (.if_icmp .eq 10, 3) := by decide +kernel
theorem dX6_standsAsOperand_25 : decode cX6_standsAsOperand 25 = .ok (.iload_n 2, 1) := by decide +kernel
theorem dX6_standsAsOperand_26 : decode cX6_standsAsOperand 26 = .ok (.iconst 5, 1) := by decide +kernel
theorem dX6_standsAsOperand_27 : decode cX6_standsAsOperand 27 = .ok (.if_icmp .eq 5, 3) := by decide +kernel
theorem dX6_standsAsOperand_30 : decode cX6_standsAsOperand 30 = .ok (.iconst 0, 1) := by decide +kernel
theorem dX6_standsAsOperand_31 : decode cX6_standsAsOperand 31 = .ok (.ireturn, 1) := by decide +kernel
theorem dX6_standsAsOperand_32 : decode cX6_standsAsOperand 32 = .ok (.iconst 0, 1) := by decide +kernel
theorem dX6_standsAsOperand_33 : decode cX6_standsAsOperand 33 = .ok (.istore_n 3, 1) := by decide +kernel
theorem dX6_standsAsOperand_34 : decode cX6_standsAsOperand 34 = .ok (.aload_n 0, 1) := by decide +kernel
theorem dX6_standsAsOperand_35 : decode cX6_standsAsOperand 35 = .ok (.iload_n 1, 1) := by decide +kernel
theorem dX6_standsAsOperand_36 : decode cX6_standsAsOperand 36 = .ok (.invokevirtual 70, 3) := by decide +kernel
theorem dX6_standsAsOperand_39 : decode cX6_standsAsOperand 39 = .ok (.istore 4, 2) := by decide +kernel
theorem dX6_standsAsOperand_41 : decode cX6_standsAsOperand 41 = .ok (.iconst 0, 1) := by decide +kernel
theorem dX6_standsAsOperand_42 : decode cX6_standsAsOperand 42 = .ok (.istore 5, 2) := by decide +kernel
theorem dX6_standsAsOperand_44 : decode cX6_standsAsOperand 44 = .ok (.iload 5, 2) := by decide +kernel
theorem dX6_standsAsOperand_46 : decode cX6_standsAsOperand 46 = .ok (.bipush 60, 2) := by decide +kernel
theorem dX6_standsAsOperand_48 : decode cX6_standsAsOperand 48 = .ok (.if_icmp .ge 32, 3) := by decide +kernel
theorem dX6_standsAsOperand_51 : decode cX6_standsAsOperand 51 = .ok (.aload_n 0, 1) := by decide +kernel
theorem dX6_standsAsOperand_52 : decode cX6_standsAsOperand 52 = .ok (.iload 4, 2) := by decide +kernel
theorem dX6_standsAsOperand_54 : decode cX6_standsAsOperand 54 = .ok (.invokevirtual 28, 3) := by decide +kernel
theorem dX6_standsAsOperand_57 : decode cX6_standsAsOperand 57 = .ok (.invokestatic 58, 3) := by decide +kernel
theorem dX6_standsAsOperand_60 : decode cX6_standsAsOperand 60 = .ok (.ifCond .eq 20, 3) := by decide +kernel
theorem dX6_standsAsOperand_63 : decode cX6_standsAsOperand 63 = .ok (.aload_n 0, 1) := by decide +kernel
theorem dX6_standsAsOperand_64 : decode cX6_standsAsOperand 64 = .ok (.iload 4, 2) := by decide +kernel
theorem dX6_standsAsOperand_66 : decode cX6_standsAsOperand 66 = .ok (.invokevirtual 70, 3) := by decide +kernel
theorem dX6_standsAsOperand_69 : decode cX6_standsAsOperand 69 = .ok (.istore 4, 2) := by decide +kernel
theorem dX6_standsAsOperand_71 : decode cX6_standsAsOperand 71 = .ok (.iinc 3 1, 3) := by decide +kernel
theorem dX6_standsAsOperand_74 : decode cX6_standsAsOperand 74 = .ok (.iinc 5 1, 3) := by decide +kernel
theorem dX6_standsAsOperand_77 : decode cX6_standsAsOperand 77 = .ok (.goto (-33), 3) := by decide +kernel
theorem dX6_standsAsOperand_80 : decode cX6_standsAsOperand 80 = .ok (.aload_n 0, 1) := by decide +kernel
theorem dX6_standsAsOperand_81 : decode cX6_standsAsOperand 81 = .ok (.iload 4, 2) := by decide +kernel
theorem dX6_standsAsOperand_83 : decode cX6_standsAsOperand 83 = .ok (.invokevirtual 28, 3) := by decide +kernel
theorem dX6_standsAsOperand_86 : decode cX6_standsAsOperand 86 = .ok (.invokestatic 73, 3) := by decide +kernel
theorem dX6_standsAsOperand_89 : decode cX6_standsAsOperand 89 = .ok (.ifCond .ne 7, 3) := by decide +kernel
theorem dX6_standsAsOperand_92 : decode cX6_standsAsOperand 92 = .ok (.iconst 1, 1) := by decide +kernel
theorem dX6_standsAsOperand_93 : decode cX6_standsAsOperand 93 = .ok (.goto 4, 3) := by decide +kernel
theorem dX6_standsAsOperand_96 : decode cX6_standsAsOperand 96 = .ok (.iconst 0, 1) := by decide +kernel
theorem dX6_standsAsOperand_97 : decode cX6_standsAsOperand 97 = .ok (.istore 5, 2) := by decide +kernel
theorem dX6_standsAsOperand_99 : decode cX6_standsAsOperand 99 = .ok (.iload 5, 2) := by decide +kernel
theorem dX6_standsAsOperand_101 : decode cX6_standsAsOperand 101 = .ok (.ifCond .eq 16, 3) := by decide +kernel
theorem dX6_standsAsOperand_104 : decode cX6_standsAsOperand 104 = .ok (.iload_n 2, 1) := by decide +kernel
theorem dX6_standsAsOperand_105 : decode cX6_standsAsOperand 105 = .ok (.iconst 5, 1) := by decide +kernel
theorem dX6_standsAsOperand_106 : decode cX6_standsAsOperand 106 = .ok (.if_icmp .ne 7, 3) := by decide +kernel
theorem dX6_standsAsOperand_109 : decode cX6_standsAsOperand 109 = .ok (.iload_n 3, 1) := by decide +kernel
theorem dX6_standsAsOperand_110 : decode cX6_standsAsOperand 110 = .ok (.ifCond .le 7, 3) := by decide +kernel
theorem dX6_standsAsOperand_113 : decode cX6_standsAsOperand 113 = .ok (.iconst 1, 1) := by decide +kernel
theorem dX6_standsAsOperand_114 : decode cX6_standsAsOperand 114 = .ok (.goto 4, 3) := by decide +kernel
theorem dX6_standsAsOperand_117 : decode cX6_standsAsOperand 117 = .ok (.iconst 0, 1) := by decide +kernel
theorem dX6_standsAsOperand_118 : decode cX6_standsAsOperand 118 = .ok (.ireturn, 1) := by decide +kernel
theorem dX6_standsAsBase_0 : decode cX6_standsAsBase 0 = .ok (.aload_n 0, 1) := by decide +kernel
theorem dX6_standsAsBase_1 : decode cX6_standsAsBase 1 = .ok (.iload_n 1, 1) := by decide +kernel
theorem dX6_standsAsBase_2 : decode cX6_standsAsBase 2 = .ok (.invokevirtual 28, 3) := by decide +kernel
theorem dX6_standsAsBase_5 : decode cX6_standsAsBase 5 = .ok (.istore_n 2, 1) := by decide +kernel
theorem dX6_standsAsBase_6 : decode cX6_standsAsBase 6 = .ok (.iload_n 2, 1) := by decide +kernel
theorem dX6_standsAsBase_7 : decode cX6_standsAsBase 7 = .ok (.invokestatic 64, 3) := by decide +kernel
theorem dX6_standsAsBase_10 : decode cX6_standsAsBase 10 = .ok (.ifCond .ne 15, 3) := by decide +kernel
theorem dX6_standsAsBase_13 : decode cX6_standsAsBase 13 = .ok (.iload_n 2, 1) := by decide +kernel
theorem dX6_standsAsBase_14 : decode cX6_standsAsBase 14 = .ok (.invokestatic 67, 3) := by decide +kernel
theorem dX6_standsAsBase_17 : decode cX6_standsAsBase 17 = .ok (.ifCond .ne 8, 3) := by decide +kernel
theorem dX6_standsAsBase_20 : decode cX6_standsAsBase 20 = .ok (.iload_n 2, 1) := by decide +kernel
theorem dX6_standsAsBase_21 : decode cX6_standsAsBase 21 = .ok (.iconst 4, 1) := by decide +kernel
theorem dX6_standsAsBase_22 : decode cX6_standsAsBase 22 = .ok (.if_icmp .ne 7, 3) := by decide +kernel
theorem dX6_standsAsBase_25 : decode cX6_standsAsBase 25 = .ok (.iconst 1, 1) := by decide +kernel
theorem dX6_standsAsBase_26 : decode cX6_standsAsBase 26 = .ok (.goto 4, 3) := by decide +kernel
theorem dX6_standsAsBase_29 : decode cX6_standsAsBase 29 = .ok (.iconst 0, 1) := by decide +kernel
theorem dX6_standsAsBase_30 : decode cX6_standsAsBase 30 = .ok (.istore_n 3, 1) := by decide +kernel
theorem dX6_standsAsBase_31 : decode cX6_standsAsBase 31 = .ok (.iload_n 3, 1) := by decide +kernel
theorem dX6_standsAsBase_32 : decode cX6_standsAsBase 32 = .ok (.ifCond .eq 22, 3) := by decide +kernel
theorem dX6_standsAsBase_35 : decode cX6_standsAsBase 35 = .ok (.aload_n 0, 1) := by decide +kernel
theorem dX6_standsAsBase_36 : decode cX6_standsAsBase 36 = .ok (.aload_n 0, 1) := by decide +kernel
theorem dX6_standsAsBase_37 : decode cX6_standsAsBase 37 = .ok (.iload_n 1, 1) := by decide +kernel
theorem dX6_standsAsBase_38 : decode cX6_standsAsBase 38 = .ok (.invokevirtual 70, 3) := by decide +kernel
theorem dX6_standsAsBase_41 : decode cX6_standsAsBase 41 = .ok (.invokevirtual 28, 3) := by decide +kernel
theorem dX6_standsAsBase_44 : decode cX6_standsAsBase 44 = .ok (.invokestatic 73, 3) := by decide +kernel
theorem dX6_standsAsBase_47 : decode cX6_standsAsBase 47 = .ok (.ifCond .ne 7, 3) := by decide +kernel
theorem dX6_standsAsBase_50 : decode cX6_standsAsBase 50 = .ok (.iconst 1, 1) := by decide +kernel
theorem dX6_standsAsBase_51 : decode cX6_standsAsBase 51 = .ok (.goto 4, 3) := by decide +kernel
theorem dX6_standsAsBase_54 : decode cX6_standsAsBase 54 = .ok (.iconst 0, 1) := by decide +kernel
theorem dX6_standsAsBase_55 : decode cX6_standsAsBase 55 = .ok (.ireturn, 1) := by decide +kernel
theorem dX7_init_0 : decode cX7_init 0 = .ok (.aload_n 0, 1) := by decide +kernel
theorem dX7_init_1 : decode cX7_init 1 = .ok (.invokespecial 3, 3) := by decide +kernel
theorem dX7_init_4 : decode cX7_init 4 = .ok (.aload_n 0, 1) := by decide +kernel
theorem dX7_init_5 : decode cX7_init 5 = .ok (.new 9, 3) := by decide +kernel
theorem dX7_init_8 : decode cX7_init 8 = .ok (.dup, 1) := by decide +kernel
theorem dX7_init_9 : decode cX7_init 9 = .ok (.invokespecial 11, 3) := by decide +kernel
theorem dX7_init_12 : decode cX7_init 12 = .ok (.putfield 12, 3) := by decide +kernel
theorem dX7_init_15 : decode cX7_init 15 = .ok (.aload_n 0, 1) := by decide +kernel
theorem dX7_init_16 : decode cX7_init 16 = .ok (.new 9, 3) := by decide +kernel
theorem dX7_init_19 : decode cX7_init 19 = .ok (.dup, 1) := by decide +kernel
theorem dX7_init_20 : decode cX7_init 20 = .ok (.invokespecial 11, 3) := by decide +kernel
theorem dX7_init_23 : decode cX7_init 23 = .ok (.putfield 16, 3) := by decide +kernel
theorem dX7_init_26 : decode cX7_init 26 = .ok (.aload_n 0, 1) := by decide +kernel
theorem dX7_init_27 : decode cX7_init 27 = .ok (.new 19, 3) := by decide +kernel
theorem dX7_init_30 : decode cX7_init 30 = .ok (.dup, 1) := by decide +kernel
theorem dX7_init_31 : decode cX7_init 31 = .ok (.invokespecial 21, 3) := by decide +kernel
theorem dX7_init_34 : decode cX7_init 34 = .ok (.putfield 22, 3) := by decide +kernel
theorem dX7_init_37 : decode cX7_init 37 = .ok (.aload_n 0, 1) := by decide +kernel
theorem dX7_init_38 : decode cX7_init 38 = .ok (.new 19, 3) := by decide +kernel
theorem dX7_init_41 : decode cX7_init 41 = .ok (.dup, 1) := by decide +kernel
theorem dX7_init_42 : decode cX7_init 42 = .ok (.invokespecial 21, 3) := by decide +kernel
theorem dX7_init_45 : decode cX7_init 45 = .ok (.putfield 26, 3) := by decide +kernel
theorem dX7_init_48 : decode cX7_init 48 = .ok (.aload_n 0, 1) := by decide +kernel
theorem dX7_init_49 : decode cX7_init 49 = .ok (.new 29, 3) := by decide +kernel
theorem dX7_init_52 : decode cX7_init 52 = .ok (.dup, 1) := by decide +kernel
theorem dX7_init_53 : decode cX7_init 53 = .ok (.invokespecial 31, 3) := by decide +kernel
theorem dX7_init_56 : decode cX7_init 56 = .ok (.putfield 32, 3) := by decide +kernel
theorem dX7_init_59 : decode cX7_init 59 = .ok (.aload_n 0, 1) := by decide +kernel
theorem dX7_init_60 : decode cX7_init 60 = .ok (.new 36, 3) := by decide +kernel
theorem dX7_init_63 : decode cX7_init 63 = .ok (.dup, 1) := by decide +kernel
theorem dX7_init_64 : decode cX7_init 64 = .ok (.sipush 180, 3) := by decide +kernel
theorem dX7_init_67 : decode cX7_init 67 = .ok (.invokespecial 38, 3) := by decide +kernel
theorem dX7_init_70 : decode cX7_init 70 = .ok (.putfield 41, 3) := by decide +kernel
theorem dX7_init_73 : decode cX7_init 73 = .ok (.aload_n 0, 1) := by decide +kernel
theorem dX7_init_74 : decode cX7_init 74 = .ok (.new 45, 3) := by decide +kernel
theorem dX7_init_77 : decode cX7_init 77 = .ok (.dup, 1) := by decide +kernel
theorem dX7_init_78 : decode cX7_init 78 = .ok (.invokespecial 47, 3) := by decide +kernel
theorem dX7_init_81 : decode cX7_init 81 = .ok (.putfield 48, 3) := by decide +kernel
theorem dX7_init_84 : decode cX7_init 84 = .ok (.aload_n 0, 1) := by decide +kernel
theorem dX7_init_85 : decode cX7_init 85 = .ok (.new 52, 3) := by decide +kernel
theorem dX7_init_88 : decode cX7_init 88 = .ok (.dup, 1) := by decide +kernel
theorem dX7_init_89 : decode cX7_init 89 = .ok (.invokespecial 54, 3) := by decide +kernel
theorem dX7_init_92 : decode cX7_init 92 = .ok (.putfield 55, 3) := by decide +kernel
theorem dX7_init_95 : decode cX7_init 95 = .ok (.aload_n 0, 1) := by decide +kernel
theorem dX7_init_96 : decode cX7_init 96 = .ok (.new 59, 3) := by decide +kernel
theorem dX7_init_99 : decode cX7_init 99 = .ok (.dup, 1) := by decide +kernel
theorem dX7_init_100 : decode cX7_init 100 = .ok (.invokespecial 61, 3) := by decide +kernel
theorem dX7_init_103 : decode cX7_init 103 = .ok (.putfield 62, 3) := by decide +kernel
theorem dX7_init_106 : decode cX7_init 106 = .ok (.return_, 1) := by decide +kernel
theorem dX7_append_0 : decode cX7_append 0 = .ok (.iload_n 1, 1) := by decide +kernel
theorem dX7_append_1 : decode cX7_append 1 = .ok (.ifCond .lt 10, 3) := by decide +kernel
theorem dX7_append_4 : decode cX7_append 4 = .ok (.iload_n 1, 1) := by decide +kernel
theorem dX7_append_5 : decode cX7_append 5 = .ok (.sipush 255, 3) := by decide +kernel
theorem dX7_append_8 : decode cX7_append 8 = .ok (.if_icmp .le 13, 3) := by decide +kernel
theorem dX7_append_11 : decode cX7_append 11 = .ok (.new 66, 3) := by decide +kernel
theorem dX7_append_14 : decode cX7_append 14 = .ok (.dup, 1) := by decide +kernel
theorem dX7_append_15 : decode cX7_append 15 = .ok (.ldc 68, 2) := by decide +kernel
theorem dX7_append_17 : decode cX7_append 17 = .ok (.invokespecial 70, 3) := by decide +kernel
theorem dX7_append_20 : decode cX7_append 20 = .ok (.athrow, 1) := by decide +kernel
theorem dX7_append_21 : decode cX7_append 21 = .ok (.aload_n 0, 1) := by decide +kernel
theorem dX7_append_22 : decode cX7_append 22 = .ok (.getfield 48, 3) := by decide +kernel
theorem dX7_append_25 : decode cX7_append 25 = .ok (.invokevirtual 73, 3) := by decide +kernel
theorem dX7_append_28 : decode cX7_append 28 = .ok (.ifCond .ne 13, 3) := by decide +kernel
theorem dX7_append_31 : decode cX7_append 31 = .ok (.new 77, 3) := by decide +kernel
theorem dX7_append_34 : decode cX7_append 34 = .ok (.dup, 1) := by decide +kernel
theorem dX7_append_35 : decode cX7_append 35 = .ok (.ldc 79, 2) := by decide +kernel
theorem dX7_append_37 : decode cX7_append 37 = .ok (.invokespecial 81, 3) := by decide +kernel
theorem dX7_append_40 : decode cX7_append 40 = .ok (.athrow, 1) := by decide +kernel
theorem dX7_append_41 : decode cX7_append 41 = .ok (.aload_n 0, 1) := by decide +kernel
theorem dX7_append_42 : decode cX7_append 42 = .ok (.getfield 48, 3) := by decide +kernel
theorem dX7_append_45 : decode cX7_append 45 = .ok (.iload_n 1, 1) := by decide +kernel
theorem dX7_append_46 : decode cX7_append 46 = .ok (.invokevirtual 82, 3) := by decide +kernel
theorem dX7_append_49 : decode cX7_append 49 = .ok (.aload_n 0, 1) := by decide +kernel
theorem dX7_append_50 : decode cX7_append 50 = .ok (.getfield 48, 3) := by decide +kernel
theorem dX7_append_53 : decode cX7_append 53 = .ok (.getfield 85, 3) := by decide +kernel
theorem dX7_append_56 : decode cX7_append 56 = .ok (.ireturn, 1) := by decide +kernel
theorem dX7_clearText_0 : decode cX7_clearText 0 = .ok (.aload_n 0, 1) := by decide +kernel
theorem dX7_clearText_1 : decode cX7_clearText 1 = .ok (.getfield 48, 3) := by decide +kernel
theorem dX7_clearText_4 : decode cX7_clearText 4 = .ok (.getfield 85, 3) := by decide +kernel
theorem dX7_clearText_7 : decode cX7_clearText 7 = .ok (.istore_n 1, 1) := by decide +kernel
theorem dX7_clearText_8 : decode cX7_clearText 8 = .ok (.aload_n 0, 1) := by decide +kernel
theorem dX7_clearText_9 : decode cX7_clearText 9 = .ok (.getfield 48, 3) := by decide +kernel
theorem dX7_clearText_12 : decode cX7_clearText 12 = .ok (.iconst 0, 1) := by decide +kernel
theorem dX7_clearText_13 : decode cX7_clearText 13 = .ok (.putfield 85, 3) := by decide +kernel
theorem dX7_clearText_16 : decode cX7_clearText 16 = .ok (.iload_n 1, 1) := by decide +kernel
theorem dX7_clearText_17 : decode cX7_clearText 17 = .ok (.ireturn, 1) := by decide +kernel
theorem dX7_errorPosition_0 : decode cX7_errorPosition 0 = .ok (.aload_n 0, 1) := by decide +kernel
theorem dX7_errorPosition_1 : decode cX7_errorPosition 1 = .ok (.getfield 48, 3) := by decide +kernel
theorem dX7_errorPosition_4 : decode cX7_errorPosition 4 = .ok (.invokevirtual 89, 3) := by decide +kernel
theorem dX7_errorPosition_7 : decode cX7_errorPosition 7 = .ok (.ireturn, 1) := by decide +kernel
theorem dX7_load_0 : decode cX7_load 0 = .ok (.aload_n 0, 1) := by decide +kernel
theorem dX7_load_1 : decode cX7_load 1 = .ok (.getfield 48, 3) := by decide +kernel
theorem dX7_load_4 : decode cX7_load 4 = .ok (.invokevirtual 89, 3) := by decide +kernel
theorem dX7_load_7 : decode cX7_load 7 = .ok (.bipush (-9), 2) := by decide +kernel
theorem dX7_load_9 : decode cX7_load 9 = .ok (.if_icmp .eq 13, 3) := by decide +kernel
theorem dX7_load_12 : decode cX7_load 12 = .ok (.new 77, 3) := by decide +kernel
theorem dX7_load_15 : decode cX7_load 15 = .ok (.dup, 1) := by decide +kernel
theorem dX7_load_16 : decode cX7_load 16 = .ok (.ldc 93, 2) := by decide +kernel
theorem dX7_load_18 : decode cX7_load 18 = .ok (.invokespecial 81, 3) := by decide +kernel
theorem dX7_load_21 : decode cX7_load 21 = .ok (.athrow, 1) := by decide +kernel
theorem dX7_load_22 : decode cX7_load 22 = .ok (.aload_n 0, 1) := by decide +kernel
theorem dX7_load_23 : decode cX7_load 23 = .ok (.getfield 48, 3) := by decide +kernel
theorem dX7_load_26 : decode cX7_load 26 = .ok (.getfield 95, 3) := by decide +kernel
theorem dX7_load_29 : decode cX7_load 29 = .ok (.astore_n 1, 1) := by decide +kernel
theorem dX7_load_30 : decode cX7_load 30 = .ok (.aload_n 1, 1) := by decide +kernel
theorem dX7_load_31 : decode cX7_load 31 = .ok (.iconst 0, 1) := by decide +kernel
theorem dX7_load_32 : decode cX7_load 32 = .ok (.aload_n 1, 1) := by decide +kernel
theorem dX7_load_33 : decode cX7_load 33 = .ok (.getfield 98, 3) := by decide +kernel
theorem dX7_load_36 : decode cX7_load 36 = .ok (.invokevirtual 101, 3) := by decide +kernel
theorem dX7_load_39 : decode cX7_load 39 = .ok (.bipush 60, 2) := by decide +kernel
theorem dX7_load_41 : decode cX7_load 41 = .ok (.if_icmp .gt 16, 3) := by decide +kernel
theorem dX7_load_44 : decode cX7_load 44 = .ok (.aload_n 1, 1) := by decide +kernel
theorem dX7_load_45 : decode cX7_load 45 = .ok (.iconst 0, 1) := by decide +kernel
theorem dX7_load_46 : decode cX7_load 46 = .ok (.aload_n 1, 1) := by decide +kernel
theorem dX7_load_47 : decode cX7_load 47 = .ok (.getfield 98, 3) := by decide +kernel
theorem dX7_load_50 : decode cX7_load 50 = .ok (.invokevirtual 105, 3) := by decide +kernel
theorem dX7_load_53 : decode cX7_load 53 = .ok (.iconst 5, 1) := by decide +kernel
theorem dX7_load_54 : decode cX7_load 54 = .ok (.if_icmp .le 13, 3) := by decide +kernel
theorem dX7_load_57 : decode cX7_load 57 = .ok (.new 77, 3) := by decide +kernel
theorem dX7_load_60 : decode cX7_load 60 = .ok (.dup, 1) := by decide +kernel
theorem dX7_load_61 : decode cX7_load 61 = .ok (.ldc 108, 2) := by decide +kernel
theorem dX7_load_63 : decode cX7_load 63 = .ok (.invokespecial 81, 3) := by decide +kernel
theorem dX7_load_66 : decode cX7_load 66 = .ok (.athrow, 1) := by decide +kernel
theorem dX7_load_67 : decode cX7_load 67 = .ok (.aload_n 0, 1) := by decide +kernel
theorem dX7_load_68 : decode cX7_load 68 = .ok (.getfield 12, 3) := by decide +kernel
theorem dX7_load_71 : decode cX7_load 71 = .ok (.aload_n 1, 1) := by decide +kernel
theorem dX7_load_72 : decode cX7_load 72 = .ok (.iconst 0, 1) := by decide +kernel
theorem dX7_load_73 : decode cX7_load 73 = .ok (.aload_n 1, 1) := by decide +kernel
theorem dX7_load_74 : decode cX7_load 74 = .ok (.getfield 98, 3) := by decide +kernel
theorem dX7_load_77 : decode cX7_load 77 = .ok (.invokevirtual 110, 3) := by decide +kernel
theorem dX7_load_80 : decode cX7_load 80 = .ok (.aload_n 0, 1) := by decide +kernel
theorem dX7_load_81 : decode cX7_load 81 = .ok (.getfield 12, 3) := by decide +kernel
theorem dX7_load_84 : decode cX7_load 84 = .ok (.iconst 0, 1) := by decide +kernel
theorem dX7_load_85 : decode cX7_load 85 = .ok (.invokevirtual 114, 3) := by decide +kernel
theorem dX7_load_88 : decode cX7_load 88 = .ok (.aload_n 0, 1) := by decide +kernel
theorem dX7_load_89 : decode cX7_load 89 = .ok (.getfield 32, 3) := by decide +kernel
theorem dX7_load_92 : decode cX7_load 92 = .ok (.invokevirtual 117, 3) := by decide +kernel
theorem dX7_load_95 : decode cX7_load 95 = .ok (.aload_n 0, 1) := by decide +kernel
theorem dX7_load_96 : decode cX7_load 96 = .ok (.getfield 22, 3) := by decide +kernel
theorem dX7_load_99 : decode cX7_load 99 = .ok (.iconst 0, 1) := by decide +kernel
theorem dX7_load_100 : decode cX7_load 100 = .ok (.putfield 120, 3) := by decide +kernel
theorem dX7_load_103 : decode cX7_load 103 = .ok (.aload_n 0, 1) := by decide +kernel
theorem dX7_load_104 : decode cX7_load 104 = .ok (.getfield 26, 3) := by decide +kernel
theorem dX7_load_107 : decode cX7_load 107 = .ok (.iconst 0, 1) := by decide +kernel
theorem dX7_load_108 : decode cX7_load 108 = .ok (.putfield 120, 3) := by decide +kernel
theorem dX7_load_111 : decode cX7_load 111 = .ok (.aload_n 0, 1) := by decide +kernel
theorem dX7_load_112 : decode cX7_load 112 = .ok (.getfield 12, 3) := by decide +kernel
theorem dX7_load_115 : decode cX7_load 115 = .ok (.invokevirtual 124, 3) := by decide +kernel
theorem dX7_load_118 : decode cX7_load 118 = .ok (.ireturn, 1) := by decide +kernel
theorem dX7_about_0 : decode cX7_about 0 = .ok (.iload_n 1, 1) := by decide +kernel
theorem dX7_about_1 : decode cX7_about 1 = .ok (.tableswitch 105 0 5 #[39, 47, 57, 65, 81, 89], 39) := by decide +kernel
theorem dX7_about_40 : decode cX7_about 40 = .ok (.aload_n 0, 1) := by decide +kernel
theorem dX7_about_41 : decode cX7_about 41 = .ok (.getfield 12, 3) := by decide +kernel
theorem dX7_about_44 : decode cX7_about 44 = .ok (.invokevirtual 124, 3) := by decide +kernel
theorem dX7_about_47 : decode cX7_about 47 = .ok (.ireturn, 1) := by decide +kernel
theorem dX7_about_48 : decode cX7_about 48 = .ok (.aload_n 0, 1) := by decide +kernel
theorem dX7_about_49 : decode cX7_about 49 = .ok (.getfield 12, 3) := by decide +kernel
theorem dX7_about_52 : decode cX7_about 52 = .ok (.getfield 127, 3) := by decide +kernel
theorem dX7_about_55 : decode cX7_about 55 = .ok (.iconst 1, 1) := by decide +kernel
theorem dX7_about_56 : decode cX7_about 56 = .ok (.iadd, 1) := by decide +kernel
theorem dX7_about_57 : decode cX7_about 57 = .ok (.ireturn, 1) := by decide +kernel
theorem dX7_about_58 : decode cX7_about 58 = .ok (.aload_n 0, 1) := by decide +kernel
theorem dX7_about_59 : decode cX7_about 59 = .ok (.getfield 12, 3) := by decide +kernel
theorem dX7_about_62 : decode cX7_about 62 = .ok (.getfield 128, 3) := by decide +kernel
theorem dX7_about_65 : decode cX7_about 65 = .ok (.ireturn, 1) := by decide +kernel
theorem dX7_about_66 : decode cX7_about 66 = .ok (.aload_n 0, 1) := by decide +kernel
theorem dX7_about_67 : decode cX7_about 67 = .ok (.getfield 12, 3) := by decide +kernel
theorem dX7_about_70 : decode cX7_about 70 = .ok (.iconst 0, 1) := by decide +kernel
theorem dX7_about_71 : decode cX7_about 71 = .ok (.aload_n 0, 1) := by decide +kernel
theorem dX7_about_72 : decode cX7_about 72 = .ok (.getfield 12, 3) := by decide +kernel
theorem dX7_about_75 : decode cX7_about 75 = .ok (.getfield 127, 3) := by decide +kernel
theorem dX7_about_78 : decode cX7_about 78 = .ok (.invokevirtual 131, 3) := by decide +kernel
theorem dX7_about_81 : decode cX7_about 81 = .ok (.ireturn, 1) := by decide +kernel
theorem dX7_about_82 : decode cX7_about 82 = .ok (.aload_n 0, 1) := by decide +kernel
theorem dX7_about_83 : decode cX7_about 83 = .ok (.getfield 12, 3) := by decide +kernel
theorem dX7_about_86 : decode cX7_about 86 = .ok (.invokevirtual 132, 3) := by decide +kernel
theorem dX7_about_89 : decode cX7_about 89 = .ok (.ireturn, 1) := by decide +kernel
theorem dX7_about_90 : decode cX7_about 90 = .ok (.aload_n 0, 1) := by decide +kernel
theorem dX7_about_91 : decode cX7_about 91 = .ok (.getfield 41, 3) := by decide +kernel
theorem dX7_about_94 : decode cX7_about 94 = .ok (.iconst 0, 1) := by decide +kernel
theorem dX7_about_95 : decode cX7_about 95 = .ok (.aload_n 0, 1) := by decide +kernel
theorem dX7_about_96 : decode cX7_about 96 = .ok (.getfield 41, 3) := by decide +kernel
theorem dX7_about_99 : decode cX7_about 99 = .ok (.getfield 98, 3) := by decide +kernel
theorem dX7_about_102 : decode cX7_about 102 = .ok (.invokevirtual 101, 3) := by decide +kernel
theorem dX7_about_105 : decode cX7_about 105 = .ok (.ireturn, 1) := by decide +kernel
theorem dX7_about_106 : decode cX7_about 106 = .ok (.new 66, 3) := by decide +kernel
theorem dX7_about_109 : decode cX7_about 109 = .ok (.dup, 1) := by decide +kernel
theorem dX7_about_110 : decode cX7_about 110 = .ok (.ldc 135, 2) := by decide +kernel
theorem dX7_about_112 : decode cX7_about 112 = .ok (.invokespecial 70, 3) := by decide +kernel
theorem dX7_about_115 : decode cX7_about 115 = .ok (.athrow, 1) := by decide +kernel
theorem dX7_place_0 : decode cX7_place 0 = .ok (.aload_n 0, 1) := by decide +kernel
theorem dX7_place_1 : decode cX7_place 1 = .ok (.getfield 12, 3) := by decide +kernel
theorem dX7_place_4 : decode cX7_place 4 = .ok (.iload_n 1, 1) := by decide +kernel
theorem dX7_place_5 : decode cX7_place 5 = .ok (.invokevirtual 137, 3) := by decide +kernel
theorem dX7_place_8 : decode cX7_place 8 = .ok (.ifCond .ne 13, 3) := by decide +kernel
theorem dX7_place_11 : decode cX7_place 11 = .ok (.new 141, 3) := by decide +kernel
theorem dX7_place_14 : decode cX7_place 14 = .ok (.dup, 1) := by decide +kernel
theorem dX7_place_15 : decode cX7_place 15 = .ok (.ldc 143, 2) := by decide +kernel
theorem dX7_place_17 : decode cX7_place 17 = .ok (.invokespecial 145, 3) := by decide +kernel
theorem dX7_place_20 : decode cX7_place 20 = .ok (.athrow, 1) := by decide +kernel
theorem dX7_place_21 : decode cX7_place 21 = .ok (.aload_n 0, 1) := by decide +kernel
theorem dX7_place_22 : decode cX7_place 22 = .ok (.getfield 12, 3) := by decide +kernel
theorem dX7_place_25 : decode cX7_place 25 = .ok (.iload_n 1, 1) := by decide +kernel
theorem dX7_place_26 : decode cX7_place 26 = .ok (.invokevirtual 146, 3) := by decide +kernel
theorem dX7_place_29 : decode cX7_place 29 = .ok (.istore_n 3, 1) := by decide +kernel
theorem dX7_place_30 : decode cX7_place 30 = .ok (.iload_n 2, 1) := by decide +kernel
theorem dX7_place_31 : decode cX7_place 31 = .ok (.tableswitch 131 0 5 #[37, 46, 56, 73, 82, 103], 37) := by decide +kernel
theorem dX7_place_68 : decode cX7_place 68 = .ok (.aload_n 0, 1) := by decide +kernel
theorem dX7_place_69 : decode cX7_place 69 = .ok (.getfield 12, 3) := by decide +kernel
theorem dX7_place_72 : decode cX7_place 72 = .ok (.iload_n 1, 1) := by decide +kernel
theorem dX7_place_73 : decode cX7_place 73 = .ok (.invokevirtual 150, 3) := by decide +kernel
theorem dX7_place_76 : decode cX7_place 76 = .ok (.ireturn, 1) := by decide +kernel
theorem dX7_place_77 : decode cX7_place 77 = .ok (.aload_n 0, 1) := by decide +kernel
theorem dX7_place_78 : decode cX7_place 78 = .ok (.getfield 12, 3) := by decide +kernel
theorem dX7_place_81 : decode cX7_place 81 = .ok (.iload_n 3, 1) := by decide +kernel
theorem dX7_place_82 : decode cX7_place 82 = .ok (.iload_n 1, 1) := by decide +kernel
theorem dX7_place_83 : decode cX7_place 83 = .ok (.invokevirtual 153, 3) := by decide +kernel
theorem dX7_place_86 : decode cX7_place 86 = .ok (.ireturn, 1) := by decide +kernel
theorem dX7_place_87 : decode cX7_place 87 = .ok (.aload_n 0, 1) := by decide +kernel
theorem dX7_place_88 : decode cX7_place 88 = .ok (.getfield 12, 3) := by decide +kernel
theorem dX7_place_91 : decode cX7_place 91 = .ok (.iload_n 3, 1) := by decide +kernel
theorem dX7_place_92 : decode cX7_place 92 = .ok (.aload_n 0, 1) := by decide +kernel
theorem dX7_place_93 : decode cX7_place 93 = .ok (.getfield 12, 3) := by decide +kernel
theorem dX7_place_96 : decode cX7_place 96 = .ok (.iload_n 1, 1) := by decide +kernel
theorem dX7_place_97 : decode cX7_place 97 = .ok (.invokevirtual 156, 3) := by decide +kernel
theorem dX7_place_100 : decode cX7_place 100 = .ok (.invokevirtual 153, 3) := by decide +kernel
theorem dX7_place_103 : decode cX7_place 103 = .ok (.ireturn, 1) := by decide +kernel
theorem dX7_place_104 : decode cX7_place 104 = .ok (.aload_n 0, 1) := by decide +kernel
theorem dX7_place_105 : decode cX7_place 105 = .ok (.getfield 12, 3) := by decide +kernel
theorem dX7_place_108 : decode cX7_place 108 = .ok (.iload_n 3, 1) := by decide +kernel
theorem dX7_place_109 : decode cX7_place 109 = .ok (.invokevirtual 159, 3) := by decide +kernel
theorem dX7_place_112 : decode cX7_place 112 = .ok (.ireturn, 1) := by decide +kernel
theorem dX7_place_113 : decode cX7_place 113 = .ok (.aload_n 0, 1) := by decide +kernel
theorem dX7_place_114 : decode cX7_place 114 = .ok (.getfield 12, 3) := by decide +kernel
theorem dX7_place_117 : decode cX7_place 117 = .ok (.iload_n 3, 1) := by decide +kernel
theorem dX7_place_118 : decode cX7_place 118 = .ok (.iconst 1, 1) := by decide +kernel
theorem dX7_place_119 : decode cX7_place 119 = .ok (.isub, 1) := by decide +kernel
theorem dX7_place_120 : decode cX7_place 120 = .ok (.invokevirtual 162, 3) := by decide +kernel
theorem dX7_place_123 : decode cX7_place 123 = .ok (.bipush 6, 2) := by decide +kernel
theorem dX7_place_125 : decode cX7_place 125 = .ok (.if_icmp .ne 7, 3) := by decide +kernel
theorem dX7_place_128 : decode cX7_place 128 = .ok (.iconst 1, 1) := by decide +kernel
theorem dX7_place_129 : decode cX7_place 129 = .ok (.goto 4, 3) := by decide +kernel
theorem dX7_place_132 : decode cX7_place 132 = .ok (.iconst 0, 1) := by decide +kernel
theorem dX7_place_133 : decode cX7_place 133 = .ok (.ireturn, 1) := by decide +kernel
theorem dX7_place_134 : decode cX7_place 134 = .ok (.aload_n 0, 1) := by decide +kernel
theorem dX7_place_135 : decode cX7_place 135 = .ok (.getfield 12, 3) := by decide +kernel
theorem dX7_place_138 : decode cX7_place 138 = .ok (.iload_n 1, 1) := by decide +kernel
theorem dX7_place_139 : decode cX7_place 139 = .ok (.invokevirtual 162, 3) := by decide +kernel
theorem dX7_place_142 : decode cX7_place 142 = .ok (.invokestatic 165, 3) := by decide +kernel
theorem dX7_place_145 : decode cX7_place 145 = .ok (.ifCond .eq 14, 3) := by decide +kernel
theorem dX7_place_148 : decode cX7_place 148 = .ok (.aload_n 0, 1) := by decide +kernel
theorem dX7_place_149 : decode cX7_place 149 = .ok (.getfield 12, 3) := by decide +kernel
theorem dX7_place_152 : decode cX7_place 152 = .ok (.iload_n 1, 1) := by decide +kernel
theorem dX7_place_153 : decode cX7_place 153 = .ok (.invokevirtual 162, 3) := by decide +kernel
theorem dX7_place_156 : decode cX7_place 156 = .ok (.goto 5, 3) := by decide +kernel
theorem dX7_place_159 : decode cX7_place 159 = .ok (.bipush (-9), 2) := by decide +kernel
theorem dX7_place_161 : decode cX7_place 161 = .ok (.ireturn, 1) := by decide +kernel
theorem dX7_place_162 : decode cX7_place 162 = .ok (.new 66, 3) := by decide +kernel
theorem dX7_place_165 : decode cX7_place 165 = .ok (.dup, 1) := by decide +kernel
theorem dX7_place_166 : decode cX7_place 166 = .ok (.ldc 135, 2) := by decide +kernel
theorem dX7_place_168 : decode cX7_place 168 = .ok (.invokespecial 70, 3) := by decide +kernel
theorem dX7_place_171 : decode cX7_place 171 = .ok (.athrow, 1) := by decide +kernel
theorem dX7_selection_0 : decode cX7_selection 0 = .ok (.iload_n 1, 1) := by decide +kernel
theorem dX7_selection_1 : decode cX7_selection 1 = .ok (.tableswitch 51 0 2 #[27, 35, 43], 27) := by decide +kernel
theorem dX7_selection_28 : decode cX7_selection 28 = .ok (.aload_n 0, 1) := by decide +kernel
theorem dX7_selection_29 : decode cX7_selection 29 = .ok (.getfield 12, 3) := by decide +kernel
theorem dX7_selection_32 : decode cX7_selection 32 = .ok (.invokevirtual 168, 3) := by decide +kernel
theorem dX7_selection_35 : decode cX7_selection 35 = .ok (.ireturn, 1) := by decide +kernel
theorem dX7_selection_36 : decode cX7_selection 36 = .ok (.aload_n 0, 1) := by decide +kernel
theorem dX7_selection_37 : decode cX7_selection 37 = .ok (.getfield 12, 3) := by decide +kernel
theorem dX7_selection_40 : decode cX7_selection 40 = .ok (.invokevirtual 171, 3) := by decide +kernel
theorem dX7_selection_43 : decode cX7_selection 43 = .ok (.ireturn, 1) := by decide +kernel
theorem dX7_selection_44 : decode cX7_selection 44 = .ok (.aload_n 0, 1) := by decide +kernel
theorem dX7_selection_45 : decode cX7_selection 45 = .ok (.getfield 12, 3) := by decide +kernel
theorem dX7_selection_48 : decode cX7_selection 48 = .ok (.getfield 174, 3) := by decide +kernel
theorem dX7_selection_51 : decode cX7_selection 51 = .ok (.ireturn, 1) := by decide +kernel
theorem dX7_selection_52 : decode cX7_selection 52 = .ok (.new 66, 3) := by decide +kernel
theorem dX7_selection_55 : decode cX7_selection 55 = .ok (.dup, 1) := by decide +kernel
theorem dX7_selection_56 : decode cX7_selection 56 = .ok (.ldc 177, 2) := by decide +kernel
theorem dX7_selection_58 : decode cX7_selection 58 = .ok (.invokespecial 70, 3) := by decide +kernel
theorem dX7_selection_61 : decode cX7_selection 61 = .ok (.athrow, 1) := by decide +kernel
theorem dX7_linearLength_0 : decode cX7_linearLength 0 = .ok (.aload_n 0, 1) := by decide +kernel
theorem dX7_linearLength_1 : decode cX7_linearLength 1 = .ok (.getfield 55, 3) := by decide +kernel
theorem dX7_linearLength_4 : decode cX7_linearLength 4 = .ok (.aload_n 0, 1) := by decide +kernel
theorem dX7_linearLength_5 : decode cX7_linearLength 5 = .ok (.getfield 12, 3) := by decide +kernel
theorem dX7_linearLength_8 : decode cX7_linearLength 8 = .ok (.invokevirtual 179, 3) := by decide +kernel
theorem dX7_linearLength_11 : decode cX7_linearLength 11 = .ok (.aload_n 0, 1) := by decide +kernel
theorem dX7_linearLength_12 : decode cX7_linearLength 12 = .ok (.getfield 55, 3) := by decide +kernel
theorem dX7_linearLength_15 : decode cX7_linearLength 15 = .ok (.getfield 183, 3) := by decide +kernel
theorem dX7_linearLength_18 : decode cX7_linearLength 18 = .ok (.ireturn, 1) := by decide +kernel
theorem dX7_linearAt_0 : decode cX7_linearAt 0 = .ok (.aload_n 0, 1) := by decide +kernel
theorem dX7_linearAt_1 : decode cX7_linearAt 1 = .ok (.getfield 55, 3) := by decide +kernel
theorem dX7_linearAt_4 : decode cX7_linearAt 4 = .ok (.aload_n 0, 1) := by decide +kernel
theorem dX7_linearAt_5 : decode cX7_linearAt 5 = .ok (.getfield 12, 3) := by decide +kernel
theorem dX7_linearAt_8 : decode cX7_linearAt 8 = .ok (.invokevirtual 179, 3) := by decide +kernel
theorem dX7_linearAt_11 : decode cX7_linearAt 11 = .ok (.iload_n 1, 1) := by decide +kernel
theorem dX7_linearAt_12 : decode cX7_linearAt 12 = .ok (.ifCond .lt 14, 3) := by decide +kernel
theorem dX7_linearAt_15 : decode cX7_linearAt 15 = .ok (.iload_n 1, 1) := by decide +kernel
theorem dX7_linearAt_16 : decode cX7_linearAt 16 = .ok (.aload_n 0, 1) := by decide +kernel
theorem dX7_linearAt_17 : decode cX7_linearAt 17 = .ok (.getfield 55, 3) := by decide +kernel
theorem dX7_linearAt_20 : decode cX7_linearAt 20 = .ok (.getfield 183, 3) := by decide +kernel
theorem dX7_linearAt_23 : decode cX7_linearAt 23 = .ok (.if_icmp .lt 13, 3) := by decide +kernel
theorem dX7_linearAt_26 : decode cX7_linearAt 26 = .ok (.new 141, 3) := by decide +kernel
theorem dX7_linearAt_29 : decode cX7_linearAt 29 = .ok (.dup, 1) := by decide +kernel
theorem dX7_linearAt_30 : decode cX7_linearAt 30 = .ok (.ldc 184, 2) := by decide +kernel
theorem dX7_linearAt_32 : decode cX7_linearAt 32 = .ok (.invokespecial 145, 3) := by decide +kernel
theorem dX7_linearAt_35 : decode cX7_linearAt 35 = .ok (.athrow, 1) := by decide +kernel
theorem dX7_linearAt_36 : decode cX7_linearAt 36 = .ok (.aload_n 0, 1) := by decide +kernel
theorem dX7_linearAt_37 : decode cX7_linearAt 37 = .ok (.getfield 55, 3) := by decide +kernel
theorem dX7_linearAt_40 : decode cX7_linearAt 40 = .ok (.iload_n 1, 1) := by decide +kernel
theorem dX7_linearAt_41 : decode cX7_linearAt 41 = .ok (.invokevirtual 186, 3) := by decide +kernel
theorem dX7_linearAt_44 : decode cX7_linearAt 44 = .ok (.ireturn, 1) := by decide +kernel
theorem dX7_moveTo_0 : decode cX7_moveTo 0 = .ok (.aload_n 0, 1) := by decide +kernel
theorem dX7_moveTo_1 : decode cX7_moveTo 1 = .ok (.getfield 12, 3) := by decide +kernel
theorem dX7_moveTo_4 : decode cX7_moveTo 4 = .ok (.iload_n 1, 1) := by decide +kernel
theorem dX7_moveTo_5 : decode cX7_moveTo 5 = .ok (.invokevirtual 137, 3) := by decide +kernel
theorem dX7_moveTo_8 : decode cX7_moveTo 8 = .ok (.ifCond .ne 13, 3) := by decide +kernel
theorem dX7_moveTo_11 : decode cX7_moveTo 11 = .ok (.new 141, 3) := by decide +kernel
theorem dX7_moveTo_14 : decode cX7_moveTo 14 = .ok (.dup, 1) := by decide +kernel
theorem dX7_moveTo_15 : decode cX7_moveTo 15 = .ok (.ldc 143, 2) := by decide +kernel
theorem dX7_moveTo_17 : decode cX7_moveTo 17 = .ok (.invokespecial 145, 3) := by decide +kernel
theorem dX7_moveTo_20 : decode cX7_moveTo 20 = .ok (.athrow, 1) := by decide +kernel
theorem dX7_moveTo_21 : decode cX7_moveTo 21 = .ok (.aload_n 0, 1) := by decide +kernel
theorem dX7_moveTo_22 : decode cX7_moveTo 22 = .ok (.getfield 12, 3) := by decide +kernel
theorem dX7_moveTo_25 : decode cX7_moveTo 25 = .ok (.getfield 128, 3) := by decide +kernel
theorem dX7_moveTo_28 : decode cX7_moveTo 28 = .ok (.istore_n 2, 1) := by decide +kernel
theorem dX7_moveTo_29 : decode cX7_moveTo 29 = .ok (.aload_n 0, 1) := by decide +kernel
theorem dX7_moveTo_30 : decode cX7_moveTo 30 = .ok (.getfield 12, 3) := by decide +kernel

theorem dX6_wrap_80 : decode cX6_wrap 80 = .ok (.lload 6, 2) := by decide +kernel
theorem dX6_wrap_82 : decode cX6_wrap 82 = .ok (.lsub, 1) := by decide +kernel
theorem dX6_wrap_83 : decode cX6_wrap 83 = .ok (.l2i, 1) := by decide +kernel
theorem dX6_wrap_84 : decode cX6_wrap 84 = .ok (.ireturn, 1) := by decide +kernel
theorem dX6_setCoefficient_0 : decode cX6_setCoefficient 0 = .ok (.iload_n 1, 1) := by decide +kernel
theorem dX6_setCoefficient_1 : decode cX6_setCoefficient 1 = .ok (.invokestatic 95, 3) := by decide +kernel
theorem dX6_setCoefficient_4 : decode cX6_setCoefficient 4 = .ok (.aload_n 0, 1) := by decide +kernel
theorem dX6_setCoefficient_5 : decode cX6_setCoefficient 5 = .ok (.iload_n 1, 1) := by decide +kernel
theorem dX6_setCoefficient_6 : decode cX6_setCoefficient 6 = .ok (.invokevirtual 98, 3) := by decide +kernel
theorem dX6_setCoefficient_9 : decode cX6_setCoefficient 9 = .ok (.astore 5, 2) := by decide +kernel
theorem dX6_setCoefficient_11 : decode cX6_setCoefficient 11 = .ok (.iload_n 2, 1) := by decide +kernel
theorem dX6_setCoefficient_12 : decode cX6_setCoefficient 12 = .ok (.iload_n 3, 1) := by decide +kernel
theorem dX6_setCoefficient_13 : decode cX6_setCoefficient 13 = .ok (.invokestatic 102, 3) := by decide +kernel
theorem dX6_setCoefficient_16 : decode cX6_setCoefficient 16 = .ok (.istore 6, 2) := by decide +kernel
theorem dX6_setCoefficient_18 : decode cX6_setCoefficient 18 = .ok (.iload 4, 2) := by decide +kernel
theorem dX6_setCoefficient_20 : decode cX6_setCoefficient 20 = .ok (.i2l, 1) := by decide +kernel
theorem dX6_setCoefficient_21 : decode cX6_setCoefficient 21 = .ok (.ldc2_w 207, 3) := by decide +kernel
theorem dX6_setCoefficient_24 : decode cX6_setCoefficient 24 = .ok (.ldc2_w 188, 3) := by decide +kernel
theorem dX6_setCoefficient_27 : decode cX6_setCoefficient 27 = .ok (.invokestatic 131, 3) := by decide +kernel
theorem dX6_setCoefficient_30 : decode cX6_setCoefficient 30 = .ok (.aload_n 0, 1) := by decide +kernel
theorem dX6_setCoefficient_31 : decode cX6_setCoefficient 31 = .ok (.getfield 19, 3) := by decide +kernel
theorem dX6_setCoefficient_34 : decode cX6_setCoefficient 34 = .ok (.aload_n 0, 1) := by decide +kernel
theorem dX6_setCoefficient_35 : decode cX6_setCoefficient 35 = .ok (.getfield 10, 3) := by decide +kernel
theorem dX6_setCoefficient_38 : decode cX6_setCoefficient 38 = .ok (.invokevirtual 78, 3) := by decide +kernel
theorem dX6_setCoefficient_41 : decode cX6_setCoefficient 41 = .ok (.aload 5, 2) := by decide +kernel
theorem dX6_setCoefficient_43 : decode cX6_setCoefficient 43 = .ok (.iload 6, 2) := by decide +kernel
theorem dX6_setCoefficient_45 : decode cX6_setCoefficient 45 = .ok (.invokevirtual 106, 3) := by decide +kernel
theorem dX6_setCoefficient_48 : decode cX6_setCoefficient 48 = .ok (.l2i, 1) := by decide +kernel
theorem dX6_setCoefficient_49 : decode cX6_setCoefficient 49 = .ok (.istore 7, 2) := by decide +kernel
theorem dX6_setCoefficient_51 : decode cX6_setCoefficient 51 = .ok (.aload 5, 2) := by decide +kernel
theorem dX6_setCoefficient_53 : decode cX6_setCoefficient 53 = .ok (.iload 6, 2) := by decide +kernel
theorem dX6_setCoefficient_55 : decode cX6_setCoefficient 55 = .ok (.iload 4, 2) := by decide +kernel
theorem dX6_setCoefficient_57 : decode cX6_setCoefficient 57 = .ok (.i2l, 1) := by decide +kernel
theorem dX6_setCoefficient_58 : decode cX6_setCoefficient 58 = .ok (.invokevirtual 203, 3) := by decide +kernel
theorem dX6_setCoefficient_61 : decode cX6_setCoefficient 61 = .ok (.iload 7, 2) := by decide +kernel
theorem dX6_setCoefficient_63 : decode cX6_setCoefficient 63 = .ok (.ireturn, 1) := by decide +kernel
theorem dX6_setRemainder_0 : decode cX6_setRemainder 0 = .ok (.iload_n 1, 1) := by decide +kernel
theorem dX6_setRemainder_1 : decode cX6_setRemainder 1 = .ok (.invokestatic 95, 3) := by decide +kernel
theorem dX6_setRemainder_4 : decode cX6_setRemainder 4 = .ok (.aload_n 0, 1) := by decide +kernel
theorem dX6_setRemainder_5 : decode cX6_setRemainder 5 = .ok (.iload_n 1, 1) := by decide +kernel
theorem dX6_setRemainder_6 : decode cX6_setRemainder 6 = .ok (.invokevirtual 98, 3) := by decide +kernel
theorem dX6_setRemainder_9 : decode cX6_setRemainder 9 = .ok (.astore 4, 2) := by decide +kernel
theorem dX6_setRemainder_11 : decode cX6_setRemainder 11 = .ok (.iload_n 2, 1) := by decide +kernel
theorem dX6_setRemainder_12 : decode cX6_setRemainder 12 = .ok (.i2l, 1) := by decide +kernel
theorem dX6_setRemainder_13 : decode cX6_setRemainder 13 = .ok (.ldc2_w 207, 3) := by decide +kernel
theorem dX6_setRemainder_16 : decode cX6_setRemainder 16 = .ok (.ldc2_w 188, 3) := by decide +kernel
theorem dX6_setRemainder_19 : decode cX6_setRemainder 19 = .ok (.invokestatic 131, 3) := by decide +kernel
theorem dX6_setRemainder_22 : decode cX6_setRemainder 22 = .ok (.iload_n 3, 1) := by decide +kernel
theorem dX6_setRemainder_23 : decode cX6_setRemainder 23 = .ok (.i2l, 1) := by decide +kernel
theorem dX6_setRemainder_24 : decode cX6_setRemainder 24 = .ok (.iload_n 2, 1) := by decide +kernel
theorem dX6_setRemainder_25 : decode cX6_setRemainder 25 = .ok (.i2l, 1) := by decide +kernel
theorem dX6_setRemainder_26 : decode cX6_setRemainder 26 = .ok (.ldc2_w 188, 3) := by decide +kernel
theorem dX6_setRemainder_29 : decode cX6_setRemainder 29 = .ok (.invokestatic 131, 3) := by decide +kernel
theorem dX6_setRemainder_32 : decode cX6_setRemainder 32 = .ok (.aload_n 0, 1) := by decide +kernel
theorem dX6_setRemainder_33 : decode cX6_setRemainder 33 = .ok (.getfield 19, 3) := by decide +kernel
theorem dX6_setRemainder_36 : decode cX6_setRemainder 36 = .ok (.aload_n 0, 1) := by decide +kernel
theorem dX6_setRemainder_37 : decode cX6_setRemainder 37 = .ok (.getfield 10, 3) := by decide +kernel
theorem dX6_setRemainder_40 : decode cX6_setRemainder 40 = .ok (.invokevirtual 78, 3) := by decide +kernel
theorem dX6_setRemainder_43 : decode cX6_setRemainder 43 = .ok (.aload 4, 2) := by decide +kernel
theorem dX6_setRemainder_45 : decode cX6_setRemainder 45 = .ok (.invokevirtual 209, 3) := by decide +kernel
theorem dX6_setRemainder_48 : decode cX6_setRemainder 48 = .ok (.istore 5, 2) := by decide +kernel
theorem dX6_setRemainder_50 : decode cX6_setRemainder 50 = .ok (.aload 4, 2) := by decide +kernel
theorem dX6_setRemainder_52 : decode cX6_setRemainder 52 = .ok (.iload_n 2, 1) := by decide +kernel
theorem dX6_setRemainder_53 : decode cX6_setRemainder 53 = .ok (.i2l, 1) := by decide +kernel
theorem dX6_setRemainder_54 : decode cX6_setRemainder 54 = .ok (.putfield 113, 3) := by decide +kernel
theorem dX6_setRemainder_57 : decode cX6_setRemainder 57 = .ok (.aload 4, 2) := by decide +kernel
theorem dX6_setRemainder_59 : decode cX6_setRemainder 59 = .ok (.iload_n 3, 1) := by decide +kernel
theorem dX6_setRemainder_60 : decode cX6_setRemainder 60 = .ok (.i2l, 1) := by decide +kernel
theorem dX6_setRemainder_61 : decode cX6_setRemainder 61 = .ok (.putfield 117, 3) := by decide +kernel
theorem dX6_setRemainder_64 : decode cX6_setRemainder 64 = .ok (.iload 5, 2) := by decide +kernel
theorem dX6_setRemainder_66 : decode cX6_setRemainder 66 = .ok (.ireturn, 1) := by decide +kernel
theorem dX6_clear_0 : decode cX6_clear 0 = .ok (.iload_n 1, 1) := by decide +kernel
theorem dX6_clear_1 : decode cX6_clear 1 = .ok (.invokestatic 95, 3) := by decide +kernel
theorem dX6_clear_4 : decode cX6_clear 4 = .ok (.aload_n 0, 1) := by decide +kernel
theorem dX6_clear_5 : decode cX6_clear 5 = .ok (.getfield 19, 3) := by decide +kernel
theorem dX6_clear_8 : decode cX6_clear 8 = .ok (.aload_n 0, 1) := by decide +kernel
theorem dX6_clear_9 : decode cX6_clear 9 = .ok (.getfield 10, 3) := by decide +kernel
theorem dX6_clear_12 : decode cX6_clear 12 = .ok (.invokevirtual 78, 3) := by decide +kernel
theorem dX6_clear_15 : decode cX6_clear 15 = .ok (.aload_n 0, 1) := by decide +kernel
theorem dX6_clear_16 : decode cX6_clear 16 = .ok (.getfield 10, 3) := by decide +kernel
theorem dX6_clear_19 : decode cX6_clear 19 = .ok (.iload_n 1, 1) := by decide +kernel
theorem dX6_clear_20 : decode cX6_clear 20 = .ok (.invokevirtual 212, 3) := by decide +kernel
theorem dX6_clear_23 : decode cX6_clear 23 = .ok (.istore_n 2, 1) := by decide +kernel
theorem dX6_clear_24 : decode cX6_clear 24 = .ok (.aload_n 0, 1) := by decide +kernel
theorem dX6_clear_25 : decode cX6_clear 25 = .ok (.getfield 10, 3) := by decide +kernel
theorem dX6_clear_28 : decode cX6_clear 28 = .ok (.iload_n 1, 1) := by decide +kernel
theorem dX6_clear_29 : decode cX6_clear 29 = .ok (.invokevirtual 215, 3) := by decide +kernel
theorem dX6_clear_32 : decode cX6_clear 32 = .ok (.iload_n 2, 1) := by decide +kernel
theorem dX6_clear_33 : decode cX6_clear 33 = .ok (.ireturn, 1) := by decide +kernel
theorem dX6_undo_0 : decode cX6_undo 0 = .ok (.aload_n 0, 1) := by decide +kernel
theorem dX6_undo_1 : decode cX6_undo 1 = .ok (.getfield 19, 3) := by decide +kernel
theorem dX6_undo_4 : decode cX6_undo 4 = .ok (.aload_n 0, 1) := by decide +kernel
theorem dX6_undo_5 : decode cX6_undo 5 = .ok (.getfield 10, 3) := by decide +kernel
theorem dX6_undo_8 : decode cX6_undo 8 = .ok (.invokevirtual 218, 3) := by decide +kernel
theorem dX6_undo_11 : decode cX6_undo 11 = .ok (.ifCond .eq 13, 3) := by decide +kernel
theorem dX6_undo_14 : decode cX6_undo 14 = .ok (.aload_n 0, 1) := by decide +kernel
theorem dX6_undo_15 : decode cX6_undo 15 = .ok (.getfield 19, 3) := by decide +kernel
theorem dX6_undo_18 : decode cX6_undo 18 = .ok (.getfield 222, 3) := by decide +kernel
theorem dX6_undo_21 : decode cX6_undo 21 = .ok (.goto 4, 3) := by decide +kernel
theorem dX6_undo_24 : decode cX6_undo 24 = .ok (.iconst (-1), 1) := by decide +kernel
theorem dX6_undo_25 : decode cX6_undo 25 = .ok (.ireturn, 1) := by decide +kernel
theorem dX6_checksum_0 : decode cX6_checksum 0 = .ok (.aload_n 0, 1) := by decide +kernel
theorem dX6_checksum_1 : decode cX6_checksum 1 = .ok (.getfield 10, 3) := by decide +kernel
theorem dX6_checksum_4 : decode cX6_checksum 4 = .ok (.getfield 92, 3) := by decide +kernel
theorem dX6_checksum_7 : decode cX6_checksum 7 = .ok (.i2l, 1) := by decide +kernel
theorem dX6_checksum_8 : decode cX6_checksum 8 = .ok (.lstore_n 1, 1) := by decide +kernel
theorem dX6_checksum_9 : decode cX6_checksum 9 = .ok (.iconst 0, 1) := by decide +kernel
theorem dX6_checksum_10 : decode cX6_checksum 10 = .ok (.istore_n 3, 1) := by decide +kernel
theorem dX6_checksum_11 : decode cX6_checksum 11 = .ok (.iload_n 3, 1) := by decide +kernel
theorem dX6_checksum_12 : decode cX6_checksum 12 = .ok (.bipush 8, 2) := by decide +kernel
theorem dX6_checksum_14 : decode cX6_checksum 14 = .ok (.if_icmp .ge 34, 3) := by decide +kernel
theorem dX6_checksum_17 : decode cX6_checksum 17 = .ok (.aload_n 0, 1) := by decide +kernel
theorem dX6_checksum_18 : decode cX6_checksum 18 = .ok (.getfield 10, 3) := by decide +kernel
theorem dX6_checksum_21 : decode cX6_checksum 21 = .ok (.iload_n 3, 1) := by decide +kernel
theorem dX6_checksum_22 : decode cX6_checksum 22 = .ok (.invokevirtual 212, 3) := by decide +kernel
theorem dX6_checksum_25 : decode cX6_checksum 25 = .ok (.ifCond .eq 17, 3) := by decide +kernel
theorem dX6_checksum_28 : decode cX6_checksum 28 = .ok (.aload_n 0, 1) := by decide +kernel
theorem dX6_checksum_29 : decode cX6_checksum 29 = .ok (.getfield 10, 3) := by decide +kernel
theorem dX6_checksum_32 : decode cX6_checksum 32 = .ok (.getfield 224, 3) := by decide +kernel
theorem dX6_checksum_35 : decode cX6_checksum 35 = .ok (.iload_n 3, 1) := by decide +kernel
theorem dX6_checksum_36 : decode cX6_checksum 36 = .ok (.aaload, 1) := by decide +kernel
theorem dX6_checksum_37 : decode cX6_checksum 37 = .ok (.lload_n 1, 1) := by decide +kernel
theorem dX6_checksum_38 : decode cX6_checksum 38 = .ok (.invokevirtual 228, 3) := by decide +kernel
theorem dX6_checksum_41 : decode cX6_checksum 41 = .ok (.lstore_n 1, 1) := by decide +kernel
theorem dX6_checksum_42 : decode cX6_checksum 42 = .ok (.iinc 3 1, 3) := by decide +kernel
theorem dX6_checksum_45 : decode cX6_checksum 45 = .ok (.goto (-34), 3) := by decide +kernel
theorem dX6_checksum_48 : decode cX6_checksum 48 = .ok (.lload_n 1, 1) := by decide +kernel
theorem dX6_checksum_49 : decode cX6_checksum 49 = .ok (.lreturn, 1) := by decide +kernel
theorem dX6_requireIndex_0 : decode cX6_requireIndex 0 = .ok (.iload_n 0, 1) := by decide +kernel
theorem dX6_requireIndex_1 : decode cX6_requireIndex 1 = .ok (.ifCond .lt 9, 3) := by decide +kernel
theorem dX6_requireIndex_4 : decode cX6_requireIndex 4 = .ok (.iload_n 0, 1) := by decide +kernel
theorem dX6_requireIndex_5 : decode cX6_requireIndex 5 = .ok (.bipush 8, 2) := by decide +kernel
theorem dX6_requireIndex_7 : decode cX6_requireIndex 7 = .ok (.if_icmp .lt 13, 3) := by decide +kernel
theorem dX6_requireIndex_10 : decode cX6_requireIndex 10 = .ok (.new 232, 3) := by decide +kernel
theorem dX6_requireIndex_13 : decode cX6_requireIndex 13 = .ok (.dup, 1) := by decide +kernel
theorem dX6_requireIndex_14 : decode cX6_requireIndex 14 = .ok (.ldc 234, 2) := by decide +kernel
theorem dX6_requireIndex_16 : decode cX6_requireIndex 16 = .ok (.invokespecial 236, 3) := by decide +kernel
theorem dX6_requireIndex_19 : decode cX6_requireIndex 19 = .ok (.athrow, 1) := by decide +kernel
theorem dX6_requireIndex_20 : decode cX6_requireIndex 20 = .ok (.return_, 1) := by decide +kernel
theorem dX6_requireDefined_0 : decode cX6_requireDefined 0 = .ok (.aload_n 0, 1) := by decide +kernel
theorem dX6_requireDefined_1 : decode cX6_requireDefined 1 = .ok (.getfield 10, 3) := by decide +kernel
theorem dX6_requireDefined_4 : decode cX6_requireDefined 4 = .ok (.iload_n 1, 1) := by decide +kernel
theorem dX6_requireDefined_5 : decode cX6_requireDefined 5 = .ok (.invokevirtual 212, 3) := by decide +kernel
theorem dX6_requireDefined_8 : decode cX6_requireDefined 8 = .ok (.ifCond .ne 13, 3) := by decide +kernel
theorem dX6_requireDefined_11 : decode cX6_requireDefined 11 = .ok (.new 237, 3) := by decide +kernel
theorem dX6_requireDefined_14 : decode cX6_requireDefined 14 = .ok (.dup, 1) := by decide +kernel
theorem dX6_requireDefined_15 : decode cX6_requireDefined 15 = .ok (.ldc 239, 2) := by decide +kernel
theorem dX6_requireDefined_17 : decode cX6_requireDefined 17 = .ok (.invokespecial 241, 3) := by decide +kernel
theorem dX6_requireDefined_20 : decode cX6_requireDefined 20 = .ok (.athrow, 1) := by decide +kernel
theorem dX6_requireDefined_21 : decode cX6_requireDefined 21 = .ok (.aload_n 0, 1) := by decide +kernel
theorem dX6_requireDefined_22 : decode cX6_requireDefined 22 = .ok (.getfield 10, 3) := by decide +kernel
theorem dX6_requireDefined_25 : decode cX6_requireDefined 25 = .ok (.getfield 224, 3) := by decide +kernel
theorem dX6_requireDefined_28 : decode cX6_requireDefined 28 = .ok (.iload_n 1, 1) := by decide +kernel
theorem dX6_requireDefined_29 : decode cX6_requireDefined 29 = .ok (.aaload, 1) := by decide +kernel
theorem dX6_requireDefined_30 : decode cX6_requireDefined 30 = .ok (.areturn, 1) := by decide +kernel
theorem dX6_requireSlot_0 : decode cX6_requireSlot 0 = .ok (.iload_n 0, 1) := by decide +kernel
theorem dX6_requireSlot_1 : decode cX6_requireSlot 1 = .ok (.iload_n 1, 1) := by decide +kernel
theorem dX6_requireSlot_2 : decode cX6_requireSlot 2 = .ok (.invokestatic 242, 3) := by decide +kernel
theorem dX6_requireSlot_5 : decode cX6_requireSlot 5 = .ok (.istore_n 2, 1) := by decide +kernel
theorem dX6_requireSlot_6 : decode cX6_requireSlot 6 = .ok (.iload_n 2, 1) := by decide +kernel
theorem dX6_requireSlot_7 : decode cX6_requireSlot 7 = .ok (.ifCond .ge 13, 3) := by decide +kernel
theorem dX6_requireSlot_10 : decode cX6_requireSlot 10 = .ok (.new 61, 3) := by decide +kernel
theorem dX6_requireSlot_13 : decode cX6_requireSlot 13 = .ok (.dup, 1) := by decide +kernel
theorem dX6_requireSlot_14 : decode cX6_requireSlot 14 = .ok (.ldc 245, 2) := by decide +kernel
theorem dX6_requireSlot_16 : decode cX6_requireSlot 16 = .ok (.invokespecial 65, 3) := by decide +kernel
theorem dX6_requireSlot_19 : decode cX6_requireSlot 19 = .ok (.athrow, 1) := by decide +kernel
theorem dX6_requireSlot_20 : decode cX6_requireSlot 20 = .ok (.iload_n 2, 1) := by decide +kernel
theorem dX6_requireSlot_21 : decode cX6_requireSlot 21 = .ok (.ireturn, 1) := by decide +kernel
theorem dX6_requireZeroOrOne_0 : decode cX6_requireZeroOrOne 0 = .ok (.iload_n 0, 1) := by decide +kernel
theorem dX6_requireZeroOrOne_1 : decode cX6_requireZeroOrOne 1 = .ok (.ifCond .eq 18, 3) := by decide +kernel
theorem dX6_requireZeroOrOne_4 : decode cX6_requireZeroOrOne 4 = .ok (.iload_n 0, 1) := by decide +kernel
theorem dX6_requireZeroOrOne_5 : decode cX6_requireZeroOrOne 5 = .ok (.iconst 1, 1) := by decide +kernel
theorem dX6_requireZeroOrOne_6 : decode cX6_requireZeroOrOne 6 = .ok (.if_icmp .eq 13, 3) := by decide +kernel
theorem dX6_requireZeroOrOne_9 : decode cX6_requireZeroOrOne 9 = .ok (.new 61, 3) := by decide +kernel
theorem dX6_requireZeroOrOne_12 : decode cX6_requireZeroOrOne 12 = .ok (.dup, 1) := by decide +kernel
theorem dX6_requireZeroOrOne_13 : decode cX6_requireZeroOrOne 13 = .ok (.ldc 247, 2) := by decide +kernel
theorem dX6_requireZeroOrOne_15 : decode cX6_requireZeroOrOne 15 = .ok (.invokespecial 65, 3) := by decide +kernel
theorem dX6_requireZeroOrOne_18 : decode cX6_requireZeroOrOne 18 = .ok (.athrow, 1) := by decide +kernel
theorem dX6_requireZeroOrOne_19 : decode cX6_requireZeroOrOne 19 = .ok (.return_, 1) := by decide +kernel
theorem dX6_requireBetween_0 : decode cX6_requireBetween 0 = .ok (.lload_n 0, 1) := by decide +kernel
theorem dX6_requireBetween_1 : decode cX6_requireBetween 1 = .ok (.lload_n 2, 1) := by decide +kernel
theorem dX6_requireBetween_2 : decode cX6_requireBetween 2 = .ok (.lcmp, 1) := by decide +kernel
theorem dX6_requireBetween_3 : decode cX6_requireBetween 3 = .ok (.ifCond .lt 10, 3) := by decide +kernel
theorem dX6_requireBetween_6 : decode cX6_requireBetween 6 = .ok (.lload_n 0, 1) := by decide +kernel
theorem dX6_requireBetween_7 : decode cX6_requireBetween 7 = .ok (.lload 4, 2) := by decide +kernel
theorem dX6_requireBetween_9 : decode cX6_requireBetween 9 = .ok (.lcmp, 1) := by decide +kernel
theorem dX6_requireBetween_10 : decode cX6_requireBetween 10 = .ok (.ifCond .le 13, 3) := by decide +kernel
theorem dX6_requireBetween_13 : decode cX6_requireBetween 13 = .ok (.new 61, 3) := by decide +kernel
theorem dX6_requireBetween_16 : decode cX6_requireBetween 16 = .ok (.dup, 1) := by decide +kernel
theorem dX6_requireBetween_17 : decode cX6_requireBetween 17 = .ok (.ldc 249, 2) := by decide +kernel
theorem dX6_requireBetween_19 : decode cX6_requireBetween 19 = .ok (.invokespecial 65, 3) := by decide +kernel
theorem dX6_requireBetween_22 : decode cX6_requireBetween 22 = .ok (.athrow, 1) := by decide +kernel
theorem dX6_requireBetween_23 : decode cX6_requireBetween 23 = .ok (.return_, 1) := by decide +kernel
theorem dX6_settle_0 : decode cX6_settle 0 = .ok (.iload_n 2, 1) := by decide +kernel
theorem dX6_settle_1 : decode cX6_settle 1 = .ok (.ifCond .ne 13, 3) := by decide +kernel
theorem dX6_settle_4 : decode cX6_settle 4 = .ok (.new 251, 3) := by decide +kernel
theorem dX6_settle_7 : decode cX6_settle 7 = .ok (.dup, 1) := by decide +kernel
theorem dX6_settle_8 : decode cX6_settle 8 = .ok (.ldc 253, 2) := by decide +kernel
theorem dX6_settle_10 : decode cX6_settle 10 = .ok (.invokespecial 255, 3) := by decide +kernel
theorem dX6_settle_13 : decode cX6_settle 13 = .ok (.athrow, 1) := by decide +kernel
theorem dX6_settle_14 : decode cX6_settle 14 = .ok (.aload_n 0, 1) := by decide +kernel
theorem dX6_settle_15 : decode cX6_settle 15 = .ok (.getfield 19, 3) := by decide +kernel
theorem dX6_settle_18 : decode cX6_settle 18 = .ok (.aload_n 0, 1) := by decide +kernel
theorem dX6_settle_19 : decode cX6_settle 19 = .ok (.getfield 10, 3) := by decide +kernel
theorem dX6_settle_22 : decode cX6_settle 22 = .ok (.invokevirtual 78, 3) := by decide +kernel
theorem dX6_settle_25 : decode cX6_settle 25 = .ok (.aload_n 0, 1) := by decide +kernel
theorem dX6_settle_26 : decode cX6_settle 26 = .ok (.getfield 10, 3) := by decide +kernel
theorem dX6_settle_29 : decode cX6_settle 29 = .ok (.iload_n 1, 1) := by decide +kernel
theorem dX6_settle_30 : decode cX6_settle 30 = .ok (.aload_n 0, 1) := by decide +kernel
theorem dX6_settle_31 : decode cX6_settle 31 = .ok (.getfield 40, 3) := by decide +kernel
theorem dX6_settle_34 : decode cX6_settle 34 = .ok (.invokevirtual 256, 3) := by decide +kernel
theorem dX6_settle_37 : decode cX6_settle 37 = .ok (.aload_n 0, 1) := by decide +kernel
theorem dX6_settle_38 : decode cX6_settle 38 = .ok (.getfield 40, 3) := by decide +kernel
theorem dX6_settle_41 : decode cX6_settle 41 = .ok (.invokevirtual 209, 3) := by decide +kernel
theorem dX6_settle_44 : decode cX6_settle 44 = .ok (.ireturn, 1) := by decide +kernel
theorem dX6_slotOf_0 : decode cX6_slotOf 0 = .ok (.iload_n 0, 1) := by decide +kernel
theorem dX6_slotOf_1 : decode cX6_slotOf 1 = .ok (.ifCond .lt 19, 3) := by decide +kernel
theorem dX6_slotOf_4 : decode cX6_slotOf 4 = .ok (.iload_n 1, 1) := by decide +kernel
theorem dX6_slotOf_5 : decode cX6_slotOf 5 = .ok (.ifCond .lt 15, 3) := by decide +kernel
theorem dX6_slotOf_8 : decode cX6_slotOf 8 = .ok (.iload_n 0, 1) := by decide +kernel
theorem dX6_slotOf_9 : decode cX6_slotOf 9 = .ok (.iconst 3, 1) := by decide +kernel
theorem dX6_slotOf_10 : decode cX6_slotOf 10 = .ok (.if_icmp .gt 10, 3) := by decide +kernel
theorem dX6_slotOf_13 : decode cX6_slotOf 13 = .ok (.iload_n 1, 1) := by decide +kernel
theorem dX6_slotOf_14 : decode cX6_slotOf 14 = .ok (.iconst 3, 1) := by decide +kernel
theorem dX6_slotOf_15 : decode cX6_slotOf 15 = .ok (.iload_n 0, 1) := by decide +kernel
theorem dX6_slotOf_16 : decode cX6_slotOf 16 = .ok (.isub, 1) := by decide +kernel
theorem dX6_slotOf_17 : decode cX6_slotOf 17 = .ok (.if_icmp .le 5, 3) := by decide +kernel
theorem dX6_slotOf_20 : decode cX6_slotOf 20 = .ok (.iconst (-1), 1) := by decide +kernel
theorem dX6_slotOf_21 : decode cX6_slotOf 21 = .ok (.ireturn, 1) := by decide +kernel
theorem dX6_slotOf_22 : decode cX6_slotOf 22 = .ok (.getstatic 260, 3) := by decide +kernel
theorem dX6_slotOf_25 : decode cX6_slotOf 25 = .ok (.iload_n 0, 1) := by decide +kernel
theorem dX6_slotOf_26 : decode cX6_slotOf 26 = .ok (.iaload, 1) := by decide +kernel
theorem dX6_slotOf_27 : decode cX6_slotOf 27 = .ok (.iload_n 1, 1) := by decide +kernel
theorem dX6_slotOf_28 : decode cX6_slotOf 28 = .ok (.iadd, 1) := by decide +kernel
theorem dX6_slotOf_29 : decode cX6_slotOf 29 = .ok (.ireturn, 1) := by decide +kernel
theorem dX6_lowestOf_0 : decode cX6_lowestOf 0 = .ok (.iload_n 0, 1) := by decide +kernel
theorem dX6_lowestOf_1 : decode cX6_lowestOf 1 = .ok (.ifCond .ne 9, 3) := by decide +kernel
theorem dX6_lowestOf_4 : decode cX6_lowestOf 4 = .ok (.iload_n 1, 1) := by decide +kernel
theorem dX6_lowestOf_5 : decode cX6_lowestOf 5 = .ok (.ifCond .ne 5, 3) := by decide +kernel
theorem dX6_lowestOf_8 : decode cX6_lowestOf 8 = .ok (.iconst 1, 1) := by decide +kernel
theorem dX6_lowestOf_9 : decode cX6_lowestOf 9 = .ok (.ireturn, 1) := by decide +kernel
theorem dX6_lowestOf_10 : decode cX6_lowestOf 10 = .ok (.iload_n 0, 1) := by decide +kernel
theorem dX6_lowestOf_11 : decode cX6_lowestOf 11 = .ok (.iconst 1, 1) := by decide +kernel
theorem dX6_lowestOf_12 : decode cX6_lowestOf 12 = .ok (.iand, 1) := by decide +kernel
theorem dX6_lowestOf_13 : decode cX6_lowestOf 13 = .ok (.ifCond .ne 13, 3) := by decide +kernel
theorem dX6_lowestOf_16 : decode cX6_lowestOf 16 = .ok (.iload_n 1, 1) := by decide +kernel
theorem dX6_lowestOf_17 : decode cX6_lowestOf 17 = .ok (.iconst 1, 1) := by decide +kernel
theorem dX6_lowestOf_18 : decode cX6_lowestOf 18 = .ok (.iand, 1) := by decide +kernel
theorem dX6_lowestOf_19 : decode cX6_lowestOf 19 = .ok (.ifCond .ne 7, 3) := by decide +kernel
theorem dX6_lowestOf_22 : decode cX6_lowestOf 22 = .ok (.iconst 0, 1) := by decide +kernel
theorem dX6_lowestOf_23 : decode cX6_lowestOf 23 = .ok (.goto 4, 3) := by decide +kernel
theorem dX6_lowestOf_26 : decode cX6_lowestOf 26 = .ok (.iconst (-1), 1) := by decide +kernel
theorem dX6_lowestOf_27 : decode cX6_lowestOf 27 = .ok (.ireturn, 1) := by decide +kernel
theorem dX6_rangeLow_0 : decode cX6_rangeLow 0 = .ok (.lload_n 0, 1) := by decide +kernel
theorem dX6_rangeLow_1 : decode cX6_rangeLow 1 = .ok (.iload_n 2, 1) := by decide +kernel
theorem dX6_rangeLow_2 : decode cX6_rangeLow 2 = .ok (.i2l, 1) := by decide +kernel
theorem dX6_rangeLow_3 : decode cX6_rangeLow 3 = .ok (.lmul, 1) := by decide +kernel
theorem dX6_rangeLow_4 : decode cX6_rangeLow 4 = .ok (.lload_n 0, 1) := by decide +kernel
theorem dX6_rangeLow_5 : decode cX6_rangeLow 5 = .ok (.invokestatic 264, 3) := by decide +kernel
theorem dX6_rangeLow_8 : decode cX6_rangeLow 8 = .ok (.lreturn, 1) := by decide +kernel
theorem dX6_rangeHigh_0 : decode cX6_rangeHigh 0 = .ok (.lload_n 0, 1) := by decide +kernel
theorem dX6_rangeHigh_1 : decode cX6_rangeHigh 1 = .ok (.iload_n 2, 1) := by decide +kernel
theorem dX6_rangeHigh_2 : decode cX6_rangeHigh 2 = .ok (.i2l, 1) := by decide +kernel
theorem dX6_rangeHigh_3 : decode cX6_rangeHigh 3 = .ok (.lmul, 1) := by decide +kernel
theorem dX6_rangeHigh_4 : decode cX6_rangeHigh 4 = .ok (.lload_n 0, 1) := by decide +kernel
theorem dX6_rangeHigh_5 : decode cX6_rangeHigh 5 = .ok (.invokestatic 267, 3) := by decide +kernel
theorem dX6_rangeHigh_8 : decode cX6_rangeHigh 8 = .ok (.lreturn, 1) := by decide +kernel
theorem dX7_init_0 : decode cX7_init 0 = .ok (.aload_n 0, 1) := by decide +kernel
theorem dX7_init_1 : decode cX7_init 1 = .ok (.invokespecial 3, 3) := by decide +kernel
theorem dX7_init_4 : decode cX7_init 4 = .ok (.aload_n 0, 1) := by decide +kernel
theorem dX7_init_5 : decode cX7_init 5 = .ok (.sipush 700, 3) := by decide +kernel
theorem dX7_init_8 : decode cX7_init 8 = .ok (.newarray .int, 2) := by decide +kernel
theorem dX7_init_10 : decode cX7_init 10 = .ok (.putfield 9, 3) := by decide +kernel
theorem dX7_init_13 : decode cX7_init 13 = .ok (.aload_n 0, 1) := by decide +kernel
theorem dX7_init_14 : decode cX7_init 14 = .ok (.iconst (-1), 1) := by decide +kernel
theorem dX7_init_15 : decode cX7_init 15 = .ok (.putfield 13, 3) := by decide +kernel
theorem dX7_init_18 : decode cX7_init 18 = .ok (.aload_n 0, 1) := by decide +kernel
theorem dX7_init_19 : decode cX7_init 19 = .ok (.bipush 97, 2) := by decide +kernel
theorem dX7_init_21 : decode cX7_init 21 = .ok (.newarray .int, 2) := by decide +kernel
theorem dX7_init_23 : decode cX7_init 23 = .ok (.putfield 17, 3) := by decide +kernel
theorem dX7_init_26 : decode cX7_init 26 = .ok (.aload_n 0, 1) := by decide +kernel
theorem dX7_init_27 : decode cX7_init 27 = .ok (.bipush 97, 2) := by decide +kernel
theorem dX7_init_29 : decode cX7_init 29 = .ok (.newarray .int, 2) := by decide +kernel
theorem dX7_init_31 : decode cX7_init 31 = .ok (.putfield 20, 3) := by decide +kernel
theorem dX7_init_34 : decode cX7_init 34 = .ok (.aload_n 0, 1) := by decide +kernel
theorem dX7_init_35 : decode cX7_init 35 = .ok (.bipush 8, 2) := by decide +kernel
theorem dX7_init_37 : decode cX7_init 37 = .ok (.bipush 97, 2) := by decide +kernel
theorem dX7_init_39 : decode cX7_init 39 = .ok (.multianewarray 23 2, 4) := by decide +kernel
theorem dX7_init_43 : decode cX7_init 43 = .ok (.putfield 25, 3) := by decide +kernel
theorem dX7_init_46 : decode cX7_init 46 = .ok (.aload_n 0, 1) := by decide +kernel
theorem dX7_init_47 : decode cX7_init 47 = .ok (.bipush 49, 2) := by decide +kernel
theorem dX7_init_49 : decode cX7_init 49 = .ok (.newarray .long, 2) := by decide +kernel
theorem dX7_init_51 : decode cX7_init 51 = .ok (.putfield 28, 3) := by decide +kernel
theorem dX7_init_54 : decode cX7_init 54 = .ok (.aload_n 0, 1) := by decide +kernel
theorem dX7_init_55 : decode cX7_init 55 = .ok (.bipush 12, 2) := by decide +kernel
theorem dX7_init_57 : decode cX7_init 57 = .ok (.newarray .long, 2) := by decide +kernel
theorem dX7_init_59 : decode cX7_init 59 = .ok (.putfield 32, 3) := by decide +kernel
theorem dX7_init_62 : decode cX7_init 62 = .ok (.aload_n 0, 1) := by decide +kernel
theorem dX7_init_63 : decode cX7_init 63 = .ok (.bipush 12, 2) := by decide +kernel
theorem dX7_init_65 : decode cX7_init 65 = .ok (.newarray .long, 2) := by decide +kernel
theorem dX7_init_67 : decode cX7_init 67 = .ok (.putfield 35, 3) := by decide +kernel
theorem dX7_init_70 : decode cX7_init 70 = .ok (.aload_n 0, 1) := by decide +kernel
theorem dX7_init_71 : decode cX7_init 71 = .ok (.bipush 12, 2) := by decide +kernel
theorem dX7_init_73 : decode cX7_init 73 = .ok (.newarray .long, 2) := by decide +kernel
theorem dX7_init_75 : decode cX7_init 75 = .ok (.putfield 38, 3) := by decide +kernel
theorem dX7_init_78 : decode cX7_init 78 = .ok (.aload_n 0, 1) := by decide +kernel
theorem dX7_init_79 : decode cX7_init 79 = .ok (.bipush 12, 2) := by decide +kernel
theorem dX7_init_81 : decode cX7_init 81 = .ok (.newarray .long, 2) := by decide +kernel
theorem dX7_init_83 : decode cX7_init 83 = .ok (.putfield 41, 3) := by decide +kernel
theorem dX7_init_86 : decode cX7_init 86 = .ok (.aload_n 0, 1) := by decide +kernel
theorem dX7_init_87 : decode cX7_init 87 = .ok (.bipush 6, 2) := by decide +kernel
theorem dX7_init_89 : decode cX7_init 89 = .ok (.bipush 12, 2) := by decide +kernel
theorem dX7_init_91 : decode cX7_init 91 = .ok (.multianewarray 44 2, 4) := by decide +kernel
theorem dX7_init_95 : decode cX7_init 95 = .ok (.putfield 46, 3) := by decide +kernel
theorem dX7_init_98 : decode cX7_init 98 = .ok (.aload_n 0, 1) := by decide +kernel
theorem dX7_init_99 : decode cX7_init 99 = .ok (.bipush 6, 2) := by decide +kernel
theorem dX7_init_101 : decode cX7_init 101 = .ok (.bipush 12, 2) := by decide +kernel
theorem dX7_init_103 : decode cX7_init 103 = .ok (.multianewarray 44 2, 4) := by decide +kernel
theorem dX7_init_107 : decode cX7_init 107 = .ok (.putfield 49, 3) := by decide +kernel
theorem dX7_init_110 : decode cX7_init 110 = .ok (.aload_n 0, 1) := by decide +kernel
theorem dX7_init_111 : decode cX7_init 111 = .ok (.bipush 6, 2) := by decide +kernel
theorem dX7_init_113 : decode cX7_init 113 = .ok (.bipush 12, 2) := by decide +kernel
theorem dX7_init_115 : decode cX7_init 115 = .ok (.multianewarray 44 2, 4) := by decide +kernel
theorem dX7_init_119 : decode cX7_init 119 = .ok (.putfield 52, 3) := by decide +kernel
theorem dX7_init_122 : decode cX7_init 122 = .ok (.aload_n 0, 1) := by decide +kernel
theorem dX7_init_123 : decode cX7_init 123 = .ok (.bipush 6, 2) := by decide +kernel
theorem dX7_init_125 : decode cX7_init 125 = .ok (.bipush 12, 2) := by decide +kernel
theorem dX7_init_127 : decode cX7_init 127 = .ok (.multianewarray 44 2, 4) := by decide +kernel
theorem dX7_init_131 : decode cX7_init 131 = .ok (.putfield 55, 3) := by decide +kernel
theorem dX7_init_134 : decode cX7_init 134 = .ok (.aload_n 0, 1) := by decide +kernel
theorem dX7_init_135 : decode cX7_init 135 = .ok (.bipush 12, 2) := by decide +kernel
theorem dX7_init_137 : decode cX7_init 137 = .ok (.newarray .long, 2) := by decide +kernel
theorem dX7_init_139 : decode cX7_init 139 = .ok (.putfield 58, 3) := by decide +kernel
theorem dX7_init_142 : decode cX7_init 142 = .ok (.aload_n 0, 1) := by decide +kernel
theorem dX7_init_143 : decode cX7_init 143 = .ok (.bipush 12, 2) := by decide +kernel
theorem dX7_init_145 : decode cX7_init 145 = .ok (.newarray .long, 2) := by decide +kernel
theorem dX7_init_147 : decode cX7_init 147 = .ok (.putfield 61, 3) := by decide +kernel
theorem dX7_init_150 : decode cX7_init 150 = .ok (.aload_n 0, 1) := by decide +kernel
theorem dX7_init_151 : decode cX7_init 151 = .ok (.bipush 12, 2) := by decide +kernel
theorem dX7_init_153 : decode cX7_init 153 = .ok (.newarray .long, 2) := by decide +kernel
theorem dX7_init_155 : decode cX7_init 155 = .ok (.putfield 64, 3) := by decide +kernel
theorem dX7_init_158 : decode cX7_init 158 = .ok (.aload_n 0, 1) := by decide +kernel
theorem dX7_init_159 : decode cX7_init 159 = .ok (.bipush 12, 2) := by decide +kernel
theorem dX7_init_161 : decode cX7_init 161 = .ok (.newarray .long, 2) := by decide +kernel
theorem dX7_init_163 : decode cX7_init 163 = .ok (.putfield 67, 3) := by decide +kernel
theorem dX7_init_166 : decode cX7_init 166 = .ok (.aload_n 0, 1) := by decide +kernel
theorem dX7_init_167 : decode cX7_init 167 = .ok (.bipush 12, 2) := by decide +kernel
theorem dX7_init_169 : decode cX7_init 169 = .ok (.newarray .long, 2) := by decide +kernel
theorem dX7_init_171 : decode cX7_init 171 = .ok (.putfield 70, 3) := by decide +kernel
theorem dX7_init_174 : decode cX7_init 174 = .ok (.aload_n 0, 1) := by decide +kernel
theorem dX7_init_175 : decode cX7_init 175 = .ok (.bipush 12, 2) := by decide +kernel
theorem dX7_init_177 : decode cX7_init 177 = .ok (.newarray .long, 2) := by decide +kernel
theorem dX7_init_179 : decode cX7_init 179 = .ok (.putfield 73, 3) := by decide +kernel
theorem dX7_init_182 : decode cX7_init 182 = .ok (.aload_n 0, 1) := by decide +kernel
theorem dX7_init_183 : decode cX7_init 183 = .ok (.bipush 12, 2) := by decide +kernel
theorem dX7_init_185 : decode cX7_init 185 = .ok (.newarray .long, 2) := by decide +kernel
theorem dX7_init_187 : decode cX7_init 187 = .ok (.putfield 76, 3) := by decide +kernel
theorem dX7_init_190 : decode cX7_init 190 = .ok (.return_, 1) := by decide +kernel
theorem dX7_thrown_0 : decode cX7_thrown 0 = .ok (.aload_n 0, 1) := by decide +kernel
theorem dX7_thrown_1 : decode cX7_thrown 1 = .ok (.getfield 79, 3) := by decide +kernel
theorem dX7_thrown_4 : decode cX7_thrown 4 = .ok (.ireturn, 1) := by decide +kernel
theorem dX7_fails_0 : decode cX7_fails 0 = .ok (.iload_n 1, 1) := by decide +kernel
theorem dX7_fails_1 : decode cX7_fails 1 = .ok (.ifCond .eq 15, 3) := by decide +kernel
theorem dX7_fails_4 : decode cX7_fails 4 = .ok (.aload_n 0, 1) := by decide +kernel
theorem dX7_fails_5 : decode cX7_fails 5 = .ok (.getfield 79, 3) := by decide +kernel
theorem dX7_fails_8 : decode cX7_fails 8 = .ok (.ifCond .ne 8, 3) := by decide +kernel
theorem dX7_fails_11 : decode cX7_fails 11 = .ok (.aload_n 0, 1) := by decide +kernel
theorem dX7_fails_12 : decode cX7_fails 12 = .ok (.iload_n 2, 1) := by decide +kernel
theorem dX7_fails_13 : decode cX7_fails 13 = .ok (.putfield 79, 3) := by decide +kernel
theorem dX7_fails_16 : decode cX7_fails 16 = .ok (.aload_n 0, 1) := by decide +kernel
theorem dX7_fails_17 : decode cX7_fails 17 = .ok (.getfield 79, 3) := by decide +kernel
theorem dX7_fails_20 : decode cX7_fails 20 = .ok (.ifCond .eq 7, 3) := by decide +kernel
theorem dX7_fails_23 : decode cX7_fails 23 = .ok (.iconst 1, 1) := by decide +kernel
theorem dX7_fails_24 : decode cX7_fails 24 = .ok (.goto 4, 3) := by decide +kernel
theorem dX7_fails_27 : decode cX7_fails 27 = .ok (.iconst 0, 1) := by decide +kernel
theorem dX7_fails_28 : decode cX7_fails 28 = .ok (.ireturn, 1) := by decide +kernel
theorem dX7_in_0 : decode cX7_in 0 = .ok (.iload_n 0, 1) := by decide +kernel
theorem dX7_in_1 : decode cX7_in 1 = .ok (.iload_n 1, 1) := by decide +kernel
theorem dX7_in_2 : decode cX7_in 2 = .ok (.if_icmp .lt 12, 3) := by decide +kernel
theorem dX7_in_5 : decode cX7_in 5 = .ok (.iload_n 0, 1) := by decide +kernel
theorem dX7_in_6 : decode cX7_in 6 = .ok (.iload_n 2, 1) := by decide +kernel
theorem dX7_in_7 : decode cX7_in 7 = .ok (.if_icmp .gt 7, 3) := by decide +kernel
theorem dX7_in_10 : decode cX7_in 10 = .ok (.iconst 1, 1) := by decide +kernel
theorem dX7_in_11 : decode cX7_in 11 = .ok (.goto 4, 3) := by decide +kernel
theorem dX7_in_14 : decode cX7_in 14 = .ok (.iconst 0, 1) := by decide +kernel
theorem dX7_in_15 : decode cX7_in 15 = .ok (.ireturn, 1) := by decide +kernel
theorem dX7_min_0 : decode cX7_min 0 = .ok (.iload_n 0, 1) := by decide +kernel
theorem dX7_min_1 : decode cX7_min 1 = .ok (.iload_n 1, 1) := by decide +kernel
theorem dX7_min_2 : decode cX7_min 2 = .ok (.if_icmp .ge 7, 3) := by decide +kernel
theorem dX7_min_5 : decode cX7_min 5 = .ok (.iload_n 0, 1) := by decide +kernel
theorem dX7_min_6 : decode cX7_min 6 = .ok (.goto 4, 3) := by decide +kernel
theorem dX7_min_9 : decode cX7_min 9 = .ok (.iload_n 1, 1) := by decide +kernel
theorem dX7_min_10 : decode cX7_min 10 = .ok (.ireturn, 1) := by decide +kernel
theorem dX7_copy_0 : decode cX7_copy 0 = .ok (.iconst 0, 1) := by decide +kernel
theorem dX7_copy_1 : decode cX7_copy 1 = .ok (.istore_n 2, 1) := by decide +kernel
theorem dX7_copy_2 : decode cX7_copy 2 = .ok (.iload_n 2, 1) := by decide +kernel
theorem dX7_copy_3 : decode cX7_copy 3 = .ok (.bipush 97, 2) := by decide +kernel
theorem dX7_copy_5 : decode cX7_copy 5 = .ok (.if_icmp .ge 15, 3) := by decide +kernel
theorem dX7_copy_8 : decode cX7_copy 8 = .ok (.aload_n 1, 1) := by decide +kernel
theorem dX7_copy_9 : decode cX7_copy 9 = .ok (.iload_n 2, 1) := by decide +kernel
theorem dX7_copy_10 : decode cX7_copy 10 = .ok (.aload_n 0, 1) := by decide +kernel
theorem dX7_copy_11 : decode cX7_copy 11 = .ok (.iload_n 2, 1) := by decide +kernel
theorem dX7_copy_12 : decode cX7_copy 12 = .ok (.iaload, 1) := by decide +kernel
theorem dX7_copy_13 : decode cX7_copy 13 = .ok (.iastore, 1) := by decide +kernel
theorem dX7_copy_14 : decode cX7_copy 14 = .ok (.iinc 2 1, 3) := by decide +kernel
theorem dX7_copy_17 : decode cX7_copy 17 = .ok (.goto (-15), 3) := by decide +kernel
theorem dX7_copy_20 : decode cX7_copy 20 = .ok (.return_, 1) := by decide +kernel
theorem dX7_clearRow_0 : decode cX7_clearRow 0 = .ok (.iconst 0, 1) := by decide +kernel
theorem dX7_clearRow_1 : decode cX7_clearRow 1 = .ok (.istore_n 1, 1) := by decide +kernel
theorem dX7_clearRow_2 : decode cX7_clearRow 2 = .ok (.iload_n 1, 1) := by decide +kernel
theorem dX7_clearRow_3 : decode cX7_clearRow 3 = .ok (.bipush 12, 2) := by decide +kernel
theorem dX7_clearRow_5 : decode cX7_clearRow 5 = .ok (.if_icmp .ge 13, 3) := by decide +kernel
theorem dX7_clearRow_8 : decode cX7_clearRow 8 = .ok (.aload_n 0, 1) := by decide +kernel
theorem dX7_clearRow_9 : decode cX7_clearRow 9 = .ok (.iload_n 1, 1) := by decide +kernel
theorem dX7_clearRow_10 : decode cX7_clearRow 10 = .ok (.lconst 0, 1) := by decide +kernel
theorem dX7_clearRow_11 : decode cX7_clearRow 11 = .ok (.lastore, 1) := by decide +kernel
theorem dX7_clearRow_12 : decode cX7_clearRow 12 = .ok (.iinc 1 1, 3) := by decide +kernel
theorem dX7_clearRow_15 : decode cX7_clearRow 15 = .ok (.goto (-13), 3) := by decide +kernel
theorem dX7_clearRow_18 : decode cX7_clearRow 18 = .ok (.return_, 1) := by decide +kernel
theorem dX7_copyRow_0 : decode cX7_copyRow 0 = .ok (.iconst 0, 1) := by decide +kernel
theorem dX7_copyRow_1 : decode cX7_copyRow 1 = .ok (.istore_n 2, 1) := by decide +kernel
theorem dX7_copyRow_2 : decode cX7_copyRow 2 = .ok (.iload_n 2, 1) := by decide +kernel
theorem dX7_copyRow_3 : decode cX7_copyRow 3 = .ok (.bipush 12, 2) := by decide +kernel
theorem dX7_copyRow_5 : decode cX7_copyRow 5 = .ok (.if_icmp .ge 15, 3) := by decide +kernel
theorem dX7_copyRow_8 : decode cX7_copyRow 8 = .ok (.aload_n 1, 1) := by decide +kernel
theorem dX7_copyRow_9 : decode cX7_copyRow 9 = .ok (.iload_n 2, 1) := by decide +kernel
theorem dX7_copyRow_10 : decode cX7_copyRow 10 = .ok (.aload_n 0, 1) := by decide +kernel
theorem dX7_copyRow_11 : decode cX7_copyRow 11 = .ok (.iload_n 2, 1) := by decide +kernel
theorem dX7_copyRow_12 : decode cX7_copyRow 12 = .ok (.laload, 1) := by decide +kernel
theorem dX7_copyRow_13 : decode cX7_copyRow 13 = .ok (.lastore, 1) := by decide +kernel
theorem dX7_copyRow_14 : decode cX7_copyRow 14 = .ok (.iinc 2 1, 3) := by decide +kernel
theorem dX7_copyRow_17 : decode cX7_copyRow 17 = .ok (.goto (-15), 3) := by decide +kernel
theorem dX7_copyRow_20 : decode cX7_copyRow 20 = .ok (.return_, 1) := by decide +kernel
theorem dX7_isDefined_0 : decode cX7_isDefined 0 = .ok (.aload_n 0, 1) := by decide +kernel
theorem dX7_isDefined_1 : decode cX7_isDefined 1 = .ok (.iconst 0, 1) := by decide +kernel
theorem dX7_isDefined_2 : decode cX7_isDefined 2 = .ok (.iaload, 1) := by decide +kernel
theorem dX7_isDefined_3 : decode cX7_isDefined 3 = .ok (.iload_n 1, 1) := by decide +kernel
theorem dX7_isDefined_4 : decode cX7_isDefined 4 = .ok (.ishr, 1) := by decide +kernel
theorem dX7_isDefined_5 : decode cX7_isDefined 5 = .ok (.iconst 1, 1) := by decide +kernel
theorem dX7_isDefined_6 : decode cX7_isDefined 6 = .ok (.iand, 1) := by decide +kernel
theorem dX7_isDefined_7 : decode cX7_isDefined 7 = .ok (.iconst 1, 1) := by decide +kernel
theorem dX7_isDefined_8 : decode cX7_isDefined 8 = .ok (.if_icmp .ne 7, 3) := by decide +kernel
theorem dX7_isDefined_11 : decode cX7_isDefined 11 = .ok (.iconst 1, 1) := by decide +kernel
theorem dX7_isDefined_12 : decode cX7_isDefined 12 = .ok (.goto 4, 3) := by decide +kernel
theorem dX7_isDefined_15 : decode cX7_isDefined 15 = .ok (.iconst 0, 1) := by decide +kernel
theorem dX7_isDefined_16 : decode cX7_isDefined 16 = .ok (.ireturn, 1) := by decide +kernel
theorem dX7_take_0 : decode cX7_take 0 = .ok (.iconst 0, 1) := by decide +kernel
theorem dX7_take_1 : decode cX7_take 1 = .ok (.istore_n 3, 1) := by decide +kernel
theorem dX7_take_2 : decode cX7_take 2 = .ok (.iload_n 3, 1) := by decide +kernel
theorem dX7_take_3 : decode cX7_take 3 = .ok (.bipush 12, 2) := by decide +kernel
theorem dX7_take_5 : decode cX7_take 5 = .ok (.if_icmp .ge 23, 3) := by decide +kernel
theorem dX7_take_8 : decode cX7_take 8 = .ok (.aload_n 2, 1) := by decide +kernel
theorem dX7_take_9 : decode cX7_take 9 = .ok (.iload_n 3, 1) := by decide +kernel
theorem dX7_take_10 : decode cX7_take 10 = .ok (.aload_n 0, 1) := by decide +kernel
theorem dX7_take_11 : decode cX7_take 11 = .ok (.iconst 1, 1) := by decide +kernel
theorem dX7_take_12 : decode cX7_take 12 = .ok (.bipush 12, 2) := by decide +kernel
theorem dX7_take_14 : decode cX7_take 14 = .ok (.iload_n 1, 1) := by decide +kernel
theorem dX7_take_15 : decode cX7_take 15 = .ok (.imul, 1) := by decide +kernel
theorem dX7_take_16 : decode cX7_take 16 = .ok (.iadd, 1) := by decide +kernel
theorem dX7_take_17 : decode cX7_take 17 = .ok (.iload_n 3, 1) := by decide +kernel
theorem dX7_take_18 : decode cX7_take 18 = .ok (.iadd, 1) := by decide +kernel
theorem dX7_take_19 : decode cX7_take 19 = .ok (.iaload, 1) := by decide +kernel
theorem dX7_take_20 : decode cX7_take 20 = .ok (.i2l, 1) := by decide +kernel
theorem dX7_take_21 : decode cX7_take 21 = .ok (.lastore, 1) := by decide +kernel
theorem dX7_take_22 : decode cX7_take 22 = .ok (.iinc 3 1, 3) := by decide +kernel
theorem dX7_take_25 : decode cX7_take 25 = .ok (.goto (-23), 3) := by decide +kernel
theorem dX7_take_28 : decode cX7_take 28 = .ok (.return_, 1) := by decide +kernel
theorem dX7_give_0 : decode cX7_give 0 = .ok (.iconst 0, 1) := by decide +kernel
theorem dX7_give_1 : decode cX7_give 1 = .ok (.istore_n 3, 1) := by decide +kernel
theorem dX7_give_2 : decode cX7_give 2 = .ok (.iload_n 3, 1) := by decide +kernel
theorem dX7_give_3 : decode cX7_give 3 = .ok (.bipush 12, 2) := by decide +kernel
theorem dX7_give_5 : decode cX7_give 5 = .ok (.if_icmp .ge 23, 3) := by decide +kernel
theorem dX7_give_8 : decode cX7_give 8 = .ok (.aload_n 1, 1) := by decide +kernel
theorem dX7_give_9 : decode cX7_give 9 = .ok (.iconst 1, 1) := by decide +kernel
theorem dX7_give_10 : decode cX7_give 10 = .ok (.bipush 12, 2) := by decide +kernel
theorem dX7_give_12 : decode cX7_give 12 = .ok (.iload_n 2, 1) := by decide +kernel
theorem dX7_give_13 : decode cX7_give 13 = .ok (.imul, 1) := by decide +kernel
theorem dX7_give_14 : decode cX7_give 14 = .ok (.iadd, 1) := by decide +kernel
theorem dX7_give_15 : decode cX7_give 15 = .ok (.iload_n 3, 1) := by decide +kernel
theorem dX7_give_16 : decode cX7_give 16 = .ok (.iadd, 1) := by decide +kernel
theorem dX7_give_17 : decode cX7_give 17 = .ok (.aload_n 0, 1) := by decide +kernel
theorem dX7_give_18 : decode cX7_give 18 = .ok (.iload_n 3, 1) := by decide +kernel
theorem dX7_give_19 : decode cX7_give 19 = .ok (.laload, 1) := by decide +kernel
theorem dX7_give_20 : decode cX7_give 20 = .ok (.l2i, 1) := by decide +kernel
theorem dX7_give_21 : decode cX7_give 21 = .ok (.iastore, 1) := by decide +kernel
theorem dX7_give_22 : decode cX7_give 22 = .ok (.iinc 3 1, 3) := by decide +kernel
theorem dX7_give_25 : decode cX7_give 25 = .ok (.goto (-23), 3) := by decide +kernel
theorem dX7_give_28 : decode cX7_give 28 = .ok (.aload_n 1, 1) := by decide +kernel
theorem dX7_give_29 : decode cX7_give 29 = .ok (.iconst 0, 1) := by decide +kernel
theorem dX7_give_30 : decode cX7_give 30 = .ok (.dup2, 1) := by decide +kernel
theorem dX7_give_31 : decode cX7_give 31 = .ok (.iaload, 1) := by decide +kernel
theorem dX7_give_32 : decode cX7_give 32 = .ok (.iconst 1, 1) := by decide +kernel
theorem dX7_give_33 : decode cX7_give 33 = .ok (.iload_n 2, 1) := by decide +kernel
theorem dX7_give_34 : decode cX7_give 34 = .ok (.ishl, 1) := by decide +kernel
theorem dX7_give_35 : decode cX7_give 35 = .ok (.ior, 1) := by decide +kernel
theorem dX7_give_36 : decode cX7_give 36 = .ok (.iastore, 1) := by decide +kernel
theorem dX7_give_37 : decode cX7_give 37 = .ok (.return_, 1) := by decide +kernel
theorem dX7_place_0 : decode cX7_place 0 = .ok (.iload_n 0, 1) := by decide +kernel
theorem dX7_place_1 : decode cX7_place 1 = .ok (.ifCond .ne 7, 3) := by decide +kernel
theorem dX7_place_4 : decode cX7_place 4 = .ok (.iload_n 1, 1) := by decide +kernel
theorem dX7_place_5 : decode cX7_place 5 = .ok (.goto 28, 3) := by decide +kernel
theorem dX7_place_8 : decode cX7_place 8 = .ok (.iload_n 0, 1) := by decide +kernel
theorem dX7_place_9 : decode cX7_place 9 = .ok (.iconst 1, 1) := by decide +kernel
theorem dX7_place_10 : decode cX7_place 10 = .ok (.if_icmp .ne 9, 3) := by decide +kernel
theorem dX7_place_13 : decode cX7_place 13 = .ok (.iconst 4, 1) := by decide +kernel
theorem dX7_place_14 : decode cX7_place 14 = .ok (.iload_n 1, 1) := by decide +kernel
theorem dX7_place_15 : decode cX7_place 15 = .ok (.iadd, 1) := by decide +kernel
theorem dX7_place_16 : decode cX7_place 16 = .ok (.goto 17, 3) := by decide +kernel
theorem dX7_place_19 : decode cX7_place 19 = .ok (.iload_n 0, 1) := by decide +kernel
theorem dX7_place_20 : decode cX7_place 20 = .ok (.iconst 2, 1) := by decide +kernel
theorem dX7_place_21 : decode cX7_place 21 = .ok (.if_icmp .ne 10, 3) := by decide +kernel
theorem dX7_place_24 : decode cX7_place 24 = .ok (.bipush 7, 2) := by decide +kernel
theorem dX7_place_26 : decode cX7_place 26 = .ok (.iload_n 1, 1) := by decide +kernel
theorem dX7_place_27 : decode cX7_place 27 = .ok (.iadd, 1) := by decide +kernel
theorem dX7_place_28 : decode cX7_place 28 = .ok (.goto 5, 3) := by decide +kernel
theorem dX7_place_31 : decode cX7_place 31 = .ok (.bipush 9, 2) := by decide +kernel
theorem dX7_place_33 : decode cX7_place 33 = .ok (.ireturn, 1) := by decide +kernel
theorem dX7_iOf_0 : decode cX7_iOf 0 = .ok (.iload_n 0, 1) := by decide +kernel
theorem dX7_iOf_1 : decode cX7_iOf 1 = .ok (.iconst 4, 1) := by decide +kernel
theorem dX7_iOf_2 : decode cX7_iOf 2 = .ok (.if_icmp .ge 7, 3) := by decide +kernel
theorem dX7_iOf_5 : decode cX7_iOf 5 = .ok (.iconst 0, 1) := by decide +kernel
theorem dX7_iOf_6 : decode cX7_iOf 6 = .ok (.goto 24, 3) := by decide +kernel
theorem dX7_iOf_9 : decode cX7_iOf 9 = .ok (.iload_n 0, 1) := by decide +kernel
theorem dX7_iOf_10 : decode cX7_iOf 10 = .ok (.bipush 7, 2) := by decide +kernel
theorem dX7_iOf_12 : decode cX7_iOf 12 = .ok (.if_icmp .ge 7, 3) := by decide +kernel
theorem dX7_iOf_15 : decode cX7_iOf 15 = .ok (.iconst 1, 1) := by decide +kernel
theorem dX7_iOf_16 : decode cX7_iOf 16 = .ok (.goto 14, 3) := by decide +kernel
theorem dX7_iOf_19 : decode cX7_iOf 19 = .ok (.iload_n 0, 1) := by decide +kernel
theorem dX7_iOf_20 : decode cX7_iOf 20 = .ok (.bipush 9, 2) := by decide +kernel
theorem dX7_iOf_22 : decode cX7_iOf 22 = .ok (.if_icmp .ge 7, 3) := by decide +kernel
theorem dX7_iOf_25 : decode cX7_iOf 25 = .ok (.iconst 2, 1) := by decide +kernel
theorem dX7_iOf_26 : decode cX7_iOf 26 = .ok (.goto 4, 3) := by decide +kernel
theorem dX7_iOf_29 : decode cX7_iOf 29 = .ok (.iconst 3, 1) := by decide +kernel
theorem dX7_iOf_30 : decode cX7_iOf 30 = .ok (.ireturn, 1) := by decide +kernel
theorem dX7_jOf_0 : decode cX7_jOf 0 = .ok (.iload_n 0, 1) := by decide +kernel
theorem dX7_jOf_1 : decode cX7_jOf 1 = .ok (.iconst 4, 1) := by decide +kernel
theorem dX7_jOf_2 : decode cX7_jOf 2 = .ok (.if_icmp .ge 7, 3) := by decide +kernel
theorem dX7_jOf_5 : decode cX7_jOf 5 = .ok (.iload_n 0, 1) := by decide +kernel
theorem dX7_jOf_6 : decode cX7_jOf 6 = .ok (.goto 29, 3) := by decide +kernel
theorem dX7_jOf_9 : decode cX7_jOf 9 = .ok (.iload_n 0, 1) := by decide +kernel
theorem dX7_jOf_10 : decode cX7_jOf 10 = .ok (.bipush 7, 2) := by decide +kernel
theorem dX7_jOf_12 : decode cX7_jOf 12 = .ok (.if_icmp .ge 9, 3) := by decide +kernel
theorem dX7_jOf_15 : decode cX7_jOf 15 = .ok (.iload_n 0, 1) := by decide +kernel
theorem dX7_jOf_16 : decode cX7_jOf 16 = .ok (.iconst 4, 1) := by decide +kernel
theorem dX7_jOf_17 : decode cX7_jOf 17 = .ok (.isub, 1) := by decide +kernel
theorem dX7_jOf_18 : decode cX7_jOf 18 = .ok (.goto 17, 3) := by decide +kernel
theorem dX7_jOf_21 : decode cX7_jOf 21 = .ok (.iload_n 0, 1) := by decide +kernel
theorem dX7_jOf_22 : decode cX7_jOf 22 = .ok (.bipush 9, 2) := by decide +kernel
theorem dX7_jOf_24 : decode cX7_jOf 24 = .ok (.if_icmp .ge 10, 3) := by decide +kernel
theorem dX7_jOf_27 : decode cX7_jOf 27 = .ok (.iload_n 0, 1) := by decide +kernel
theorem dX7_jOf_28 : decode cX7_jOf 28 = .ok (.bipush 7, 2) := by decide +kernel
theorem dX7_jOf_30 : decode cX7_jOf 30 = .ok (.isub, 1) := by decide +kernel
theorem dX7_jOf_31 : decode cX7_jOf 31 = .ok (.goto 4, 3) := by decide +kernel
theorem dX7_jOf_34 : decode cX7_jOf 34 = .ok (.iconst 0, 1) := by decide +kernel
theorem dX7_jOf_35 : decode cX7_jOf 35 = .ok (.ireturn, 1) := by decide +kernel
theorem dX7_smaller_0 : decode cX7_smaller 0 = .ok (.lload_n 0, 1) := by decide +kernel
theorem dX7_smaller_1 : decode cX7_smaller 1 = .ok (.lload_n 2, 1) := by decide +kernel
theorem dX7_smaller_2 : decode cX7_smaller 2 = .ok (.lcmp, 1) := by decide +kernel
theorem dX7_smaller_3 : decode cX7_smaller 3 = .ok (.ifCond .ge 7, 3) := by decide +kernel
theorem dX7_smaller_6 : decode cX7_smaller 6 = .ok (.lload_n 0, 1) := by decide +kernel
theorem dX7_smaller_7 : decode cX7_smaller 7 = .ok (.goto 4, 3) := by decide +kernel
theorem dX7_smaller_10 : decode cX7_smaller 10 = .ok (.lload_n 2, 1) := by decide +kernel
theorem dX7_smaller_11 : decode cX7_smaller 11 = .ok (.lreturn, 1) := by decide +kernel
theorem dX7_greater_0 : decode cX7_greater 0 = .ok (.lload_n 0, 1) := by decide +kernel
theorem dX7_greater_1 : decode cX7_greater 1 = .ok (.lload_n 2, 1) := by decide +kernel
theorem dX7_greater_2 : decode cX7_greater 2 = .ok (.lcmp, 1) := by decide +kernel
theorem dX7_greater_3 : decode cX7_greater 3 = .ok (.ifCond .le 7, 3) := by decide +kernel
theorem dX7_greater_6 : decode cX7_greater 6 = .ok (.lload_n 0, 1) := by decide +kernel
theorem dX7_greater_7 : decode cX7_greater 7 = .ok (.goto 4, 3) := by decide +kernel
theorem dX7_greater_10 : decode cX7_greater 10 = .ok (.lload_n 2, 1) := by decide +kernel
theorem dX7_greater_11 : decode cX7_greater 11 = .ok (.lreturn, 1) := by decide +kernel
theorem dX7_down_0 : decode cX7_down 0 = .ok (.lload_n 0, 1) := by decide +kernel
theorem dX7_down_1 : decode cX7_down 1 = .ok (.lconst 0, 1) := by decide +kernel
theorem dX7_down_2 : decode cX7_down 2 = .ok (.lcmp, 1) := by decide +kernel
theorem dX7_down_3 : decode cX7_down 3 = .ok (.ifCond .lt 9, 3) := by decide +kernel
theorem dX7_down_6 : decode cX7_down 6 = .ok (.lload_n 0, 1) := by decide +kernel
theorem dX7_down_7 : decode cX7_down 7 = .ok (.lload_n 2, 1) := by decide +kernel
theorem dX7_down_8 : decode cX7_down 8 = .ok (.ldiv, 1) := by decide +kernel
theorem dX7_down_9 : decode cX7_down 9 = .ok (.goto 11, 3) := by decide +kernel
theorem dX7_down_12 : decode cX7_down 12 = .ok (.lload_n 2, 1) := by decide +kernel
theorem dX7_down_13 : decode cX7_down 13 = .ok (.lconst 1, 1) := by decide +kernel
theorem dX7_down_14 : decode cX7_down 14 = .ok (.lsub, 1) := by decide +kernel
theorem dX7_down_15 : decode cX7_down 15 = .ok (.lload_n 0, 1) := by decide +kernel
theorem dX7_down_16 : decode cX7_down 16 = .ok (.lsub, 1) := by decide +kernel
theorem dX7_down_17 : decode cX7_down 17 = .ok (.lload_n 2, 1) := by decide +kernel
theorem dX7_down_18 : decode cX7_down 18 = .ok (.ldiv, 1) := by decide +kernel
theorem dX7_down_19 : decode cX7_down 19 = .ok (.lneg, 1) := by decide +kernel
theorem dX7_down_20 : decode cX7_down 20 = .ok (.lreturn, 1) := by decide +kernel
theorem dX7_up_0 : decode cX7_up 0 = .ok (.lload_n 0, 1) := by decide +kernel
theorem dX7_up_1 : decode cX7_up 1 = .ok (.lneg, 1) := by decide +kernel
theorem dX7_up_2 : decode cX7_up 2 = .ok (.lload_n 2, 1) := by decide +kernel
theorem dX7_up_3 : decode cX7_up 3 = .ok (.invokestatic 82, 3) := by decide +kernel
theorem dX7_up_6 : decode cX7_up 6 = .ok (.lneg, 1) := by decide +kernel
theorem dX7_up_7 : decode cX7_up 7 = .ok (.lreturn, 1) := by decide +kernel
theorem dX7_low_0 : decode cX7_low 0 = .ok (.iload_n 2, 1) := by decide +kernel
theorem dX7_low_1 : decode cX7_low 1 = .ok (.ifCond .ne 11, 3) := by decide +kernel
theorem dX7_low_4 : decode cX7_low 4 = .ok (.iload_n 3, 1) := by decide +kernel
theorem dX7_low_5 : decode cX7_low 5 = .ok (.ifCond .ne 7, 3) := by decide +kernel
theorem dX7_low_8 : decode cX7_low 8 = .ok (.lload_n 0, 1) := by decide +kernel
theorem dX7_low_9 : decode cX7_low 9 = .ok (.goto 29, 3) := by decide +kernel
theorem dX7_low_12 : decode cX7_low 12 = .ok (.iload_n 2, 1) := by decide +kernel
theorem dX7_low_13 : decode cX7_low 13 = .ok (.iconst 2, 1) := by decide +kernel
theorem dX7_low_14 : decode cX7_low 14 = .ok (.irem, 1) := by decide +kernel
theorem dX7_low_15 : decode cX7_low 15 = .ok (.ifCond .ne 17, 3) := by decide +kernel
theorem dX7_low_18 : decode cX7_low 18 = .ok (.iload_n 3, 1) := by decide +kernel
theorem dX7_low_19 : decode cX7_low 19 = .ok (.iconst 2, 1) := by decide +kernel
theorem dX7_low_20 : decode cX7_low 20 = .ok (.irem, 1) := by decide +kernel
theorem dX7_low_21 : decode cX7_low 21 = .ok (.ifCond .ne 11, 3) := by decide +kernel
theorem dX7_low_24 : decode cX7_low 24 = .ok (.lload_n 0, 1) := by decide +kernel
theorem dX7_low_25 : decode cX7_low 25 = .ok (.lconst 0, 1) := by decide +kernel
theorem dX7_low_26 : decode cX7_low 26 = .ok (.invokestatic 86, 3) := by decide +kernel
theorem dX7_low_29 : decode cX7_low 29 = .ok (.goto 9, 3) := by decide +kernel
theorem dX7_low_32 : decode cX7_low 32 = .ok (.lload_n 0, 1) := by decide +kernel
theorem dX7_low_33 : decode cX7_low 33 = .ok (.lload_n 0, 1) := by decide +kernel
theorem dX7_low_34 : decode cX7_low 34 = .ok (.lneg, 1) := by decide +kernel
theorem dX7_low_35 : decode cX7_low 35 = .ok (.invokestatic 86, 3) := by decide +kernel
theorem dX7_low_38 : decode cX7_low 38 = .ok (.lreturn, 1) := by decide +kernel
theorem dX7_high_0 : decode cX7_high 0 = .ok (.lload_n 0, 1) := by decide +kernel
theorem dX7_high_1 : decode cX7_high 1 = .ok (.lneg, 1) := by decide +kernel
theorem dX7_high_2 : decode cX7_high 2 = .ok (.iload_n 2, 1) := by decide +kernel
theorem dX7_high_3 : decode cX7_high 3 = .ok (.iload_n 3, 1) := by decide +kernel
theorem dX7_high_4 : decode cX7_high 4 = .ok (.invokestatic 89, 3) := by decide +kernel
theorem dX7_high_7 : decode cX7_high 7 = .ok (.lneg, 1) := by decide +kernel
theorem dX7_high_8 : decode cX7_high 8 = .ok (.lreturn, 1) := by decide +kernel
theorem dX7_spreadLow_0 : decode cX7_spreadLow 0 = .ok (.lconst 0, 1) := by decide +kernel
theorem dX7_spreadLow_1 : decode cX7_spreadLow 1 = .ok (.lstore_n 1, 1) := by decide +kernel
theorem dX7_spreadLow_2 : decode cX7_spreadLow 2 = .ok (.iconst 0, 1) := by decide +kernel
theorem dX7_spreadLow_3 : decode cX7_spreadLow 3 = .ok (.istore_n 3, 1) := by decide +kernel
theorem dX7_spreadLow_4 : decode cX7_spreadLow 4 = .ok (.iload_n 3, 1) := by decide +kernel
theorem dX7_spreadLow_5 : decode cX7_spreadLow 5 = .ok (.bipush 10, 2) := by decide +kernel
theorem dX7_spreadLow_7 : decode cX7_spreadLow 7 = .ok (.if_icmp .ge 26, 3) := by decide +kernel
theorem dX7_spreadLow_10 : decode cX7_spreadLow 10 = .ok (.lload_n 1, 1) := by decide +kernel
theorem dX7_spreadLow_11 : decode cX7_spreadLow 11 = .ok (.aload_n 0, 1) := by decide +kernel
theorem dX7_spreadLow_12 : decode cX7_spreadLow 12 = .ok (.iload_n 3, 1) := by decide +kernel
theorem dX7_spreadLow_13 : decode cX7_spreadLow 13 = .ok (.laload, 1) := by decide +kernel
theorem dX7_spreadLow_14 : decode cX7_spreadLow 14 = .ok (.iload_n 3, 1) := by decide +kernel
theorem dX7_spreadLow_15 : decode cX7_spreadLow 15 = .ok (.invokestatic 93, 3) := by decide +kernel
theorem dX7_spreadLow_18 : decode cX7_spreadLow 18 = .ok (.iload_n 3, 1) := by decide +kernel
theorem dX7_spreadLow_19 : decode cX7_spreadLow 19 = .ok (.invokestatic 97, 3) := by decide +kernel
theorem dX7_spreadLow_22 : decode cX7_spreadLow 22 = .ok (.invokestatic 89, 3) := by decide +kernel
theorem dX7_spreadLow_25 : decode cX7_spreadLow 25 = .ok (.ladd, 1) := by decide +kernel
theorem dX7_spreadLow_26 : decode cX7_spreadLow 26 = .ok (.lstore_n 1, 1) := by decide +kernel
theorem dX7_spreadLow_27 : decode cX7_spreadLow 27 = .ok (.iinc 3 1, 3) := by decide +kernel
theorem dX7_spreadLow_30 : decode cX7_spreadLow 30 = .ok (.goto (-26), 3) := by decide +kernel
theorem dX7_spreadLow_33 : decode cX7_spreadLow 33 = .ok (.lload_n 1, 1) := by decide +kernel
theorem dX7_spreadLow_34 : decode cX7_spreadLow 34 = .ok (.lreturn, 1) := by decide +kernel
theorem dX7_spreadHigh_0 : decode cX7_spreadHigh 0 = .ok (.lconst 0, 1) := by decide +kernel
theorem dX7_spreadHigh_1 : decode cX7_spreadHigh 1 = .ok (.lstore_n 1, 1) := by decide +kernel
theorem dX7_spreadHigh_2 : decode cX7_spreadHigh 2 = .ok (.iconst 0, 1) := by decide +kernel
theorem dX7_spreadHigh_3 : decode cX7_spreadHigh 3 = .ok (.istore_n 3, 1) := by decide +kernel
theorem dX7_spreadHigh_4 : decode cX7_spreadHigh 4 = .ok (.iload_n 3, 1) := by decide +kernel
theorem dX7_spreadHigh_5 : decode cX7_spreadHigh 5 = .ok (.bipush 10, 2) := by decide +kernel
theorem dX7_spreadHigh_7 : decode cX7_spreadHigh 7 = .ok (.if_icmp .ge 26, 3) := by decide +kernel
theorem dX7_spreadHigh_10 : decode cX7_spreadHigh 10 = .ok (.lload_n 1, 1) := by decide +kernel
theorem dX7_spreadHigh_11 : decode cX7_spreadHigh 11 = .ok (.aload_n 0, 1) := by decide +kernel
theorem dX7_spreadHigh_12 : decode cX7_spreadHigh 12 = .ok (.iload_n 3, 1) := by decide +kernel
theorem dX7_spreadHigh_13 : decode cX7_spreadHigh 13 = .ok (.laload, 1) := by decide +kernel
theorem dX7_spreadHigh_14 : decode cX7_spreadHigh 14 = .ok (.iload_n 3, 1) := by decide +kernel
theorem dX7_spreadHigh_15 : decode cX7_spreadHigh 15 = .ok (.invokestatic 93, 3) := by decide +kernel
theorem dX7_spreadHigh_18 : decode cX7_spreadHigh 18 = .ok (.iload_n 3, 1) := by decide +kernel
theorem dX7_spreadHigh_19 : decode cX7_spreadHigh 19 = .ok (.invokestatic 97, 3) := by decide +kernel
theorem dX7_spreadHigh_22 : decode cX7_spreadHigh 22 = .ok (.invokestatic 100, 3) := by decide +kernel
theorem dX7_spreadHigh_25 : decode cX7_spreadHigh 25 = .ok (.ladd, 1) := by decide +kernel
theorem dX7_spreadHigh_26 : decode cX7_spreadHigh 26 = .ok (.lstore_n 1, 1) := by decide +kernel
theorem dX7_spreadHigh_27 : decode cX7_spreadHigh 27 = .ok (.iinc 3 1, 3) := by decide +kernel
theorem dX7_spreadHigh_30 : decode cX7_spreadHigh 30 = .ok (.goto (-26), 3) := by decide +kernel
theorem dX7_spreadHigh_33 : decode cX7_spreadHigh 33 = .ok (.lload_n 1, 1) := by decide +kernel
theorem dX7_spreadHigh_34 : decode cX7_spreadHigh 34 = .ok (.lreturn, 1) := by decide +kernel
theorem dX7_isSmall_0 : decode cX7_isSmall 0 = .ok (.iconst 1, 1) := by decide +kernel
theorem dX7_isSmall_1 : decode cX7_isSmall 1 = .ok (.istore_n 1, 1) := by decide +kernel
theorem dX7_isSmall_2 : decode cX7_isSmall 2 = .ok (.iconst 0, 1) := by decide +kernel
theorem dX7_isSmall_3 : decode cX7_isSmall 3 = .ok (.istore_n 2, 1) := by decide +kernel
theorem dX7_isSmall_4 : decode cX7_isSmall 4 = .ok (.iload_n 2, 1) := by decide +kernel
theorem dX7_isSmall_5 : decode cX7_isSmall 5 = .ok (.bipush 12, 2) := by decide +kernel
theorem dX7_isSmall_7 : decode cX7_isSmall 7 = .ok (.if_icmp .ge 37, 3) := by decide +kernel
theorem dX7_isSmall_10 : decode cX7_isSmall 10 = .ok (.iload_n 1, 1) := by decide +kernel
theorem dX7_isSmall_11 : decode cX7_isSmall 11 = .ok (.aload_n 0, 1) := by decide +kernel
theorem dX7_isSmall_12 : decode cX7_isSmall 12 = .ok (.iload_n 2, 1) := by decide +kernel
theorem dX7_isSmall_13 : decode cX7_isSmall 13 = .ok (.laload, 1) := by decide +kernel
theorem dX7_isSmall_14 : decode cX7_isSmall 14 = .ok (.ldc2_w 103, 3) := by decide +kernel
theorem dX7_isSmall_17 : decode cX7_isSmall 17 = .ok (.lcmp, 1) := by decide +kernel
theorem dX7_isSmall_18 : decode cX7_isSmall 18 = .ok (.ifCond .lt 17, 3) := by decide +kernel
theorem dX7_isSmall_21 : decode cX7_isSmall 21 = .ok (.aload_n 0, 1) := by decide +kernel
theorem dX7_isSmall_22 : decode cX7_isSmall 22 = .ok (.iload_n 2, 1) := by decide +kernel
theorem dX7_isSmall_23 : decode cX7_isSmall 23 = .ok (.laload, 1) := by decide +kernel
theorem dX7_isSmall_24 : decode cX7_isSmall 24 = .ok (.ldc2_w 105, 3) := by decide +kernel
theorem dX7_isSmall_27 : decode cX7_isSmall 27 = .ok (.lcmp, 1) := by decide +kernel
theorem dX7_isSmall_28 : decode cX7_isSmall 28 = .ok (.ifCond .gt 7, 3) := by decide +kernel
theorem dX7_isSmall_31 : decode cX7_isSmall 31 = .ok (.iconst 1, 1) := by decide +kernel
theorem dX7_isSmall_32 : decode cX7_isSmall 32 = .ok (.goto 4, 3) := by decide +kernel
theorem dX7_isSmall_35 : decode cX7_isSmall 35 = .ok (.iconst 0, 1) := by decide +kernel
theorem dX7_isSmall_36 : decode cX7_isSmall 36 = .ok (.iand, 1) := by decide +kernel
theorem dX7_isSmall_37 : decode cX7_isSmall 37 = .ok (.istore_n 1, 1) := by decide +kernel
theorem dX7_isSmall_38 : decode cX7_isSmall 38 = .ok (.iinc 2 1, 3) := by decide +kernel
theorem dX7_isSmall_41 : decode cX7_isSmall 41 = .ok (.goto (-37), 3) := by decide +kernel
theorem dX7_isSmall_44 : decode cX7_isSmall 44 = .ok (.iload_n 1, 1) := by decide +kernel
theorem dX7_isSmall_45 : decode cX7_isSmall 45 = .ok (.ireturn, 1) := by decide +kernel
theorem dX7_isWithin_0 : decode cX7_isWithin 0 = .ok (.aload_n 0, 1) := by decide +kernel
theorem dX7_isWithin_1 : decode cX7_isWithin 1 = .ok (.invokestatic 107, 3) := by decide +kernel
theorem dX7_isWithin_4 : decode cX7_isWithin 4 = .ok (.aload_n 0, 1) := by decide +kernel
theorem dX7_isWithin_5 : decode cX7_isWithin 5 = .ok (.bipush 10, 2) := by decide +kernel
theorem dX7_isWithin_7 : decode cX7_isWithin 7 = .ok (.laload, 1) := by decide +kernel
theorem dX7_isWithin_8 : decode cX7_isWithin 8 = .ok (.ladd, 1) := by decide +kernel
theorem dX7_isWithin_9 : decode cX7_isWithin 9 = .ok (.ldc2_w 111, 3) := by decide +kernel
theorem dX7_isWithin_12 : decode cX7_isWithin 12 = .ok (.lcmp, 1) := by decide +kernel
theorem dX7_isWithin_13 : decode cX7_isWithin 13 = .ok (.ifCond .lt 23, 3) := by decide +kernel
theorem dX7_isWithin_16 : decode cX7_isWithin 16 = .ok (.aload_n 0, 1) := by decide +kernel
theorem dX7_isWithin_17 : decode cX7_isWithin 17 = .ok (.invokestatic 113, 3) := by decide +kernel
theorem dX7_isWithin_20 : decode cX7_isWithin 20 = .ok (.aload_n 0, 1) := by decide +kernel
theorem dX7_isWithin_21 : decode cX7_isWithin 21 = .ok (.bipush 11, 2) := by decide +kernel
theorem dX7_isWithin_23 : decode cX7_isWithin 23 = .ok (.laload, 1) := by decide +kernel
theorem dX7_isWithin_24 : decode cX7_isWithin 24 = .ok (.ladd, 1) := by decide +kernel
theorem dX7_isWithin_25 : decode cX7_isWithin 25 = .ok (.ldc2_w 116, 3) := by decide +kernel
theorem dX7_isWithin_28 : decode cX7_isWithin 28 = .ok (.lcmp, 1) := by decide +kernel
theorem dX7_isWithin_29 : decode cX7_isWithin 29 = .ok (.ifCond .gt 7, 3) := by decide +kernel
theorem dX7_isWithin_32 : decode cX7_isWithin 32 = .ok (.iconst 1, 1) := by decide +kernel
theorem dX7_isWithin_33 : decode cX7_isWithin 33 = .ok (.goto 4, 3) := by decide +kernel
theorem dX7_isWithin_36 : decode cX7_isWithin 36 = .ok (.iconst 0, 1) := by decide +kernel
theorem dX7_isWithin_37 : decode cX7_isWithin 37 = .ok (.ireturn, 1) := by decide +kernel
theorem dX7_sumOf_0 : decode cX7_sumOf 0 = .ok (.aload_n 0, 1) := by decide +kernel
theorem dX7_sumOf_1 : decode cX7_sumOf 1 = .ok (.bipush 10, 2) := by decide +kernel
theorem dX7_sumOf_3 : decode cX7_sumOf 3 = .ok (.laload, 1) := by decide +kernel
theorem dX7_sumOf_4 : decode cX7_sumOf 4 = .ok (.iload_n 2, 1) := by decide +kernel
theorem dX7_sumOf_5 : decode cX7_sumOf 5 = .ok (.ifCond .le 10, 3) := by decide +kernel
theorem dX7_sumOf_8 : decode cX7_sumOf 8 = .ok (.aload_n 1, 1) := by decide +kernel
theorem dX7_sumOf_9 : decode cX7_sumOf 9 = .ok (.bipush 10, 2) := by decide +kernel
theorem dX7_sumOf_11 : decode cX7_sumOf 11 = .ok (.laload, 1) := by decide +kernel
theorem dX7_sumOf_12 : decode cX7_sumOf 12 = .ok (.goto 8, 3) := by decide +kernel
theorem dX7_sumOf_15 : decode cX7_sumOf 15 = .ok (.aload_n 1, 1) := by decide +kernel
theorem dX7_sumOf_16 : decode cX7_sumOf 16 = .ok (.bipush 11, 2) := by decide +kernel
theorem dX7_sumOf_18 : decode cX7_sumOf 18 = .ok (.laload, 1) := by decide +kernel
theorem dX7_sumOf_19 : decode cX7_sumOf 19 = .ok (.lneg, 1) := by decide +kernel
theorem dX7_sumOf_20 : decode cX7_sumOf 20 = .ok (.ladd, 1) := by decide +kernel
theorem dX7_sumOf_21 : decode cX7_sumOf 21 = .ok (.lstore 4, 2) := by decide +kernel
theorem dX7_sumOf_23 : decode cX7_sumOf 23 = .ok (.aload_n 0, 1) := by decide +kernel
theorem dX7_sumOf_24 : decode cX7_sumOf 24 = .ok (.bipush 11, 2) := by decide +kernel
theorem dX7_sumOf_26 : decode cX7_sumOf 26 = .ok (.laload, 1) := by decide +kernel
theorem dX7_sumOf_27 : decode cX7_sumOf 27 = .ok (.iload_n 2, 1) := by decide +kernel
theorem dX7_sumOf_28 : decode cX7_sumOf 28 = .ok (.ifCond .le 10, 3) := by decide +kernel
theorem dX7_sumOf_31 : decode cX7_sumOf 31 = .ok (.aload_n 1, 1) := by decide +kernel
theorem dX7_sumOf_32 : decode cX7_sumOf 32 = .ok (.bipush 11, 2) := by decide +kernel
theorem dX7_sumOf_34 : decode cX7_sumOf 34 = .ok (.laload, 1) := by decide +kernel
theorem dX7_sumOf_35 : decode cX7_sumOf 35 = .ok (.goto 8, 3) := by decide +kernel
theorem dX7_sumOf_38 : decode cX7_sumOf 38 = .ok (.aload_n 1, 1) := by decide +kernel
theorem dX7_sumOf_39 : decode cX7_sumOf 39 = .ok (.bipush 10, 2) := by decide +kernel
theorem dX7_sumOf_41 : decode cX7_sumOf 41 = .ok (.laload, 1) := by decide +kernel
theorem dX7_sumOf_42 : decode cX7_sumOf 42 = .ok (.lneg, 1) := by decide +kernel
theorem dX7_sumOf_43 : decode cX7_sumOf 43 = .ok (.ladd, 1) := by decide +kernel
theorem dX7_sumOf_44 : decode cX7_sumOf 44 = .ok (.lstore 6, 2) := by decide +kernel
theorem dX7_sumOf_46 : decode cX7_sumOf 46 = .ok (.iconst 0, 1) := by decide +kernel
theorem dX7_sumOf_47 : decode cX7_sumOf 47 = .ok (.istore 8, 2) := by decide +kernel
theorem dX7_sumOf_49 : decode cX7_sumOf 49 = .ok (.iload 8, 2) := by decide +kernel
theorem dX7_sumOf_51 : decode cX7_sumOf 51 = .ok (.bipush 10, 2) := by decide +kernel
theorem dX7_sumOf_53 : decode cX7_sumOf 53 = .ok (.if_icmp .ge 25, 3) := by decide +kernel
theorem dX7_sumOf_56 : decode cX7_sumOf 56 = .ok (.aload_n 3, 1) := by decide +kernel
theorem dX7_sumOf_57 : decode cX7_sumOf 57 = .ok (.iload 8, 2) := by decide +kernel
theorem dX7_sumOf_59 : decode cX7_sumOf 59 = .ok (.aload_n 0, 1) := by decide +kernel
theorem dX7_sumOf_60 : decode cX7_sumOf 60 = .ok (.iload 8, 2) := by decide +kernel
theorem dX7_sumOf_62 : decode cX7_sumOf 62 = .ok (.laload, 1) := by decide +kernel
theorem dX7_sumOf_63 : decode cX7_sumOf 63 = .ok (.iload_n 2, 1) := by decide +kernel
theorem dX7_sumOf_64 : decode cX7_sumOf 64 = .ok (.i2l, 1) := by decide +kernel
theorem dX7_sumOf_65 : decode cX7_sumOf 65 = .ok (.aload_n 1, 1) := by decide +kernel
theorem dX7_sumOf_66 : decode cX7_sumOf 66 = .ok (.iload 8, 2) := by decide +kernel
theorem dX7_sumOf_68 : decode cX7_sumOf 68 = .ok (.laload, 1) := by decide +kernel
theorem dX7_sumOf_69 : decode cX7_sumOf 69 = .ok (.lmul, 1) := by decide +kernel
theorem dX7_sumOf_70 : decode cX7_sumOf 70 = .ok (.ladd, 1) := by decide +kernel
theorem dX7_sumOf_71 : decode cX7_sumOf 71 = .ok (.lastore, 1) := by decide +kernel
theorem dX7_sumOf_72 : decode cX7_sumOf 72 = .ok (.iinc 8 1, 3) := by decide +kernel
theorem dX7_sumOf_75 : decode cX7_sumOf 75 = .ok (.goto (-26), 3) := by decide +kernel
theorem dX7_sumOf_78 : decode cX7_sumOf 78 = .ok (.aload_n 3, 1) := by decide +kernel
theorem dX7_sumOf_79 : decode cX7_sumOf 79 = .ok (.bipush 10, 2) := by decide +kernel
theorem dX7_sumOf_81 : decode cX7_sumOf 81 = .ok (.lload 4, 2) := by decide +kernel
theorem dX7_sumOf_83 : decode cX7_sumOf 83 = .ok (.lastore, 1) := by decide +kernel
theorem dX7_sumOf_84 : decode cX7_sumOf 84 = .ok (.aload_n 3, 1) := by decide +kernel
theorem dX7_sumOf_85 : decode cX7_sumOf 85 = .ok (.bipush 11, 2) := by decide +kernel
theorem dX7_sumOf_87 : decode cX7_sumOf 87 = .ok (.lload 6, 2) := by decide +kernel
theorem dX7_sumOf_89 : decode cX7_sumOf 89 = .ok (.lastore, 1) := by decide +kernel
theorem dX7_sumOf_90 : decode cX7_sumOf 90 = .ok (.aload_n 3, 1) := by decide +kernel
theorem dX7_sumOf_91 : decode cX7_sumOf 91 = .ok (.invokestatic 118, 3) := by decide +kernel
theorem dX7_sumOf_94 : decode cX7_sumOf 94 = .ok (.ireturn, 1) := by decide +kernel
theorem dX7_leastProduct_0 : decode cX7_leastProduct 0 = .ok (.lload_n 0, 1) := by decide +kernel
theorem dX7_leastProduct_1 : decode cX7_leastProduct 1 = .ok (.lload 4, 2) := by decide +kernel
theorem dX7_leastProduct_3 : decode cX7_leastProduct 3 = .ok (.lmul, 1) := by decide +kernel
theorem dX7_leastProduct_4 : decode cX7_leastProduct 4 = .ok (.lload_n 0, 1) := by decide +kernel
theorem dX7_leastProduct_5 : decode cX7_leastProduct 5 = .ok (.lload 6, 2) := by decide +kernel
theorem dX7_leastProduct_7 : decode cX7_leastProduct 7 = .ok (.lmul, 1) := by decide +kernel
theorem dX7_leastProduct_8 : decode cX7_leastProduct 8 = .ok (.invokestatic 86, 3) := by decide +kernel
theorem dX7_leastProduct_11 : decode cX7_leastProduct 11 = .ok (.lload_n 2, 1) := by decide +kernel
theorem dX7_leastProduct_12 : decode cX7_leastProduct 12 = .ok (.lload 4, 2) := by decide +kernel
theorem dX7_leastProduct_14 : decode cX7_leastProduct 14 = .ok (.lmul, 1) := by decide +kernel
theorem dX7_leastProduct_15 : decode cX7_leastProduct 15 = .ok (.lload_n 2, 1) := by decide +kernel
theorem dX7_leastProduct_16 : decode cX7_leastProduct 16 = .ok (.lload 6, 2) := by decide +kernel
theorem dX7_leastProduct_18 : decode cX7_leastProduct 18 = .ok (.lmul, 1) := by decide +kernel
theorem dX7_leastProduct_19 : decode cX7_leastProduct 19 = .ok (.invokestatic 86, 3) := by decide +kernel
theorem dX7_leastProduct_22 : decode cX7_leastProduct 22 = .ok (.invokestatic 86, 3) := by decide +kernel
theorem dX7_leastProduct_25 : decode cX7_leastProduct 25 = .ok (.lreturn, 1) := by decide +kernel
theorem dX7_greatestProduct_0 : decode cX7_greatestProduct 0 = .ok (.lload_n 0, 1) := by decide +kernel
theorem dX7_greatestProduct_1 : decode cX7_greatestProduct 1 = .ok (.lload 4, 2) := by decide +kernel
theorem dX7_greatestProduct_3 : decode cX7_greatestProduct 3 = .ok (.lmul, 1) := by decide +kernel
theorem dX7_greatestProduct_4 : decode cX7_greatestProduct 4 = .ok (.lload_n 0, 1) := by decide +kernel
theorem dX7_greatestProduct_5 : decode cX7_greatestProduct 5 = .ok (.lload 6, 2) := by decide +kernel
theorem dX7_greatestProduct_7 : decode cX7_greatestProduct 7 = .ok (.lmul, 1) := by decide +kernel
theorem dX7_greatestProduct_8 : decode cX7_greatestProduct 8 = .ok (.invokestatic 122, 3) := by decide +kernel
theorem dX7_greatestProduct_11 : decode cX7_greatestProduct 11 = .ok (.lload_n 2, 1) := by decide +kernel
theorem dX7_greatestProduct_12 : decode cX7_greatestProduct 12 = .ok (.lload 4, 2) := by decide +kernel
theorem dX7_greatestProduct_14 : decode cX7_greatestProduct 14 = .ok (.lmul, 1) := by decide +kernel
theorem dX7_greatestProduct_15 : decode cX7_greatestProduct 15 = .ok (.lload_n 2, 1) := by decide +kernel
theorem dX7_greatestProduct_16 : decode cX7_greatestProduct 16 = .ok (.lload 6, 2) := by decide +kernel
theorem dX7_greatestProduct_18 : decode cX7_greatestProduct 18 = .ok (.lmul, 1) := by decide +kernel
theorem dX7_greatestProduct_19 : decode cX7_greatestProduct 19 = .ok (.invokestatic 122, 3) := by decide +kernel
theorem dX7_greatestProduct_22 : decode cX7_greatestProduct 22 = .ok (.invokestatic 122, 3) := by decide +kernel
theorem dX7_greatestProduct_25 : decode cX7_greatestProduct 25 = .ok (.lreturn, 1) := by decide +kernel
theorem dX7_layProducts_0 : decode cX7_layProducts 0 = .ok (.iconst 0, 1) := by decide +kernel
theorem dX7_layProducts_1 : decode cX7_layProducts 1 = .ok (.istore_n 3, 1) := by decide +kernel
theorem dX7_layProducts_2 : decode cX7_layProducts 2 = .ok (.iload_n 3, 1) := by decide +kernel
theorem dX7_layProducts_3 : decode cX7_layProducts 3 = .ok (.bipush 49, 2) := by decide +kernel
theorem dX7_layProducts_5 : decode cX7_layProducts 5 = .ok (.if_icmp .ge 16, 3) := by decide +kernel
theorem dX7_layProducts_8 : decode cX7_layProducts 8 = .ok (.aload_n 0, 1) := by decide +kernel
theorem dX7_layProducts_9 : decode cX7_layProducts 9 = .ok (.getfield 28, 3) := by decide +kernel
theorem dX7_layProducts_12 : decode cX7_layProducts 12 = .ok (.iload_n 3, 1) := by decide +kernel
theorem dX7_layProducts_13 : decode cX7_layProducts 13 = .ok (.lconst 0, 1) := by decide +kernel
theorem dX7_layProducts_14 : decode cX7_layProducts 14 = .ok (.lastore, 1) := by decide +kernel
theorem dX7_layProducts_15 : decode cX7_layProducts 15 = .ok (.iinc 3 1, 3) := by decide +kernel
theorem dX7_layProducts_18 : decode cX7_layProducts 18 = .ok (.goto (-16), 3) := by decide +kernel
theorem dX7_layProducts_21 : decode cX7_layProducts 21 = .ok (.iconst 0, 1) := by decide +kernel
theorem dX7_layProducts_22 : decode cX7_layProducts 22 = .ok (.istore_n 3, 1) := by decide +kernel
theorem dX7_layProducts_23 : decode cX7_layProducts 23 = .ok (.iload_n 3, 1) := by decide +kernel
theorem dX7_layProducts_24 : decode cX7_layProducts 24 = .ok (.bipush 10, 2) := by decide +kernel
theorem dX7_layProducts_26 : decode cX7_layProducts 26 = .ok (.if_icmp .ge 65, 3) := by decide +kernel
theorem dX7_layProducts_29 : decode cX7_layProducts 29 = .ok (.iconst 0, 1) := by decide +kernel
theorem dX7_layProducts_30 : decode cX7_layProducts 30 = .ok (.istore 4, 2) := by decide +kernel
theorem dX7_layProducts_32 : decode cX7_layProducts 32 = .ok (.iload 4, 2) := by decide +kernel
theorem dX7_layProducts_34 : decode cX7_layProducts 34 = .ok (.bipush 10, 2) := by decide +kernel
theorem dX7_layProducts_36 : decode cX7_layProducts 36 = .ok (.if_icmp .ge 49, 3) := by decide +kernel
theorem dX7_layProducts_39 : decode cX7_layProducts 39 = .ok (.aload_n 0, 1) := by decide +kernel
theorem dX7_layProducts_40 : decode cX7_layProducts 40 = .ok (.getfield 28, 3) := by decide +kernel
theorem dX7_layProducts_43 : decode cX7_layProducts 43 = .ok (.bipush 7, 2) := by decide +kernel
theorem dX7_layProducts_45 : decode cX7_layProducts 45 = .ok (.iload_n 3, 1) := by decide +kernel
theorem dX7_layProducts_46 : decode cX7_layProducts 46 = .ok (.invokestatic 93, 3) := by decide +kernel
theorem dX7_layProducts_49 : decode cX7_layProducts 49 = .ok (.iload 4, 2) := by decide +kernel
theorem dX7_layProducts_51 : decode cX7_layProducts 51 = .ok (.invokestatic 93, 3) := by decide +kernel
theorem dX7_layProducts_54 : decode cX7_layProducts 54 = .ok (.iadd, 1) := by decide +kernel
theorem dX7_layProducts_55 : decode cX7_layProducts 55 = .ok (.imul, 1) := by decide +kernel
theorem dX7_layProducts_56 : decode cX7_layProducts 56 = .ok (.iload_n 3, 1) := by decide +kernel
theorem dX7_layProducts_57 : decode cX7_layProducts 57 = .ok (.invokestatic 97, 3) := by decide +kernel
theorem dX7_layProducts_60 : decode cX7_layProducts 60 = .ok (.iadd, 1) := by decide +kernel
theorem dX7_layProducts_61 : decode cX7_layProducts 61 = .ok (.iload 4, 2) := by decide +kernel
theorem dX7_layProducts_63 : decode cX7_layProducts 63 = .ok (.invokestatic 97, 3) := by decide +kernel
theorem dX7_layProducts_66 : decode cX7_layProducts 66 = .ok (.iadd, 1) := by decide +kernel
theorem dX7_layProducts_67 : decode cX7_layProducts 67 = .ok (.dup2, 1) := by decide +kernel
theorem dX7_layProducts_68 : decode cX7_layProducts 68 = .ok (.laload, 1) := by decide +kernel
theorem dX7_layProducts_69 : decode cX7_layProducts 69 = .ok (.aload_n 1, 1) := by decide +kernel
theorem dX7_layProducts_70 : decode cX7_layProducts 70 = .ok (.iload_n 3, 1) := by decide +kernel
theorem dX7_layProducts_71 : decode cX7_layProducts 71 = .ok (.laload, 1) := by decide +kernel
theorem dX7_layProducts_72 : decode cX7_layProducts 72 = .ok (.aload_n 2, 1) := by decide +kernel
theorem dX7_layProducts_73 : decode cX7_layProducts 73 = .ok (.iload 4, 2) := by decide +kernel
theorem dX7_layProducts_75 : decode cX7_layProducts 75 = .ok (.laload, 1) := by decide +kernel
theorem dX7_layProducts_76 : decode cX7_layProducts 76 = .ok (.lmul, 1) := by decide +kernel
theorem dX7_layProducts_77 : decode cX7_layProducts 77 = .ok (.ladd, 1) := by decide +kernel
theorem dX7_layProducts_78 : decode cX7_layProducts 78 = .ok (.lastore, 1) := by decide +kernel
theorem dX7_layProducts_79 : decode cX7_layProducts 79 = .ok (.iinc 4 1, 3) := by decide +kernel
theorem dX7_layProducts_82 : decode cX7_layProducts 82 = .ok (.goto (-50), 3) := by decide +kernel
theorem dX7_layProducts_85 : decode cX7_layProducts 85 = .ok (.iinc 3 1, 3) := by decide +kernel
theorem dX7_layProducts_88 : decode cX7_layProducts 88 = .ok (.goto (-65), 3) := by decide +kernel
theorem dX7_layProducts_91 : decode cX7_layProducts 91 = .ok (.return_, 1) := by decide +kernel
theorem dX7_productOf_0 : decode cX7_productOf 0 = .ok (.aload_n 0, 1) := by decide +kernel
theorem dX7_productOf_1 : decode cX7_productOf 1 = .ok (.aload_n 1, 1) := by decide +kernel
theorem dX7_productOf_2 : decode cX7_productOf 2 = .ok (.aload_n 2, 1) := by decide +kernel
theorem dX7_productOf_3 : decode cX7_productOf 3 = .ok (.invokevirtual 125, 3) := by decide +kernel
theorem dX7_productOf_6 : decode cX7_productOf 6 = .ok (.aload_n 1, 1) := by decide +kernel
theorem dX7_productOf_7 : decode cX7_productOf 7 = .ok (.invokestatic 107, 3) := by decide +kernel
theorem dX7_productOf_10 : decode cX7_productOf 10 = .ok (.lstore 4, 2) := by decide +kernel
theorem dX7_productOf_12 : decode cX7_productOf 12 = .ok (.aload_n 1, 1) := by decide +kernel
theorem dX7_productOf_13 : decode cX7_productOf 13 = .ok (.invokestatic 113, 3) := by decide +kernel
theorem dX7_productOf_16 : decode cX7_productOf 16 = .ok (.lstore 6, 2) := by decide +kernel
theorem dX7_productOf_18 : decode cX7_productOf 18 = .ok (.aload_n 2, 1) := by decide +kernel
theorem dX7_productOf_19 : decode cX7_productOf 19 = .ok (.invokestatic 107, 3) := by decide +kernel
theorem dX7_productOf_22 : decode cX7_productOf 22 = .ok (.lstore 8, 2) := by decide +kernel
theorem dX7_productOf_24 : decode cX7_productOf 24 = .ok (.aload_n 2, 1) := by decide +kernel
theorem dX7_productOf_25 : decode cX7_productOf 25 = .ok (.invokestatic 113, 3) := by decide +kernel
theorem dX7_productOf_28 : decode cX7_productOf 28 = .ok (.lstore 10, 2) := by decide +kernel
theorem dX7_productOf_30 : decode cX7_productOf 30 = .ok (.lconst 0, 1) := by decide +kernel
theorem dX7_productOf_31 : decode cX7_productOf 31 = .ok (.lstore 12, 2) := by decide +kernel
theorem dX7_productOf_33 : decode cX7_productOf 33 = .ok (.lconst 0, 1) := by decide +kernel
theorem dX7_productOf_34 : decode cX7_productOf 34 = .ok (.lstore 14, 2) := by decide +kernel
theorem dX7_productOf_36 : decode cX7_productOf 36 = .ok (.aload_n 0, 1) := by decide +kernel
theorem dX7_productOf_37 : decode cX7_productOf 37 = .ok (.getfield 32, 3) := by decide +kernel
theorem dX7_productOf_40 : decode cX7_productOf 40 = .ok (.invokestatic 129, 3) := by decide +kernel
theorem dX7_productOf_43 : decode cX7_productOf 43 = .ok (.iconst 0, 1) := by decide +kernel
theorem dX7_productOf_44 : decode cX7_productOf 44 = .ok (.istore 16, 2) := by decide +kernel
theorem dX7_productOf_46 : decode cX7_productOf 46 = .ok (.iload 16, 2) := by decide +kernel
theorem dX7_productOf_48 : decode cX7_productOf 48 = .ok (.bipush 7, 2) := by decide +kernel
theorem dX7_productOf_50 : decode cX7_productOf 50 = .ok (.if_icmp .ge 160, 3) := by decide +kernel
theorem dX7_productOf_53 : decode cX7_productOf 53 = .ok (.iconst 0, 1) := by decide +kernel
theorem dX7_productOf_54 : decode cX7_productOf 54 = .ok (.istore 17, 2) := by decide +kernel
theorem dX7_productOf_56 : decode cX7_productOf 56 = .ok (.iload 16, 2) := by decide +kernel
theorem dX7_productOf_58 : decode cX7_productOf 58 = .ok (.iload 17, 2) := by decide +kernel
theorem dX7_productOf_60 : decode cX7_productOf 60 = .ok (.iadd, 1) := by decide +kernel
theorem dX7_productOf_61 : decode cX7_productOf 61 = .ok (.bipush 7, 2) := by decide +kernel
theorem dX7_productOf_63 : decode cX7_productOf 63 = .ok (.if_icmp .ge 141, 3) := by decide +kernel
theorem dX7_productOf_66 : decode cX7_productOf 66 = .ok (.aload_n 0, 1) := by decide +kernel
theorem dX7_productOf_67 : decode cX7_productOf 67 = .ok (.getfield 28, 3) := by decide +kernel
theorem dX7_productOf_70 : decode cX7_productOf 70 = .ok (.bipush 7, 2) := by decide +kernel
theorem dX7_productOf_72 : decode cX7_productOf 72 = .ok (.iload 16, 2) := by decide +kernel
theorem dX7_productOf_74 : decode cX7_productOf 74 = .ok (.imul, 1) := by decide +kernel
theorem dX7_productOf_75 : decode cX7_productOf 75 = .ok (.iload 17, 2) := by decide +kernel
theorem dX7_productOf_77 : decode cX7_productOf 77 = .ok (.iadd, 1) := by decide +kernel
theorem dX7_productOf_78 : decode cX7_productOf 78 = .ok (.laload, 1) := by decide +kernel
theorem dX7_productOf_79 : decode cX7_productOf 79 = .ok (.lstore 18, 2) := by decide +kernel
theorem dX7_productOf_81 : decode cX7_productOf 81 = .ok (.iload 16, 2) := by decide +kernel
theorem dX7_productOf_83 : decode cX7_productOf 83 = .ok (.iload 17, 2) := by decide +kernel
theorem dX7_productOf_85 : decode cX7_productOf 85 = .ok (.iadd, 1) := by decide +kernel
theorem dX7_productOf_86 : decode cX7_productOf 86 = .ok (.iconst 3, 1) := by decide +kernel
theorem dX7_productOf_87 : decode cX7_productOf 87 = .ok (.if_icmp .le 34, 3) := by decide +kernel
theorem dX7_productOf_90 : decode cX7_productOf 90 = .ok (.lload 12, 2) := by decide +kernel
theorem dX7_productOf_92 : decode cX7_productOf 92 = .ok (.lload 18, 2) := by decide +kernel
theorem dX7_productOf_94 : decode cX7_productOf 94 = .ok (.iload 16, 2) := by decide +kernel
theorem dX7_productOf_96 : decode cX7_productOf 96 = .ok (.iload 17, 2) := by decide +kernel
theorem dX7_productOf_98 : decode cX7_productOf 98 = .ok (.invokestatic 89, 3) := by decide +kernel
theorem dX7_productOf_101 : decode cX7_productOf 101 = .ok (.ladd, 1) := by decide +kernel
theorem dX7_productOf_102 : decode cX7_productOf 102 = .ok (.lstore 12, 2) := by decide +kernel
theorem dX7_productOf_104 : decode cX7_productOf 104 = .ok (.lload 14, 2) := by decide +kernel
theorem dX7_productOf_106 : decode cX7_productOf 106 = .ok (.lload 18, 2) := by decide +kernel
theorem dX7_productOf_108 : decode cX7_productOf 108 = .ok (.iload 16, 2) := by decide +kernel
theorem dX7_productOf_110 : decode cX7_productOf 110 = .ok (.iload 17, 2) := by decide +kernel
theorem dX7_productOf_112 : decode cX7_productOf 112 = .ok (.invokestatic 100, 3) := by decide +kernel
theorem dX7_productOf_115 : decode cX7_productOf 115 = .ok (.ladd, 1) := by decide +kernel
theorem dX7_productOf_116 : decode cX7_productOf 116 = .ok (.lstore 14, 2) := by decide +kernel
theorem dX7_productOf_118 : decode cX7_productOf 118 = .ok (.goto 80, 3) := by decide +kernel
theorem dX7_productOf_121 : decode cX7_productOf 121 = .ok (.aload_n 0, 1) := by decide +kernel
theorem dX7_productOf_122 : decode cX7_productOf 122 = .ok (.getfield 32, 3) := by decide +kernel
theorem dX7_productOf_125 : decode cX7_productOf 125 = .ok (.iload 16, 2) := by decide +kernel
theorem dX7_productOf_127 : decode cX7_productOf 127 = .ok (.iload 17, 2) := by decide +kernel
theorem dX7_productOf_129 : decode cX7_productOf 129 = .ok (.invokestatic 133, 3) := by decide +kernel
theorem dX7_productOf_132 : decode cX7_productOf 132 = .ok (.lload 18, 2) := by decide +kernel
theorem dX7_productOf_134 : decode cX7_productOf 134 = .ok (.ldc2_w 116, 3) := by decide +kernel
theorem dX7_productOf_137 : decode cX7_productOf 137 = .ok (.invokestatic 82, 3) := by decide +kernel
theorem dX7_productOf_140 : decode cX7_productOf 140 = .ok (.lastore, 1) := by decide +kernel
theorem dX7_productOf_141 : decode cX7_productOf 141 = .ok (.lload 18, 2) := by decide +kernel
theorem dX7_productOf_143 : decode cX7_productOf 143 = .ok (.ldc2_w 116, 3) := by decide +kernel
theorem dX7_productOf_146 : decode cX7_productOf 146 = .ok (.lrem, 1) := by decide +kernel
theorem dX7_productOf_147 : decode cX7_productOf 147 = .ok (.lconst 0, 1) := by decide +kernel
theorem dX7_productOf_148 : decode cX7_productOf 148 = .ok (.lcmp, 1) := by decide +kernel
theorem dX7_productOf_149 : decode cX7_productOf 149 = .ok (.ifCond .ne 6, 3) := by decide +kernel
theorem dX7_productOf_152 : decode cX7_productOf 152 = .ok (.goto 46, 3) := by decide +kernel
theorem dX7_productOf_155 : decode cX7_productOf 155 = .ok (.aload_n 0, 1) := by decide +kernel
theorem dX7_productOf_156 : decode cX7_productOf 156 = .ok (.getfield 32, 3) := by decide +kernel
theorem dX7_productOf_159 : decode cX7_productOf 159 = .ok (.bipush 10, 2) := by decide +kernel
theorem dX7_productOf_161 : decode cX7_productOf 161 = .ok (.dup2, 1) := by decide +kernel
theorem dX7_productOf_162 : decode cX7_productOf 162 = .ok (.laload, 1) := by decide +kernel
theorem dX7_productOf_163 : decode cX7_productOf 163 = .ok (.iload 16, 2) := by decide +kernel
theorem dX7_productOf_165 : decode cX7_productOf 165 = .ok (.ifCond .ne 12, 3) := by decide +kernel
theorem dX7_productOf_168 : decode cX7_productOf 168 = .ok (.iload 17, 2) := by decide +kernel
theorem dX7_productOf_170 : decode cX7_productOf 170 = .ok (.ifCond .ne 7, 3) := by decide +kernel
theorem dX7_productOf_173 : decode cX7_productOf 173 = .ok (.lconst 0, 1) := by decide +kernel
theorem dX7_productOf_174 : decode cX7_productOf 174 = .ok (.goto 11, 3) := by decide +kernel
theorem dX7_productOf_177 : decode cX7_productOf 177 = .ok (.lconst 1, 1) := by decide +kernel
theorem dX7_productOf_178 : decode cX7_productOf 178 = .ok (.iload 16, 2) := by decide +kernel
theorem dX7_productOf_180 : decode cX7_productOf 180 = .ok (.iload 17, 2) := by decide +kernel
theorem dX7_productOf_182 : decode cX7_productOf 182 = .ok (.invokestatic 89, 3) := by decide +kernel
theorem dX7_productOf_185 : decode cX7_productOf 185 = .ok (.ladd, 1) := by decide +kernel
theorem dX7_productOf_186 : decode cX7_productOf 186 = .ok (.lastore, 1) := by decide +kernel
theorem dX7_productOf_187 : decode cX7_productOf 187 = .ok (.aload_n 0, 1) := by decide +kernel
theorem dX7_productOf_188 : decode cX7_productOf 188 = .ok (.getfield 32, 3) := by decide +kernel
theorem dX7_productOf_191 : decode cX7_productOf 191 = .ok (.bipush 11, 2) := by decide +kernel
theorem dX7_productOf_193 : decode cX7_productOf 193 = .ok (.dup2, 1) := by decide +kernel
theorem dX7_productOf_194 : decode cX7_productOf 194 = .ok (.laload, 1) := by decide +kernel
theorem dX7_productOf_195 : decode cX7_productOf 195 = .ok (.lconst 1, 1) := by decide +kernel
theorem dX7_productOf_196 : decode cX7_productOf 196 = .ok (.ladd, 1) := by decide +kernel
theorem dX7_productOf_197 : decode cX7_productOf 197 = .ok (.lastore, 1) := by decide +kernel
theorem dX7_productOf_198 : decode cX7_productOf 198 = .ok (.iinc 17 1, 3) := by decide +kernel
theorem dX7_productOf_201 : decode cX7_productOf 201 = .ok (.goto (-145), 3) := by decide +kernel
theorem dX7_productOf_204 : decode cX7_productOf 204 = .ok (.iinc 16 1, 3) := by decide +kernel
theorem dX7_productOf_207 : decode cX7_productOf 207 = .ok (.goto (-161), 3) := by decide +kernel
theorem dX7_productOf_210 : decode cX7_productOf 210 = .ok (.lload 12, 2) := by decide +kernel
theorem dX7_productOf_212 : decode cX7_productOf 212 = .ok (.lload 4, 2) := by decide +kernel
theorem dX7_productOf_214 : decode cX7_productOf 214 = .ok (.lload 6, 2) := by decide +kernel
theorem dX7_productOf_216 : decode cX7_productOf 216 = .ok (.aload_n 2, 1) := by decide +kernel
theorem dX7_productOf_217 : decode cX7_productOf 217 = .ok (.bipush 10, 2) := by decide +kernel
theorem dX7_productOf_219 : decode cX7_productOf 219 = .ok (.laload, 1) := by decide +kernel
theorem dX7_productOf_220 : decode cX7_productOf 220 = .ok (.aload_n 2, 1) := by decide +kernel
theorem dX7_productOf_221 : decode cX7_productOf 221 = .ok (.bipush 11, 2) := by decide +kernel
theorem dX7_productOf_223 : decode cX7_productOf 223 = .ok (.laload, 1) := by decide +kernel
theorem dX7_productOf_224 : decode cX7_productOf 224 = .ok (.invokestatic 137, 3) := by decide +kernel
theorem dX7_productOf_227 : decode cX7_productOf 227 = .ok (.aload_n 1, 1) := by decide +kernel
theorem dX7_productOf_228 : decode cX7_productOf 228 = .ok (.bipush 10, 2) := by decide +kernel
theorem dX7_productOf_230 : decode cX7_productOf 230 = .ok (.laload, 1) := by decide +kernel
theorem dX7_productOf_231 : decode cX7_productOf 231 = .ok (.aload_n 1, 1) := by decide +kernel
theorem dX7_productOf_232 : decode cX7_productOf 232 = .ok (.bipush 11, 2) := by decide +kernel
theorem dX7_productOf_234 : decode cX7_productOf 234 = .ok (.laload, 1) := by decide +kernel
theorem dX7_productOf_235 : decode cX7_productOf 235 = .ok (.lload 8, 2) := by decide +kernel
theorem dX7_productOf_237 : decode cX7_productOf 237 = .ok (.lload 10, 2) := by decide +kernel
theorem dX7_productOf_239 : decode cX7_productOf 239 = .ok (.invokestatic 137, 3) := by decide +kernel
theorem dX7_productOf_242 : decode cX7_productOf 242 = .ok (.ladd, 1) := by decide +kernel
theorem dX7_productOf_243 : decode cX7_productOf 243 = .ok (.aload_n 1, 1) := by decide +kernel
theorem dX7_productOf_244 : decode cX7_productOf 244 = .ok (.bipush 10, 2) := by decide +kernel
theorem dX7_productOf_246 : decode cX7_productOf 246 = .ok (.laload, 1) := by decide +kernel
theorem dX7_productOf_247 : decode cX7_productOf 247 = .ok (.aload_n 1, 1) := by decide +kernel
theorem dX7_productOf_248 : decode cX7_productOf 248 = .ok (.bipush 11, 2) := by decide +kernel
theorem dX7_productOf_250 : decode cX7_productOf 250 = .ok (.laload, 1) := by decide +kernel
theorem dX7_productOf_251 : decode cX7_productOf 251 = .ok (.aload_n 2, 1) := by decide +kernel
theorem dX7_productOf_252 : decode cX7_productOf 252 = .ok (.bipush 10, 2) := by decide +kernel
theorem dX7_productOf_254 : decode cX7_productOf 254 = .ok (.laload, 1) := by decide +kernel
theorem dX7_productOf_255 : decode cX7_productOf 255 = .ok (.aload_n 2, 1) := by decide +kernel
theorem dX7_productOf_256 : decode cX7_productOf 256 = .ok (.bipush 11, 2) := by decide +kernel
theorem dX7_productOf_258 : decode cX7_productOf 258 = .ok (.laload, 1) := by decide +kernel
theorem dX7_productOf_259 : decode cX7_productOf 259 = .ok (.invokestatic 137, 3) := by decide +kernel
theorem dX7_productOf_262 : decode cX7_productOf 262 = .ok (.ladd, 1) := by decide +kernel
theorem dX7_productOf_263 : decode cX7_productOf 263 = .ok (.ladd, 1) := by decide +kernel
theorem dX7_productOf_264 : decode cX7_productOf 264 = .ok (.lstore 12, 2) := by decide +kernel
theorem dX7_productOf_266 : decode cX7_productOf 266 = .ok (.lload 14, 2) := by decide +kernel
theorem dX7_productOf_268 : decode cX7_productOf 268 = .ok (.lload 4, 2) := by decide +kernel
theorem dX7_productOf_270 : decode cX7_productOf 270 = .ok (.lload 6, 2) := by decide +kernel
theorem dX7_productOf_272 : decode cX7_productOf 272 = .ok (.aload_n 2, 1) := by decide +kernel
theorem dX7_productOf_273 : decode cX7_productOf 273 = .ok (.bipush 10, 2) := by decide +kernel
theorem dX7_productOf_275 : decode cX7_productOf 275 = .ok (.laload, 1) := by decide +kernel
theorem dX7_productOf_276 : decode cX7_productOf 276 = .ok (.aload_n 2, 1) := by decide +kernel
theorem dX7_productOf_277 : decode cX7_productOf 277 = .ok (.bipush 11, 2) := by decide +kernel
theorem dX7_productOf_279 : decode cX7_productOf 279 = .ok (.laload, 1) := by decide +kernel
theorem dX7_productOf_280 : decode cX7_productOf 280 = .ok (.invokestatic 141, 3) := by decide +kernel
theorem dX7_productOf_283 : decode cX7_productOf 283 = .ok (.aload_n 1, 1) := by decide +kernel
theorem dX7_productOf_284 : decode cX7_productOf 284 = .ok (.bipush 10, 2) := by decide +kernel
theorem dX7_productOf_286 : decode cX7_productOf 286 = .ok (.laload, 1) := by decide +kernel
theorem dX7_productOf_287 : decode cX7_productOf 287 = .ok (.aload_n 1, 1) := by decide +kernel
theorem dX7_productOf_288 : decode cX7_productOf 288 = .ok (.bipush 11, 2) := by decide +kernel
theorem dX7_productOf_290 : decode cX7_productOf 290 = .ok (.laload, 1) := by decide +kernel
theorem dX7_productOf_291 : decode cX7_productOf 291 = .ok (.lload 8, 2) := by decide +kernel
theorem dX7_productOf_293 : decode cX7_productOf 293 = .ok (.lload 10, 2) := by decide +kernel
theorem dX7_productOf_295 : decode cX7_productOf 295 = .ok (.invokestatic 141, 3) := by decide +kernel
theorem dX7_productOf_298 : decode cX7_productOf 298 = .ok (.ladd, 1) := by decide +kernel
theorem dX7_productOf_299 : decode cX7_productOf 299 = .ok (.aload_n 1, 1) := by decide +kernel
theorem dX7_productOf_300 : decode cX7_productOf 300 = .ok (.bipush 10, 2) := by decide +kernel
theorem dX7_productOf_302 : decode cX7_productOf 302 = .ok (.laload, 1) := by decide +kernel
theorem dX7_productOf_303 : decode cX7_productOf 303 = .ok (.aload_n 1, 1) := by decide +kernel
theorem dX7_productOf_304 : decode cX7_productOf 304 = .ok (.bipush 11, 2) := by decide +kernel
theorem dX7_productOf_306 : decode cX7_productOf 306 = .ok (.laload, 1) := by decide +kernel
theorem dX7_productOf_307 : decode cX7_productOf 307 = .ok (.aload_n 2, 1) := by decide +kernel
theorem dX7_productOf_308 : decode cX7_productOf 308 = .ok (.bipush 10, 2) := by decide +kernel
theorem dX7_productOf_310 : decode cX7_productOf 310 = .ok (.laload, 1) := by decide +kernel
theorem dX7_productOf_311 : decode cX7_productOf 311 = .ok (.aload_n 2, 1) := by decide +kernel
theorem dX7_productOf_312 : decode cX7_productOf 312 = .ok (.bipush 11, 2) := by decide +kernel
theorem dX7_productOf_314 : decode cX7_productOf 314 = .ok (.laload, 1) := by decide +kernel
theorem dX7_productOf_315 : decode cX7_productOf 315 = .ok (.invokestatic 141, 3) := by decide +kernel
theorem dX7_productOf_318 : decode cX7_productOf 318 = .ok (.ladd, 1) := by decide +kernel
theorem dX7_productOf_319 : decode cX7_productOf 319 = .ok (.ladd, 1) := by decide +kernel
theorem dX7_productOf_320 : decode cX7_productOf 320 = .ok (.lstore 14, 2) := by decide +kernel
theorem dX7_productOf_322 : decode cX7_productOf 322 = .ok (.aload_n 0, 1) := by decide +kernel
theorem dX7_productOf_323 : decode cX7_productOf 323 = .ok (.getfield 32, 3) := by decide +kernel
theorem dX7_productOf_326 : decode cX7_productOf 326 = .ok (.bipush 10, 2) := by decide +kernel
theorem dX7_productOf_328 : decode cX7_productOf 328 = .ok (.dup2, 1) := by decide +kernel
theorem dX7_productOf_329 : decode cX7_productOf 329 = .ok (.laload, 1) := by decide +kernel
theorem dX7_productOf_330 : decode cX7_productOf 330 = .ok (.lload 12, 2) := by decide +kernel
theorem dX7_productOf_332 : decode cX7_productOf 332 = .ok (.ldc2_w 116, 3) := by decide +kernel
theorem dX7_productOf_335 : decode cX7_productOf 335 = .ok (.invokestatic 82, 3) := by decide +kernel
theorem dX7_productOf_338 : decode cX7_productOf 338 = .ok (.ladd, 1) := by decide +kernel
theorem dX7_productOf_339 : decode cX7_productOf 339 = .ok (.lastore, 1) := by decide +kernel
theorem dX7_productOf_340 : decode cX7_productOf 340 = .ok (.aload_n 0, 1) := by decide +kernel
theorem dX7_productOf_341 : decode cX7_productOf 341 = .ok (.getfield 32, 3) := by decide +kernel
theorem dX7_productOf_344 : decode cX7_productOf 344 = .ok (.bipush 11, 2) := by decide +kernel
theorem dX7_productOf_346 : decode cX7_productOf 346 = .ok (.dup2, 1) := by decide +kernel
theorem dX7_productOf_347 : decode cX7_productOf 347 = .ok (.laload, 1) := by decide +kernel
theorem dX7_productOf_348 : decode cX7_productOf 348 = .ok (.lload 14, 2) := by decide +kernel
theorem dX7_productOf_350 : decode cX7_productOf 350 = .ok (.ldc2_w 116, 3) := by decide +kernel
theorem dX7_productOf_353 : decode cX7_productOf 353 = .ok (.invokestatic 144, 3) := by decide +kernel
theorem dX7_productOf_356 : decode cX7_productOf 356 = .ok (.ladd, 1) := by decide +kernel
theorem dX7_productOf_357 : decode cX7_productOf 357 = .ok (.lastore, 1) := by decide +kernel
theorem dX7_productOf_358 : decode cX7_productOf 358 = .ok (.aload_n 0, 1) := by decide +kernel
theorem dX7_productOf_359 : decode cX7_productOf 359 = .ok (.getfield 32, 3) := by decide +kernel
theorem dX7_productOf_362 : decode cX7_productOf 362 = .ok (.aload_n 3, 1) := by decide +kernel
theorem dX7_productOf_363 : decode cX7_productOf 363 = .ok (.invokestatic 147, 3) := by decide +kernel
theorem dX7_productOf_366 : decode cX7_productOf 366 = .ok (.aload_n 3, 1) := by decide +kernel
theorem dX7_productOf_367 : decode cX7_productOf 367 = .ok (.invokestatic 118, 3) := by decide +kernel
theorem dX7_productOf_370 : decode cX7_productOf 370 = .ok (.ireturn, 1) := by decide +kernel
theorem dX7_compositionOf_0 : decode cX7_compositionOf 0 = .ok (.aload_n 2, 1) := by decide +kernel
theorem dX7_compositionOf_1 : decode cX7_compositionOf 1 = .ok (.invokestatic 150, 3) := by decide +kernel
theorem dX7_compositionOf_4 : decode cX7_compositionOf 4 = .ok (.ifCond .ne 5, 3) := by decide +kernel
theorem dX7_compositionOf_7 : decode cX7_compositionOf 7 = .ok (.iconst 1, 1) := by decide +kernel
theorem dX7_compositionOf_8 : decode cX7_compositionOf 8 = .ok (.ireturn, 1) := by decide +kernel
theorem dX7_compositionOf_9 : decode cX7_compositionOf 9 = .ok (.aload_n 3, 1) := by decide +kernel
theorem dX7_compositionOf_10 : decode cX7_compositionOf 10 = .ok (.invokestatic 150, 3) := by decide +kernel
theorem dX7_compositionOf_13 : decode cX7_compositionOf 13 = .ok (.ifCond .ne 5, 3) := by decide +kernel
theorem dX7_compositionOf_16 : decode cX7_compositionOf 16 = .ok (.iconst 2, 1) := by decide +kernel
theorem dX7_compositionOf_17 : decode cX7_compositionOf 17 = .ok (.ireturn, 1) := by decide +kernel
theorem dX7_compositionOf_18 : decode cX7_compositionOf 18 = .ok (.iconst 1, 1) := by decide +kernel
theorem dX7_compositionOf_19 : decode cX7_compositionOf 19 = .ok (.istore 5, 2) := by decide +kernel
theorem dX7_compositionOf_21 : decode cX7_compositionOf 21 = .ok (.aload_n 0, 1) := by decide +kernel
theorem dX7_compositionOf_22 : decode cX7_compositionOf 22 = .ok (.getfield 35, 3) := by decide +kernel
theorem dX7_compositionOf_25 : decode cX7_compositionOf 25 = .ok (.invokestatic 129, 3) := by decide +kernel
theorem dX7_compositionOf_28 : decode cX7_compositionOf 28 = .ok (.iconst 0, 1) := by decide +kernel
theorem dX7_compositionOf_29 : decode cX7_compositionOf 29 = .ok (.istore 6, 2) := by decide +kernel
theorem dX7_compositionOf_31 : decode cX7_compositionOf 31 = .ok (.iload 6, 2) := by decide +kernel
theorem dX7_compositionOf_33 : decode cX7_compositionOf 33 = .ok (.bipush 10, 2) := by decide +kernel
theorem dX7_compositionOf_35 : decode cX7_compositionOf 35 = .ok (.if_icmp .ge 152, 3) := by decide +kernel
theorem dX7_compositionOf_38 : decode cX7_compositionOf 38 = .ok (.iload 5, 2) := by decide +kernel
theorem dX7_compositionOf_40 : decode cX7_compositionOf 40 = .ok (.ifCond .eq 147, 3) := by decide +kernel
theorem dX7_compositionOf_43 : decode cX7_compositionOf 43 = .ok (.aload_n 1, 1) := by decide +kernel
theorem dX7_compositionOf_44 : decode cX7_compositionOf 44 = .ok (.iload 6, 2) := by decide +kernel
theorem dX7_compositionOf_46 : decode cX7_compositionOf 46 = .ok (.laload, 1) := by decide +kernel
theorem dX7_compositionOf_47 : decode cX7_compositionOf 47 = .ok (.lconst 0, 1) := by decide +kernel
theorem dX7_compositionOf_48 : decode cX7_compositionOf 48 = .ok (.lcmp, 1) := by decide +kernel
theorem dX7_compositionOf_49 : decode cX7_compositionOf 49 = .ok (.ifCond .ne 6, 3) := by decide +kernel
theorem dX7_compositionOf_52 : decode cX7_compositionOf 52 = .ok (.goto 129, 3) := by decide +kernel
theorem dX7_compositionOf_55 : decode cX7_compositionOf 55 = .ok (.aload_n 0, 1) := by decide +kernel
theorem dX7_compositionOf_56 : decode cX7_compositionOf 56 = .ok (.getfield 38, 3) := by decide +kernel
theorem dX7_compositionOf_59 : decode cX7_compositionOf 59 = .ok (.invokestatic 129, 3) := by decide +kernel
theorem dX7_compositionOf_62 : decode cX7_compositionOf 62 = .ok (.aload_n 0, 1) := by decide +kernel
theorem dX7_compositionOf_63 : decode cX7_compositionOf 63 = .ok (.getfield 38, 3) := by decide +kernel
theorem dX7_compositionOf_66 : decode cX7_compositionOf 66 = .ok (.iconst 0, 1) := by decide +kernel
theorem dX7_compositionOf_67 : decode cX7_compositionOf 67 = .ok (.aload_n 1, 1) := by decide +kernel
theorem dX7_compositionOf_68 : decode cX7_compositionOf 68 = .ok (.iload 6, 2) := by decide +kernel
theorem dX7_compositionOf_70 : decode cX7_compositionOf 70 = .ok (.laload, 1) := by decide +kernel
theorem dX7_compositionOf_71 : decode cX7_compositionOf 71 = .ok (.lastore, 1) := by decide +kernel
theorem dX7_compositionOf_72 : decode cX7_compositionOf 72 = .ok (.iconst 0, 1) := by decide +kernel
theorem dX7_compositionOf_73 : decode cX7_compositionOf 73 = .ok (.istore 7, 2) := by decide +kernel
theorem dX7_compositionOf_75 : decode cX7_compositionOf 75 = .ok (.iload 7, 2) := by decide +kernel
theorem dX7_compositionOf_77 : decode cX7_compositionOf 77 = .ok (.iload 6, 2) := by decide +kernel
theorem dX7_compositionOf_79 : decode cX7_compositionOf 79 = .ok (.invokestatic 93, 3) := by decide +kernel
theorem dX7_compositionOf_82 : decode cX7_compositionOf 82 = .ok (.if_icmp .ge 29, 3) := by decide +kernel
theorem dX7_compositionOf_85 : decode cX7_compositionOf 85 = .ok (.iload 5, 2) := by decide +kernel
theorem dX7_compositionOf_87 : decode cX7_compositionOf 87 = .ok (.ifCond .eq 24, 3) := by decide +kernel
theorem dX7_compositionOf_90 : decode cX7_compositionOf 90 = .ok (.aload_n 0, 1) := by decide +kernel
theorem dX7_compositionOf_91 : decode cX7_compositionOf 91 = .ok (.aload_n 0, 1) := by decide +kernel
theorem dX7_compositionOf_92 : decode cX7_compositionOf 92 = .ok (.getfield 38, 3) := by decide +kernel
theorem dX7_compositionOf_95 : decode cX7_compositionOf 95 = .ok (.aload_n 2, 1) := by decide +kernel
theorem dX7_compositionOf_96 : decode cX7_compositionOf 96 = .ok (.aload_n 0, 1) := by decide +kernel
theorem dX7_compositionOf_97 : decode cX7_compositionOf 97 = .ok (.getfield 38, 3) := by decide +kernel
theorem dX7_compositionOf_100 : decode cX7_compositionOf 100 = .ok (.invokevirtual 153, 3) := by decide +kernel
theorem dX7_compositionOf_103 : decode cX7_compositionOf 103 = .ok (.istore 5, 2) := by decide +kernel
theorem dX7_compositionOf_105 : decode cX7_compositionOf 105 = .ok (.iinc 7 1, 3) := by decide +kernel
theorem dX7_compositionOf_108 : decode cX7_compositionOf 108 = .ok (.goto (-33), 3) := by decide +kernel
theorem dX7_compositionOf_111 : decode cX7_compositionOf 111 = .ok (.iconst 0, 1) := by decide +kernel
theorem dX7_compositionOf_112 : decode cX7_compositionOf 112 = .ok (.istore 7, 2) := by decide +kernel
theorem dX7_compositionOf_114 : decode cX7_compositionOf 114 = .ok (.iload 7, 2) := by decide +kernel
theorem dX7_compositionOf_116 : decode cX7_compositionOf 116 = .ok (.iload 6, 2) := by decide +kernel
theorem dX7_compositionOf_118 : decode cX7_compositionOf 118 = .ok (.invokestatic 97, 3) := by decide +kernel
theorem dX7_compositionOf_121 : decode cX7_compositionOf 121 = .ok (.if_icmp .ge 29, 3) := by decide +kernel
theorem dX7_compositionOf_124 : decode cX7_compositionOf 124 = .ok (.iload 5, 2) := by decide +kernel
theorem dX7_compositionOf_126 : decode cX7_compositionOf 126 = .ok (.ifCond .eq 24, 3) := by decide +kernel
theorem dX7_compositionOf_129 : decode cX7_compositionOf 129 = .ok (.aload_n 0, 1) := by decide +kernel
theorem dX7_compositionOf_130 : decode cX7_compositionOf 130 = .ok (.aload_n 0, 1) := by decide +kernel
theorem dX7_compositionOf_131 : decode cX7_compositionOf 131 = .ok (.getfield 38, 3) := by decide +kernel
theorem dX7_compositionOf_134 : decode cX7_compositionOf 134 = .ok (.aload_n 3, 1) := by decide +kernel
theorem dX7_compositionOf_135 : decode cX7_compositionOf 135 = .ok (.aload_n 0, 1) := by decide +kernel
theorem dX7_compositionOf_136 : decode cX7_compositionOf 136 = .ok (.getfield 38, 3) := by decide +kernel
theorem dX7_compositionOf_139 : decode cX7_compositionOf 139 = .ok (.invokevirtual 153, 3) := by decide +kernel
theorem dX7_compositionOf_142 : decode cX7_compositionOf 142 = .ok (.istore 5, 2) := by decide +kernel
theorem dX7_compositionOf_144 : decode cX7_compositionOf 144 = .ok (.iinc 7 1, 3) := by decide +kernel
theorem dX7_compositionOf_147 : decode cX7_compositionOf 147 = .ok (.goto (-33), 3) := by decide +kernel
theorem dX7_compositionOf_150 : decode cX7_compositionOf 150 = .ok (.iload 5, 2) := by decide +kernel
theorem dX7_compositionOf_152 : decode cX7_compositionOf 152 = .ok (.ifCond .eq 26, 3) := by decide +kernel
theorem dX7_compositionOf_155 : decode cX7_compositionOf 155 = .ok (.aload_n 0, 1) := by decide +kernel
theorem dX7_compositionOf_156 : decode cX7_compositionOf 156 = .ok (.getfield 35, 3) := by decide +kernel
theorem dX7_compositionOf_159 : decode cX7_compositionOf 159 = .ok (.aload_n 0, 1) := by decide +kernel
theorem dX7_compositionOf_160 : decode cX7_compositionOf 160 = .ok (.getfield 38, 3) := by decide +kernel
theorem dX7_compositionOf_163 : decode cX7_compositionOf 163 = .ok (.iconst 1, 1) := by decide +kernel
theorem dX7_compositionOf_164 : decode cX7_compositionOf 164 = .ok (.aload_n 0, 1) := by decide +kernel
theorem dX7_compositionOf_165 : decode cX7_compositionOf 165 = .ok (.getfield 35, 3) := by decide +kernel
theorem dX7_compositionOf_168 : decode cX7_compositionOf 168 = .ok (.invokestatic 157, 3) := by decide +kernel
theorem dX7_compositionOf_171 : decode cX7_compositionOf 171 = .ok (.ifCond .eq 7, 3) := by decide +kernel
theorem dX7_compositionOf_174 : decode cX7_compositionOf 174 = .ok (.iconst 1, 1) := by decide +kernel
theorem dX7_compositionOf_175 : decode cX7_compositionOf 175 = .ok (.goto 4, 3) := by decide +kernel
theorem dX7_compositionOf_178 : decode cX7_compositionOf 178 = .ok (.iconst 0, 1) := by decide +kernel
theorem dX7_compositionOf_179 : decode cX7_compositionOf 179 = .ok (.istore 5, 2) := by decide +kernel
theorem dX7_compositionOf_181 : decode cX7_compositionOf 181 = .ok (.iinc 6 1, 3) := by decide +kernel
theorem dX7_compositionOf_184 : decode cX7_compositionOf 184 = .ok (.goto (-153), 3) := by decide +kernel
theorem dX7_compositionOf_187 : decode cX7_compositionOf 187 = .ok (.aload_n 0, 1) := by decide +kernel
theorem dX7_compositionOf_188 : decode cX7_compositionOf 188 = .ok (.getfield 35, 3) := by decide +kernel
theorem dX7_compositionOf_191 : decode cX7_compositionOf 191 = .ok (.bipush 10, 2) := by decide +kernel
theorem dX7_compositionOf_193 : decode cX7_compositionOf 193 = .ok (.dup2, 1) := by decide +kernel
theorem dX7_compositionOf_194 : decode cX7_compositionOf 194 = .ok (.laload, 1) := by decide +kernel
theorem dX7_compositionOf_195 : decode cX7_compositionOf 195 = .ok (.aload_n 1, 1) := by decide +kernel
theorem dX7_compositionOf_196 : decode cX7_compositionOf 196 = .ok (.bipush 10, 2) := by decide +kernel
theorem dX7_compositionOf_198 : decode cX7_compositionOf 198 = .ok (.laload, 1) := by decide +kernel
theorem dX7_compositionOf_199 : decode cX7_compositionOf 199 = .ok (.ladd, 1) := by decide +kernel
theorem dX7_compositionOf_200 : decode cX7_compositionOf 200 = .ok (.lastore, 1) := by decide +kernel
theorem dX7_compositionOf_201 : decode cX7_compositionOf 201 = .ok (.aload_n 0, 1) := by decide +kernel
theorem dX7_compositionOf_202 : decode cX7_compositionOf 202 = .ok (.getfield 35, 3) := by decide +kernel
theorem dX7_compositionOf_205 : decode cX7_compositionOf 205 = .ok (.bipush 11, 2) := by decide +kernel
theorem dX7_compositionOf_207 : decode cX7_compositionOf 207 = .ok (.dup2, 1) := by decide +kernel
theorem dX7_compositionOf_208 : decode cX7_compositionOf 208 = .ok (.laload, 1) := by decide +kernel
theorem dX7_compositionOf_209 : decode cX7_compositionOf 209 = .ok (.aload_n 1, 1) := by decide +kernel
theorem dX7_compositionOf_210 : decode cX7_compositionOf 210 = .ok (.bipush 11, 2) := by decide +kernel
theorem dX7_compositionOf_212 : decode cX7_compositionOf 212 = .ok (.laload, 1) := by decide +kernel
theorem dX7_compositionOf_213 : decode cX7_compositionOf 213 = .ok (.ladd, 1) := by decide +kernel
theorem dX7_compositionOf_214 : decode cX7_compositionOf 214 = .ok (.lastore, 1) := by decide +kernel
theorem dX7_compositionOf_215 : decode cX7_compositionOf 215 = .ok (.iload 5, 2) := by decide +kernel
theorem dX7_compositionOf_217 : decode cX7_compositionOf 217 = .ok (.ifCond .eq 13, 3) := by decide +kernel
theorem dX7_compositionOf_220 : decode cX7_compositionOf 220 = .ok (.aload_n 0, 1) := by decide +kernel
theorem dX7_compositionOf_221 : decode cX7_compositionOf 221 = .ok (.getfield 35, 3) := by decide +kernel
theorem dX7_compositionOf_224 : decode cX7_compositionOf 224 = .ok (.invokestatic 118, 3) := by decide +kernel
theorem dX7_compositionOf_227 : decode cX7_compositionOf 227 = .ok (.ifCond .ne 5, 3) := by decide +kernel
theorem dX7_compositionOf_230 : decode cX7_compositionOf 230 = .ok (.iconst 3, 1) := by decide +kernel
theorem dX7_compositionOf_231 : decode cX7_compositionOf 231 = .ok (.ireturn, 1) := by decide +kernel
theorem dX7_compositionOf_232 : decode cX7_compositionOf 232 = .ok (.aload_n 0, 1) := by decide +kernel
theorem dX7_compositionOf_233 : decode cX7_compositionOf 233 = .ok (.getfield 35, 3) := by decide +kernel
theorem dX7_compositionOf_236 : decode cX7_compositionOf 236 = .ok (.aload 4, 2) := by decide +kernel
theorem dX7_compositionOf_238 : decode cX7_compositionOf 238 = .ok (.invokestatic 147, 3) := by decide +kernel
theorem dX7_compositionOf_241 : decode cX7_compositionOf 241 = .ok (.iconst 0, 1) := by decide +kernel
theorem dX7_compositionOf_242 : decode cX7_compositionOf 242 = .ok (.ireturn, 1) := by decide +kernel
theorem dX7_integralOf_0 : decode cX7_integralOf 0 = .ok (.aload_n 0, 1) := by decide +kernel
theorem dX7_integralOf_1 : decode cX7_integralOf 1 = .ok (.getfield 41, 3) := by decide +kernel
theorem dX7_integralOf_4 : decode cX7_integralOf 4 = .ok (.invokestatic 129, 3) := by decide +kernel
theorem dX7_integralOf_7 : decode cX7_integralOf 7 = .ok (.iconst 0, 1) := by decide +kernel
theorem dX7_integralOf_8 : decode cX7_integralOf 8 = .ok (.istore 4, 2) := by decide +kernel
theorem dX7_integralOf_10 : decode cX7_integralOf 10 = .ok (.iload 4, 2) := by decide +kernel
theorem dX7_integralOf_12 : decode cX7_integralOf 12 = .ok (.bipush 10, 2) := by decide +kernel
theorem dX7_integralOf_14 : decode cX7_integralOf 14 = .ok (.if_icmp .ge 182, 3) := by decide +kernel
theorem dX7_integralOf_17 : decode cX7_integralOf 17 = .ok (.iload 4, 2) := by decide +kernel
theorem dX7_integralOf_19 : decode cX7_integralOf 19 = .ok (.invokestatic 93, 3) := by decide +kernel
theorem dX7_integralOf_22 : decode cX7_integralOf 22 = .ok (.iconst 1, 1) := by decide +kernel
theorem dX7_integralOf_23 : decode cX7_integralOf 23 = .ok (.iadd, 1) := by decide +kernel
theorem dX7_integralOf_24 : decode cX7_integralOf 24 = .ok (.iload_n 2, 1) := by decide +kernel
theorem dX7_integralOf_25 : decode cX7_integralOf 25 = .ok (.isub, 1) := by decide +kernel
theorem dX7_integralOf_26 : decode cX7_integralOf 26 = .ok (.istore 5, 2) := by decide +kernel
theorem dX7_integralOf_28 : decode cX7_integralOf 28 = .ok (.iload 4, 2) := by decide +kernel
theorem dX7_integralOf_30 : decode cX7_integralOf 30 = .ok (.invokestatic 97, 3) := by decide +kernel
theorem dX7_integralOf_33 : decode cX7_integralOf 33 = .ok (.iload_n 2, 1) := by decide +kernel
theorem dX7_integralOf_34 : decode cX7_integralOf 34 = .ok (.iadd, 1) := by decide +kernel
theorem dX7_integralOf_35 : decode cX7_integralOf 35 = .ok (.istore 6, 2) := by decide +kernel
theorem dX7_integralOf_37 : decode cX7_integralOf 37 = .ok (.iload_n 2, 1) := by decide +kernel
theorem dX7_integralOf_38 : decode cX7_integralOf 38 = .ok (.ifCond .ne 8, 3) := by decide +kernel
theorem dX7_integralOf_41 : decode cX7_integralOf 41 = .ok (.iload 5, 2) := by decide +kernel
theorem dX7_integralOf_43 : decode cX7_integralOf 43 = .ok (.goto 5, 3) := by decide +kernel
theorem dX7_integralOf_46 : decode cX7_integralOf 46 = .ok (.iload 6, 2) := by decide +kernel
theorem dX7_integralOf_48 : decode cX7_integralOf 48 = .ok (.istore 7, 2) := by decide +kernel
theorem dX7_integralOf_50 : decode cX7_integralOf 50 = .ok (.iload 5, 2) := by decide +kernel
theorem dX7_integralOf_52 : decode cX7_integralOf 52 = .ok (.iload 6, 2) := by decide +kernel
theorem dX7_integralOf_54 : decode cX7_integralOf 54 = .ok (.iadd, 1) := by decide +kernel
theorem dX7_integralOf_55 : decode cX7_integralOf 55 = .ok (.iconst 3, 1) := by decide +kernel
theorem dX7_integralOf_56 : decode cX7_integralOf 56 = .ok (.if_icmp .le 60, 3) := by decide +kernel
theorem dX7_integralOf_59 : decode cX7_integralOf 59 = .ok (.aload_n 0, 1) := by decide +kernel
theorem dX7_integralOf_60 : decode cX7_integralOf 60 = .ok (.getfield 41, 3) := by decide +kernel
theorem dX7_integralOf_63 : decode cX7_integralOf 63 = .ok (.bipush 10, 2) := by decide +kernel
theorem dX7_integralOf_65 : decode cX7_integralOf 65 = .ok (.dup2, 1) := by decide +kernel
theorem dX7_integralOf_66 : decode cX7_integralOf 66 = .ok (.laload, 1) := by decide +kernel
theorem dX7_integralOf_67 : decode cX7_integralOf 67 = .ok (.aload_n 1, 1) := by decide +kernel
theorem dX7_integralOf_68 : decode cX7_integralOf 68 = .ok (.iload 4, 2) := by decide +kernel
theorem dX7_integralOf_70 : decode cX7_integralOf 70 = .ok (.laload, 1) := by decide +kernel
theorem dX7_integralOf_71 : decode cX7_integralOf 71 = .ok (.iload 5, 2) := by decide +kernel
theorem dX7_integralOf_73 : decode cX7_integralOf 73 = .ok (.iload 6, 2) := by decide +kernel
theorem dX7_integralOf_75 : decode cX7_integralOf 75 = .ok (.invokestatic 89, 3) := by decide +kernel
theorem dX7_integralOf_78 : decode cX7_integralOf 78 = .ok (.iload 7, 2) := by decide +kernel
theorem dX7_integralOf_80 : decode cX7_integralOf 80 = .ok (.i2l, 1) := by decide +kernel
theorem dX7_integralOf_81 : decode cX7_integralOf 81 = .ok (.invokestatic 82, 3) := by decide +kernel
theorem dX7_integralOf_84 : decode cX7_integralOf 84 = .ok (.ladd, 1) := by decide +kernel
theorem dX7_integralOf_85 : decode cX7_integralOf 85 = .ok (.lastore, 1) := by decide +kernel
theorem dX7_integralOf_86 : decode cX7_integralOf 86 = .ok (.aload_n 0, 1) := by decide +kernel
theorem dX7_integralOf_87 : decode cX7_integralOf 87 = .ok (.getfield 41, 3) := by decide +kernel
theorem dX7_integralOf_90 : decode cX7_integralOf 90 = .ok (.bipush 11, 2) := by decide +kernel
theorem dX7_integralOf_92 : decode cX7_integralOf 92 = .ok (.dup2, 1) := by decide +kernel
theorem dX7_integralOf_93 : decode cX7_integralOf 93 = .ok (.laload, 1) := by decide +kernel
theorem dX7_integralOf_94 : decode cX7_integralOf 94 = .ok (.aload_n 1, 1) := by decide +kernel
theorem dX7_integralOf_95 : decode cX7_integralOf 95 = .ok (.iload 4, 2) := by decide +kernel
theorem dX7_integralOf_97 : decode cX7_integralOf 97 = .ok (.laload, 1) := by decide +kernel
theorem dX7_integralOf_98 : decode cX7_integralOf 98 = .ok (.iload 5, 2) := by decide +kernel
theorem dX7_integralOf_100 : decode cX7_integralOf 100 = .ok (.iload 6, 2) := by decide +kernel
theorem dX7_integralOf_102 : decode cX7_integralOf 102 = .ok (.invokestatic 100, 3) := by decide +kernel
theorem dX7_integralOf_105 : decode cX7_integralOf 105 = .ok (.iload 7, 2) := by decide +kernel
theorem dX7_integralOf_107 : decode cX7_integralOf 107 = .ok (.i2l, 1) := by decide +kernel
theorem dX7_integralOf_108 : decode cX7_integralOf 108 = .ok (.invokestatic 144, 3) := by decide +kernel
theorem dX7_integralOf_111 : decode cX7_integralOf 111 = .ok (.ladd, 1) := by decide +kernel
theorem dX7_integralOf_112 : decode cX7_integralOf 112 = .ok (.lastore, 1) := by decide +kernel
theorem dX7_integralOf_113 : decode cX7_integralOf 113 = .ok (.goto 77, 3) := by decide +kernel
theorem dX7_integralOf_116 : decode cX7_integralOf 116 = .ok (.aload_n 0, 1) := by decide +kernel
theorem dX7_integralOf_117 : decode cX7_integralOf 117 = .ok (.getfield 41, 3) := by decide +kernel
theorem dX7_integralOf_120 : decode cX7_integralOf 120 = .ok (.iload 5, 2) := by decide +kernel
theorem dX7_integralOf_122 : decode cX7_integralOf 122 = .ok (.iload 6, 2) := by decide +kernel
theorem dX7_integralOf_124 : decode cX7_integralOf 124 = .ok (.invokestatic 133, 3) := by decide +kernel
theorem dX7_integralOf_127 : decode cX7_integralOf 127 = .ok (.aload_n 1, 1) := by decide +kernel
theorem dX7_integralOf_128 : decode cX7_integralOf 128 = .ok (.iload 4, 2) := by decide +kernel
theorem dX7_integralOf_130 : decode cX7_integralOf 130 = .ok (.laload, 1) := by decide +kernel
theorem dX7_integralOf_131 : decode cX7_integralOf 131 = .ok (.iload 7, 2) := by decide +kernel
theorem dX7_integralOf_133 : decode cX7_integralOf 133 = .ok (.i2l, 1) := by decide +kernel
theorem dX7_integralOf_134 : decode cX7_integralOf 134 = .ok (.invokestatic 82, 3) := by decide +kernel
theorem dX7_integralOf_137 : decode cX7_integralOf 137 = .ok (.lastore, 1) := by decide +kernel
theorem dX7_integralOf_138 : decode cX7_integralOf 138 = .ok (.aload_n 1, 1) := by decide +kernel
theorem dX7_integralOf_139 : decode cX7_integralOf 139 = .ok (.iload 4, 2) := by decide +kernel
theorem dX7_integralOf_141 : decode cX7_integralOf 141 = .ok (.laload, 1) := by decide +kernel
theorem dX7_integralOf_142 : decode cX7_integralOf 142 = .ok (.iload 7, 2) := by decide +kernel
theorem dX7_integralOf_144 : decode cX7_integralOf 144 = .ok (.i2l, 1) := by decide +kernel
theorem dX7_integralOf_145 : decode cX7_integralOf 145 = .ok (.lrem, 1) := by decide +kernel
theorem dX7_integralOf_146 : decode cX7_integralOf 146 = .ok (.lconst 0, 1) := by decide +kernel
theorem dX7_integralOf_147 : decode cX7_integralOf 147 = .ok (.lcmp, 1) := by decide +kernel
theorem dX7_integralOf_148 : decode cX7_integralOf 148 = .ok (.ifCond .ne 6, 3) := by decide +kernel
theorem dX7_integralOf_151 : decode cX7_integralOf 151 = .ok (.goto 39, 3) := by decide +kernel
theorem dX7_integralOf_154 : decode cX7_integralOf 154 = .ok (.aload_n 0, 1) := by decide +kernel
theorem dX7_integralOf_155 : decode cX7_integralOf 155 = .ok (.getfield 41, 3) := by decide +kernel
theorem dX7_integralOf_158 : decode cX7_integralOf 158 = .ok (.bipush 10, 2) := by decide +kernel
theorem dX7_integralOf_160 : decode cX7_integralOf 160 = .ok (.dup2, 1) := by decide +kernel
theorem dX7_integralOf_161 : decode cX7_integralOf 161 = .ok (.laload, 1) := by decide +kernel
theorem dX7_integralOf_162 : decode cX7_integralOf 162 = .ok (.lconst 1, 1) := by decide +kernel
theorem dX7_integralOf_163 : decode cX7_integralOf 163 = .ok (.iload 5, 2) := by decide +kernel
theorem dX7_integralOf_165 : decode cX7_integralOf 165 = .ok (.iload 6, 2) := by decide +kernel
theorem dX7_integralOf_167 : decode cX7_integralOf 167 = .ok (.invokestatic 89, 3) := by decide +kernel
theorem dX7_integralOf_170 : decode cX7_integralOf 170 = .ok (.ladd, 1) := by decide +kernel
theorem dX7_integralOf_171 : decode cX7_integralOf 171 = .ok (.lastore, 1) := by decide +kernel
theorem dX7_integralOf_172 : decode cX7_integralOf 172 = .ok (.aload_n 0, 1) := by decide +kernel
theorem dX7_integralOf_173 : decode cX7_integralOf 173 = .ok (.getfield 41, 3) := by decide +kernel
theorem dX7_integralOf_176 : decode cX7_integralOf 176 = .ok (.bipush 11, 2) := by decide +kernel
theorem dX7_integralOf_178 : decode cX7_integralOf 178 = .ok (.dup2, 1) := by decide +kernel
theorem dX7_integralOf_179 : decode cX7_integralOf 179 = .ok (.laload, 1) := by decide +kernel
theorem dX7_integralOf_180 : decode cX7_integralOf 180 = .ok (.lconst 1, 1) := by decide +kernel
theorem dX7_integralOf_181 : decode cX7_integralOf 181 = .ok (.iload 5, 2) := by decide +kernel
theorem dX7_integralOf_183 : decode cX7_integralOf 183 = .ok (.iload 6, 2) := by decide +kernel
theorem dX7_integralOf_185 : decode cX7_integralOf 185 = .ok (.invokestatic 100, 3) := by decide +kernel
theorem dX7_integralOf_188 : decode cX7_integralOf 188 = .ok (.ladd, 1) := by decide +kernel
theorem dX7_integralOf_189 : decode cX7_integralOf 189 = .ok (.lastore, 1) := by decide +kernel
theorem dX7_integralOf_190 : decode cX7_integralOf 190 = .ok (.iinc 4 1, 3) := by decide +kernel
theorem dX7_integralOf_193 : decode cX7_integralOf 193 = .ok (.goto (-183), 3) := by decide +kernel
theorem dX7_integralOf_196 : decode cX7_integralOf 196 = .ok (.aload_n 1, 1) := by decide +kernel
theorem dX7_integralOf_197 : decode cX7_integralOf 197 = .ok (.bipush 10, 2) := by decide +kernel
theorem dX7_integralOf_199 : decode cX7_integralOf 199 = .ok (.laload, 1) := by decide +kernel
theorem dX7_integralOf_200 : decode cX7_integralOf 200 = .ok (.aload_n 1, 1) := by decide +kernel
theorem dX7_integralOf_201 : decode cX7_integralOf 201 = .ok (.bipush 10, 2) := by decide +kernel
theorem dX7_integralOf_203 : decode cX7_integralOf 203 = .ok (.laload, 1) := by decide +kernel
theorem dX7_integralOf_204 : decode cX7_integralOf 204 = .ok (.lneg, 1) := by decide +kernel
theorem dX7_integralOf_205 : decode cX7_integralOf 205 = .ok (.invokestatic 122, 3) := by decide +kernel
theorem dX7_integralOf_208 : decode cX7_integralOf 208 = .ok (.aload_n 1, 1) := by decide +kernel
theorem dX7_integralOf_209 : decode cX7_integralOf 209 = .ok (.bipush 11, 2) := by decide +kernel
theorem dX7_integralOf_211 : decode cX7_integralOf 211 = .ok (.laload, 1) := by decide +kernel
theorem dX7_integralOf_212 : decode cX7_integralOf 212 = .ok (.aload_n 1, 1) := by decide +kernel
theorem dX7_integralOf_213 : decode cX7_integralOf 213 = .ok (.bipush 11, 2) := by decide +kernel
theorem dX7_integralOf_215 : decode cX7_integralOf 215 = .ok (.laload, 1) := by decide +kernel
theorem dX7_integralOf_216 : decode cX7_integralOf 216 = .ok (.lneg, 1) := by decide +kernel
theorem dX7_integralOf_217 : decode cX7_integralOf 217 = .ok (.invokestatic 122, 3) := by decide +kernel
theorem dX7_integralOf_220 : decode cX7_integralOf 220 = .ok (.invokestatic 122, 3) := by decide +kernel
theorem dX7_integralOf_223 : decode cX7_integralOf 223 = .ok (.lstore 4, 2) := by decide +kernel
theorem dX7_integralOf_225 : decode cX7_integralOf 225 = .ok (.aload_n 0, 1) := by decide +kernel
theorem dX7_integralOf_226 : decode cX7_integralOf 226 = .ok (.getfield 41, 3) := by decide +kernel
theorem dX7_integralOf_229 : decode cX7_integralOf 229 = .ok (.bipush 10, 2) := by decide +kernel
theorem dX7_integralOf_231 : decode cX7_integralOf 231 = .ok (.dup2, 1) := by decide +kernel
theorem dX7_integralOf_232 : decode cX7_integralOf 232 = .ok (.laload, 1) := by decide +kernel
theorem dX7_integralOf_233 : decode cX7_integralOf 233 = .ok (.lload 4, 2) := by decide +kernel
theorem dX7_integralOf_235 : decode cX7_integralOf 235 = .ok (.lsub, 1) := by decide +kernel
theorem dX7_integralOf_236 : decode cX7_integralOf 236 = .ok (.lastore, 1) := by decide +kernel
theorem dX7_integralOf_237 : decode cX7_integralOf 237 = .ok (.aload_n 0, 1) := by decide +kernel
theorem dX7_integralOf_238 : decode cX7_integralOf 238 = .ok (.getfield 41, 3) := by decide +kernel
theorem dX7_integralOf_241 : decode cX7_integralOf 241 = .ok (.bipush 11, 2) := by decide +kernel
theorem dX7_integralOf_243 : decode cX7_integralOf 243 = .ok (.dup2, 1) := by decide +kernel
theorem dX7_integralOf_244 : decode cX7_integralOf 244 = .ok (.laload, 1) := by decide +kernel
theorem dX7_integralOf_245 : decode cX7_integralOf 245 = .ok (.lload 4, 2) := by decide +kernel
theorem dX7_integralOf_247 : decode cX7_integralOf 247 = .ok (.ladd, 1) := by decide +kernel
theorem dX7_integralOf_248 : decode cX7_integralOf 248 = .ok (.lastore, 1) := by decide +kernel
theorem dX7_integralOf_249 : decode cX7_integralOf 249 = .ok (.aload_n 0, 1) := by decide +kernel
theorem dX7_integralOf_250 : decode cX7_integralOf 250 = .ok (.getfield 41, 3) := by decide +kernel
theorem dX7_integralOf_253 : decode cX7_integralOf 253 = .ok (.aload_n 3, 1) := by decide +kernel
theorem dX7_integralOf_254 : decode cX7_integralOf 254 = .ok (.invokestatic 147, 3) := by decide +kernel
theorem dX7_integralOf_257 : decode cX7_integralOf 257 = .ok (.aload_n 3, 1) := by decide +kernel
theorem dX7_integralOf_258 : decode cX7_integralOf 258 = .ok (.invokestatic 118, 3) := by decide +kernel
theorem dX7_integralOf_261 : decode cX7_integralOf 261 = .ok (.ireturn, 1) := by decide +kernel
theorem dX7_append_0 : decode cX7_append 0 = .ok (.aload_n 0, 1) := by decide +kernel
theorem dX7_append_1 : decode cX7_append 1 = .ok (.iconst 0, 1) := by decide +kernel
theorem dX7_append_2 : decode cX7_append 2 = .ok (.putfield 79, 3) := by decide +kernel
theorem dX7_append_5 : decode cX7_append 5 = .ok (.aload_n 0, 1) := by decide +kernel
theorem dX7_append_6 : decode cX7_append 6 = .ok (.getfield 161, 3) := by decide +kernel
theorem dX7_append_9 : decode cX7_append 9 = .ok (.bipush 20, 2) := by decide +kernel
theorem dX7_append_11 : decode cX7_append 11 = .ok (.iadd, 1) := by decide +kernel
theorem dX7_append_12 : decode cX7_append 12 = .ok (.sipush 700, 3) := by decide +kernel
theorem dX7_append_15 : decode cX7_append 15 = .ok (.if_icmp .le 5, 3) := by decide +kernel
theorem dX7_append_18 : decode cX7_append 18 = .ok (.iconst (-1), 1) := by decide +kernel
theorem dX7_append_19 : decode cX7_append 19 = .ok (.ireturn, 1) := by decide +kernel
theorem dX7_append_20 : decode cX7_append 20 = .ok (.iconst 0, 1) := by decide +kernel
theorem dX7_append_21 : decode cX7_append 21 = .ok (.istore 6, 2) := by decide +kernel
theorem dX7_append_23 : decode cX7_append 23 = .ok (.iload 6, 2) := by decide +kernel
theorem dX7_append_25 : decode cX7_append 25 = .ok (.bipush 20, 2) := by decide +kernel
theorem dX7_append_27 : decode cX7_append 27 = .ok (.if_icmp .ge 93, 3) := by decide +kernel
theorem dX7_append_30 : decode cX7_append 30 = .ok (.iload 6, 2) := by decide +kernel
theorem dX7_append_32 : decode cX7_append 32 = .ok (.iconst 4, 1) := by decide +kernel
theorem dX7_append_33 : decode cX7_append 33 = .ok (.if_icmp .ge 7, 3) := by decide +kernel
theorem dX7_append_36 : decode cX7_append 36 = .ok (.iload_n 1, 1) := by decide +kernel
theorem dX7_append_37 : decode cX7_append 37 = .ok (.goto 39, 3) := by decide +kernel
theorem dX7_append_40 : decode cX7_append 40 = .ok (.iload 6, 2) := by decide +kernel
theorem dX7_append_42 : decode cX7_append 42 = .ok (.bipush 8, 2) := by decide +kernel
theorem dX7_append_44 : decode cX7_append 44 = .ok (.if_icmp .ge 7, 3) := by decide +kernel
theorem dX7_append_47 : decode cX7_append 47 = .ok (.iload_n 2, 1) := by decide +kernel
theorem dX7_append_48 : decode cX7_append 48 = .ok (.goto 28, 3) := by decide +kernel
theorem dX7_append_51 : decode cX7_append 51 = .ok (.iload 6, 2) := by decide +kernel
theorem dX7_append_53 : decode cX7_append 53 = .ok (.bipush 12, 2) := by decide +kernel
theorem dX7_append_55 : decode cX7_append 55 = .ok (.if_icmp .ge 7, 3) := by decide +kernel
theorem dX7_append_58 : decode cX7_append 58 = .ok (.iload_n 3, 1) := by decide +kernel
theorem dX7_append_59 : decode cX7_append 59 = .ok (.goto 17, 3) := by decide +kernel
theorem dX7_append_62 : decode cX7_append 62 = .ok (.iload 6, 2) := by decide +kernel
theorem dX7_append_64 : decode cX7_append 64 = .ok (.bipush 16, 2) := by decide +kernel
theorem dX7_append_66 : decode cX7_append 66 = .ok (.if_icmp .ge 8, 3) := by decide +kernel
theorem dX7_append_69 : decode cX7_append 69 = .ok (.iload 4, 2) := by decide +kernel
theorem dX7_append_71 : decode cX7_append 71 = .ok (.goto 5, 3) := by decide +kernel
theorem dX7_append_74 : decode cX7_append 74 = .ok (.iload 5, 2) := by decide +kernel
theorem dX7_append_76 : decode cX7_append 76 = .ok (.istore 7, 2) := by decide +kernel
theorem dX7_append_78 : decode cX7_append 78 = .ok (.aload_n 0, 1) := by decide +kernel
theorem dX7_append_79 : decode cX7_append 79 = .ok (.getfield 9, 3) := by decide +kernel
theorem dX7_append_82 : decode cX7_append 82 = .ok (.aload_n 0, 1) := by decide +kernel
theorem dX7_append_83 : decode cX7_append 83 = .ok (.getfield 161, 3) := by decide +kernel
theorem dX7_append_86 : decode cX7_append 86 = .ok (.iload 7, 2) := by decide +kernel
theorem dX7_append_88 : decode cX7_append 88 = .ok (.bipush 24, 2) := by decide +kernel
theorem dX7_append_90 : decode cX7_append 90 = .ok (.bipush 8, 2) := by decide +kernel
theorem dX7_append_92 : decode cX7_append 92 = .ok (.iload 6, 2) := by decide +kernel
theorem dX7_append_94 : decode cX7_append 94 = .ok (.iconst 4, 1) := by decide +kernel
theorem dX7_append_95 : decode cX7_append 95 = .ok (.irem, 1) := by decide +kernel
theorem dX7_append_96 : decode cX7_append 96 = .ok (.imul, 1) := by decide +kernel
theorem dX7_append_97 : decode cX7_append 97 = .ok (.isub, 1) := by decide +kernel
theorem dX7_append_98 : decode cX7_append 98 = .ok (.ishr, 1) := by decide +kernel
theorem dX7_append_99 : decode cX7_append 99 = .ok (.sipush 255, 3) := by decide +kernel
theorem dX7_append_102 : decode cX7_append 102 = .ok (.iand, 1) := by decide +kernel
theorem dX7_append_103 : decode cX7_append 103 = .ok (.iastore, 1) := by decide +kernel
theorem dX7_append_104 : decode cX7_append 104 = .ok (.aload_n 0, 1) := by decide +kernel
theorem dX7_append_105 : decode cX7_append 105 = .ok (.dup, 1) := by decide +kernel
theorem dX7_append_106 : decode cX7_append 106 = .ok (.getfield 161, 3) := by decide +kernel
theorem dX7_append_109 : decode cX7_append 109 = .ok (.iconst 1, 1) := by decide +kernel
theorem dX7_append_110 : decode cX7_append 110 = .ok (.iadd, 1) := by decide +kernel
theorem dX7_append_111 : decode cX7_append 111 = .ok (.putfield 161, 3) := by decide +kernel
theorem dX7_append_114 : decode cX7_append 114 = .ok (.iinc 6 1, 3) := by decide +kernel
theorem dX7_append_117 : decode cX7_append 117 = .ok (.goto (-94), 3) := by decide +kernel
theorem dX7_append_120 : decode cX7_append 120 = .ok (.aload_n 0, 1) := by decide +kernel
theorem dX7_append_121 : decode cX7_append 121 = .ok (.getfield 161, 3) := by decide +kernel
theorem dX7_append_124 : decode cX7_append 124 = .ok (.ireturn, 1) := by decide +kernel
theorem dX7_byteAt_0 : decode cX7_byteAt 0 = .ok (.iload_n 1, 1) := by decide +kernel
theorem dX7_byteAt_1 : decode cX7_byteAt 1 = .ok (.aload_n 0, 1) := by decide +kernel
theorem dX7_byteAt_2 : decode cX7_byteAt 2 = .ok (.getfield 164, 3) := by decide +kernel
theorem dX7_byteAt_5 : decode cX7_byteAt 5 = .ok (.if_icmp .ge 12, 3) := by decide +kernel
theorem dX7_byteAt_8 : decode cX7_byteAt 8 = .ok (.aload_n 0, 1) := by decide +kernel
theorem dX7_byteAt_9 : decode cX7_byteAt 9 = .ok (.getfield 9, 3) := by decide +kernel
theorem dX7_byteAt_12 : decode cX7_byteAt 12 = .ok (.iload_n 1, 1) := by decide +kernel
theorem dX7_byteAt_13 : decode cX7_byteAt 13 = .ok (.iaload, 1) := by decide +kernel
theorem dX7_byteAt_14 : decode cX7_byteAt 14 = .ok (.goto 4, 3) := by decide +kernel
theorem dX7_byteAt_17 : decode cX7_byteAt 17 = .ok (.iconst (-1), 1) := by decide +kernel
theorem dX7_byteAt_18 : decode cX7_byteAt 18 = .ok (.ireturn, 1) := by decide +kernel
theorem dX7_next_0 : decode cX7_next 0 = .ok (.aload_n 0, 1) := by decide +kernel
theorem dX7_next_1 : decode cX7_next 1 = .ok (.aload_n 0, 1) := by decide +kernel
theorem dX7_next_2 : decode cX7_next 2 = .ok (.getfield 167, 3) := by decide +kernel
theorem dX7_next_5 : decode cX7_next 5 = .ok (.invokevirtual 170, 3) := by decide +kernel
theorem dX7_next_8 : decode cX7_next 8 = .ok (.bipush 32, 2) := by decide +kernel
theorem dX7_next_10 : decode cX7_next 10 = .ok (.if_icmp .ne 16, 3) := by decide +kernel
theorem dX7_next_13 : decode cX7_next 13 = .ok (.aload_n 0, 1) := by decide +kernel
theorem dX7_next_14 : decode cX7_next 14 = .ok (.dup, 1) := by decide +kernel
theorem dX7_next_15 : decode cX7_next 15 = .ok (.getfield 167, 3) := by decide +kernel
theorem dX7_next_18 : decode cX7_next 18 = .ok (.iconst 1, 1) := by decide +kernel
theorem dX7_next_19 : decode cX7_next 19 = .ok (.iadd, 1) := by decide +kernel
theorem dX7_next_20 : decode cX7_next 20 = .ok (.putfield 167, 3) := by decide +kernel
theorem dX7_next_23 : decode cX7_next 23 = .ok (.goto (-23), 3) := by decide +kernel
theorem dX7_next_26 : decode cX7_next 26 = .ok (.aload_n 0, 1) := by decide +kernel
theorem dX7_next_27 : decode cX7_next 27 = .ok (.aload_n 0, 1) := by decide +kernel
theorem dX7_next_28 : decode cX7_next 28 = .ok (.getfield 167, 3) := by decide +kernel
theorem dX7_next_31 : decode cX7_next 31 = .ok (.invokevirtual 170, 3) := by decide +kernel
theorem dX7_next_34 : decode cX7_next 34 = .ok (.ireturn, 1) := by decide +kernel
theorem dX7_isGood_0 : decode cX7_isGood 0 = .ok (.aload_n 0, 1) := by decide +kernel
theorem dX7_isGood_1 : decode cX7_isGood 1 = .ok (.getfield 173, 3) := by decide +kernel
theorem dX7_isGood_4 : decode cX7_isGood 4 = .ok (.ifCond .ne 7, 3) := by decide +kernel
theorem dX7_isGood_7 : decode cX7_isGood 7 = .ok (.iconst 1, 1) := by decide +kernel
theorem dX7_isGood_8 : decode cX7_isGood 8 = .ok (.goto 4, 3) := by decide +kernel
theorem dX7_isGood_11 : decode cX7_isGood 11 = .ok (.iconst 0, 1) := by decide +kernel
theorem dX7_isGood_12 : decode cX7_isGood 12 = .ok (.ireturn, 1) := by decide +kernel
theorem dX7_report_0 : decode cX7_report 0 = .ok (.aload_n 0, 1) := by decide +kernel
theorem dX7_report_1 : decode cX7_report 1 = .ok (.getfield 173, 3) := by decide +kernel
theorem dX7_report_4 : decode cX7_report 4 = .ok (.ifCond .eq 4, 3) := by decide +kernel
theorem dX7_report_7 : decode cX7_report 7 = .ok (.return_, 1) := by decide +kernel
theorem dX7_report_8 : decode cX7_report 8 = .ok (.aload_n 0, 1) := by decide +kernel
theorem dX7_report_9 : decode cX7_report 9 = .ok (.iload_n 1, 1) := by decide +kernel
theorem dX7_report_10 : decode cX7_report 10 = .ok (.putfield 173, 3) := by decide +kernel
theorem dX7_report_13 : decode cX7_report 13 = .ok (.aload_n 0, 1) := by decide +kernel
theorem dX7_report_14 : decode cX7_report 14 = .ok (.iload_n 2, 1) := by decide +kernel
theorem dX7_report_15 : decode cX7_report 15 = .ok (.putfield 176, 3) := by decide +kernel
theorem dX7_report_18 : decode cX7_report 18 = .ok (.return_, 1) := by decide +kernel
theorem dX7_isDigit_0 : decode cX7_isDigit 0 = .ok (.iload_n 0, 1) := by decide +kernel
theorem dX7_isDigit_1 : decode cX7_isDigit 1 = .ok (.bipush 48, 2) := by decide +kernel
theorem dX7_isDigit_3 : decode cX7_isDigit 3 = .ok (.bipush 57, 2) := by decide +kernel
theorem dX7_isDigit_5 : decode cX7_isDigit 5 = .ok (.invokestatic 179, 3) := by decide +kernel
theorem dX7_isDigit_8 : decode cX7_isDigit 8 = .ok (.ireturn, 1) := by decide +kernel
theorem dX7_takeWord_0 : decode cX7_takeWord 0 = .ok (.aload_n 0, 1) := by decide +kernel
theorem dX7_takeWord_1 : decode cX7_takeWord 1 = .ok (.invokevirtual 183, 3) := by decide +kernel
theorem dX7_takeWord_4 : decode cX7_takeWord 4 = .ok (.ifCond .ne 5, 3) := by decide +kernel
theorem dX7_takeWord_7 : decode cX7_takeWord 7 = .ok (.iconst 0, 1) := by decide +kernel
theorem dX7_takeWord_8 : decode cX7_takeWord 8 = .ok (.ireturn, 1) := by decide +kernel
theorem dX7_takeWord_9 : decode cX7_takeWord 9 = .ok (.aload_n 0, 1) := by decide +kernel
theorem dX7_takeWord_10 : decode cX7_takeWord 10 = .ok (.invokevirtual 187, 3) := by decide +kernel
theorem dX7_takeWord_13 : decode cX7_takeWord 13 = .ok (.pop, 1) := by decide +kernel
theorem dX7_takeWord_14 : decode cX7_takeWord 14 = .ok (.iconst 0, 1) := by decide +kernel
theorem dX7_takeWord_15 : decode cX7_takeWord 15 = .ok (.istore_n 2, 1) := by decide +kernel
theorem dX7_takeWord_16 : decode cX7_takeWord 16 = .ok (.iload_n 2, 1) := by decide +kernel
theorem dX7_takeWord_17 : decode cX7_takeWord 17 = .ok (.aload_n 1, 1) := by decide +kernel
theorem dX7_takeWord_18 : decode cX7_takeWord 18 = .ok (.invokevirtual 191, 3) := by decide +kernel
theorem dX7_takeWord_21 : decode cX7_takeWord 21 = .ok (.if_icmp .ge 27, 3) := by decide +kernel
theorem dX7_takeWord_24 : decode cX7_takeWord 24 = .ok (.aload_n 0, 1) := by decide +kernel
theorem dX7_takeWord_25 : decode cX7_takeWord 25 = .ok (.aload_n 0, 1) := by decide +kernel
theorem dX7_takeWord_26 : decode cX7_takeWord 26 = .ok (.getfield 167, 3) := by decide +kernel
theorem dX7_takeWord_29 : decode cX7_takeWord 29 = .ok (.iload_n 2, 1) := by decide +kernel
theorem dX7_takeWord_30 : decode cX7_takeWord 30 = .ok (.iadd, 1) := by decide +kernel
theorem dX7_takeWord_31 : decode cX7_takeWord 31 = .ok (.invokevirtual 170, 3) := by decide +kernel
theorem dX7_takeWord_34 : decode cX7_takeWord 34 = .ok (.aload_n 1, 1) := by decide +kernel
theorem dX7_takeWord_35 : decode cX7_takeWord 35 = .ok (.iload_n 2, 1) := by decide +kernel
theorem dX7_takeWord_36 : decode cX7_takeWord 36 = .ok (.invokevirtual 196, 3) := by decide +kernel
theorem dX7_takeWord_39 : decode cX7_takeWord 39 = .ok (.if_icmp .ne 9, 3) := by decide +kernel
theorem dX7_takeWord_42 : decode cX7_takeWord 42 = .ok (.iinc 2 1, 3) := by decide +kernel
theorem dX7_takeWord_45 : decode cX7_takeWord 45 = .ok (.goto (-29), 3) := by decide +kernel
theorem dX7_takeWord_48 : decode cX7_takeWord 48 = .ok (.iload_n 2, 1) := by decide +kernel
theorem dX7_takeWord_49 : decode cX7_takeWord 49 = .ok (.aload_n 1, 1) := by decide +kernel
theorem dX7_takeWord_50 : decode cX7_takeWord 50 = .ok (.invokevirtual 191, 3) := by decide +kernel
theorem dX7_takeWord_53 : decode cX7_takeWord 53 = .ok (.if_icmp .lt 23, 3) := by decide +kernel
theorem dX7_takeWord_56 : decode cX7_takeWord 56 = .ok (.aload_n 0, 1) := by decide +kernel
theorem dX7_takeWord_57 : decode cX7_takeWord 57 = .ok (.aload_n 0, 1) := by decide +kernel
theorem dX7_takeWord_58 : decode cX7_takeWord 58 = .ok (.getfield 167, 3) := by decide +kernel
theorem dX7_takeWord_61 : decode cX7_takeWord 61 = .ok (.iload_n 2, 1) := by decide +kernel
theorem dX7_takeWord_62 : decode cX7_takeWord 62 = .ok (.iadd, 1) := by decide +kernel
theorem dX7_takeWord_63 : decode cX7_takeWord 63 = .ok (.invokevirtual 170, 3) := by decide +kernel
theorem dX7_takeWord_66 : decode cX7_takeWord 66 = .ok (.bipush 97, 2) := by decide +kernel
theorem dX7_takeWord_68 : decode cX7_takeWord 68 = .ok (.bipush 122, 2) := by decide +kernel
theorem dX7_takeWord_70 : decode cX7_takeWord 70 = .ok (.invokestatic 179, 3) := by decide +kernel
theorem dX7_takeWord_73 : decode cX7_takeWord 73 = .ok (.ifCond .eq 5, 3) := by decide +kernel
theorem dX7_takeWord_76 : decode cX7_takeWord 76 = .ok (.iconst 0, 1) := by decide +kernel
theorem dX7_takeWord_77 : decode cX7_takeWord 77 = .ok (.ireturn, 1) := by decide +kernel
theorem dX7_takeWord_78 : decode cX7_takeWord 78 = .ok (.aload_n 0, 1) := by decide +kernel
theorem dX7_takeWord_79 : decode cX7_takeWord 79 = .ok (.dup, 1) := by decide +kernel
theorem dX7_takeWord_80 : decode cX7_takeWord 80 = .ok (.getfield 167, 3) := by decide +kernel
theorem dX7_takeWord_83 : decode cX7_takeWord 83 = .ok (.iload_n 2, 1) := by decide +kernel
theorem dX7_takeWord_84 : decode cX7_takeWord 84 = .ok (.iadd, 1) := by decide +kernel
theorem dX7_takeWord_85 : decode cX7_takeWord 85 = .ok (.putfield 167, 3) := by decide +kernel
theorem dX7_takeWord_88 : decode cX7_takeWord 88 = .ok (.iconst 1, 1) := by decide +kernel
theorem dX7_takeWord_89 : decode cX7_takeWord 89 = .ok (.ireturn, 1) := by decide +kernel
theorem dX7_expect_0 : decode cX7_expect 0 = .ok (.aload_n 0, 1) := by decide +kernel
theorem dX7_expect_1 : decode cX7_expect 1 = .ok (.invokevirtual 183, 3) := by decide +kernel
theorem dX7_expect_4 : decode cX7_expect 4 = .ok (.ifCond .ne 4, 3) := by decide +kernel
theorem dX7_expect_7 : decode cX7_expect 7 = .ok (.return_, 1) := by decide +kernel
theorem dX7_expect_8 : decode cX7_expect 8 = .ok (.aload_n 0, 1) := by decide +kernel
theorem dX7_expect_9 : decode cX7_expect 9 = .ok (.invokevirtual 187, 3) := by decide +kernel
theorem dX7_expect_12 : decode cX7_expect 12 = .ok (.iload_n 1, 1) := by decide +kernel
theorem dX7_expect_13 : decode cX7_expect 13 = .ok (.if_icmp .ne 16, 3) := by decide +kernel
theorem dX7_expect_16 : decode cX7_expect 16 = .ok (.aload_n 0, 1) := by decide +kernel
theorem dX7_expect_17 : decode cX7_expect 17 = .ok (.dup, 1) := by decide +kernel
theorem dX7_expect_18 : decode cX7_expect 18 = .ok (.getfield 167, 3) := by decide +kernel
theorem dX7_expect_21 : decode cX7_expect 21 = .ok (.iconst 1, 1) := by decide +kernel
theorem dX7_expect_22 : decode cX7_expect 22 = .ok (.iadd, 1) := by decide +kernel
theorem dX7_expect_23 : decode cX7_expect 23 = .ok (.putfield 167, 3) := by decide +kernel
theorem dX7_expect_26 : decode cX7_expect 26 = .ok (.goto 13, 3) := by decide +kernel
theorem dX7_expect_29 : decode cX7_expect 29 = .ok (.aload_n 0, 1) := by decide +kernel
theorem dX7_expect_30 : decode cX7_expect 30 = .ok (.bipush (-2), 2) := by decide +kernel
theorem dX7_expect_32 : decode cX7_expect 32 = .ok (.aload_n 0, 1) := by decide +kernel
theorem dX7_expect_33 : decode cX7_expect 33 = .ok (.getfield 167, 3) := by decide +kernel
theorem dX7_expect_36 : decode cX7_expect 36 = .ok (.invokevirtual 200, 3) := by decide +kernel
theorem dX7_expect_39 : decode cX7_expect 39 = .ok (.return_, 1) := by decide +kernel
theorem dX7_number_0 : decode cX7_number 0 = .ok (.aload_n 0, 1) := by decide +kernel
theorem dX7_number_1 : decode cX7_number 1 = .ok (.invokevirtual 183, 3) := by decide +kernel
theorem dX7_number_4 : decode cX7_number 4 = .ok (.ifCond .ne 5, 3) := by decide +kernel
theorem dX7_number_7 : decode cX7_number 7 = .ok (.iconst 0, 1) := by decide +kernel
theorem dX7_number_8 : decode cX7_number 8 = .ok (.ireturn, 1) := by decide +kernel
theorem dX7_number_9 : decode cX7_number 9 = .ok (.aload_n 0, 1) := by decide +kernel
theorem dX7_number_10 : decode cX7_number 10 = .ok (.invokevirtual 187, 3) := by decide +kernel
theorem dX7_number_13 : decode cX7_number 13 = .ok (.invokestatic 204, 3) := by decide +kernel
theorem dX7_number_16 : decode cX7_number 16 = .ok (.ifCond .ne 15, 3) := by decide +kernel
theorem dX7_number_19 : decode cX7_number 19 = .ok (.aload_n 0, 1) := by decide +kernel
theorem dX7_number_20 : decode cX7_number 20 = .ok (.bipush (-2), 2) := by decide +kernel
theorem dX7_number_22 : decode cX7_number 22 = .ok (.aload_n 0, 1) := by decide +kernel
theorem dX7_number_23 : decode cX7_number 23 = .ok (.getfield 167, 3) := by decide +kernel
theorem dX7_number_26 : decode cX7_number 26 = .ok (.invokevirtual 200, 3) := by decide +kernel
theorem dX7_number_29 : decode cX7_number 29 = .ok (.iconst 0, 1) := by decide +kernel
theorem dX7_number_30 : decode cX7_number 30 = .ok (.ireturn, 1) := by decide +kernel
theorem dX7_number_31 : decode cX7_number 31 = .ok (.aload_n 0, 1) := by decide +kernel
theorem dX7_number_32 : decode cX7_number 32 = .ok (.aload_n 0, 1) := by decide +kernel
theorem dX7_number_33 : decode cX7_number 33 = .ok (.getfield 167, 3) := by decide +kernel
theorem dX7_number_36 : decode cX7_number 36 = .ok (.putfield 208, 3) := by decide +kernel
theorem dX7_number_39 : decode cX7_number 39 = .ok (.iconst 0, 1) := by decide +kernel
theorem dX7_number_40 : decode cX7_number 40 = .ok (.istore_n 3, 1) := by decide +kernel
theorem dX7_number_41 : decode cX7_number 41 = .ok (.aload_n 0, 1) := by decide +kernel
theorem dX7_number_42 : decode cX7_number 42 = .ok (.aload_n 0, 1) := by decide +kernel
theorem dX7_number_43 : decode cX7_number 43 = .ok (.getfield 167, 3) := by decide +kernel
theorem dX7_number_46 : decode cX7_number 46 = .ok (.invokevirtual 170, 3) := by decide +kernel
theorem dX7_number_49 : decode cX7_number 49 = .ok (.invokestatic 204, 3) := by decide +kernel
theorem dX7_number_52 : decode cX7_number 52 = .ok (.ifCond .eq 38, 3) := by decide +kernel
theorem dX7_number_55 : decode cX7_number 55 = .ok (.ldc 211, 2) := by decide +kernel
theorem dX7_number_57 : decode cX7_number 57 = .ok (.bipush 10, 2) := by decide +kernel
theorem dX7_number_59 : decode cX7_number 59 = .ok (.iload_n 3, 1) := by decide +kernel
theorem dX7_number_60 : decode cX7_number 60 = .ok (.imul, 1) := by decide +kernel
theorem dX7_number_61 : decode cX7_number 61 = .ok (.aload_n 0, 1) := by decide +kernel
theorem dX7_number_62 : decode cX7_number 62 = .ok (.aload_n 0, 1) := by decide +kernel
theorem dX7_number_63 : decode cX7_number 63 = .ok (.getfield 167, 3) := by decide +kernel
theorem dX7_number_66 : decode cX7_number 66 = .ok (.invokevirtual 170, 3) := by decide +kernel
theorem dX7_number_69 : decode cX7_number 69 = .ok (.iadd, 1) := by decide +kernel
theorem dX7_number_70 : decode cX7_number 70 = .ok (.bipush 48, 2) := by decide +kernel
theorem dX7_number_72 : decode cX7_number 72 = .ok (.isub, 1) := by decide +kernel
theorem dX7_number_73 : decode cX7_number 73 = .ok (.invokestatic 212, 3) := by decide +kernel
theorem dX7_number_76 : decode cX7_number 76 = .ok (.istore_n 3, 1) := by decide +kernel
theorem dX7_number_77 : decode cX7_number 77 = .ok (.aload_n 0, 1) := by decide +kernel
theorem dX7_number_78 : decode cX7_number 78 = .ok (.dup, 1) := by decide +kernel
theorem dX7_number_79 : decode cX7_number 79 = .ok (.getfield 167, 3) := by decide +kernel
theorem dX7_number_82 : decode cX7_number 82 = .ok (.iconst 1, 1) := by decide +kernel
theorem dX7_number_83 : decode cX7_number 83 = .ok (.iadd, 1) := by decide +kernel
theorem dX7_number_84 : decode cX7_number 84 = .ok (.putfield 167, 3) := by decide +kernel
theorem dX7_number_87 : decode cX7_number 87 = .ok (.goto (-46), 3) := by decide +kernel
theorem dX7_number_90 : decode cX7_number 90 = .ok (.iload_n 3, 1) := by decide +kernel
theorem dX7_number_91 : decode cX7_number 91 = .ok (.iload_n 1, 1) := by decide +kernel
theorem dX7_number_92 : decode cX7_number 92 = .ok (.iload_n 2, 1) := by decide +kernel
theorem dX7_number_93 : decode cX7_number 93 = .ok (.invokestatic 179, 3) := by decide +kernel
theorem dX7_number_96 : decode cX7_number 96 = .ok (.ifCond .ne 13, 3) := by decide +kernel
theorem dX7_number_99 : decode cX7_number 99 = .ok (.aload_n 0, 1) := by decide +kernel
theorem dX7_number_100 : decode cX7_number 100 = .ok (.bipush (-3), 2) := by decide +kernel
theorem dX7_number_102 : decode cX7_number 102 = .ok (.aload_n 0, 1) := by decide +kernel
theorem dX7_number_103 : decode cX7_number 103 = .ok (.getfield 208, 3) := by decide +kernel
theorem dX7_number_106 : decode cX7_number 106 = .ok (.invokevirtual 200, 3) := by decide +kernel
theorem dX7_number_109 : decode cX7_number 109 = .ok (.iload_n 3, 1) := by decide +kernel
theorem dX7_number_110 : decode cX7_number 110 = .ok (.ireturn, 1) := by decide +kernel
theorem dX7_refuse_0 : decode cX7_refuse 0 = .ok (.aload_n 0, 1) := by decide +kernel
theorem dX7_refuse_1 : decode cX7_refuse 1 = .ok (.invokevirtual 183, 3) := by decide +kernel
theorem dX7_refuse_4 : decode cX7_refuse 4 = .ok (.ifCond .ne 4, 3) := by decide +kernel
theorem dX7_refuse_7 : decode cX7_refuse 7 = .ok (.return_, 1) := by decide +kernel
theorem dX7_refuse_8 : decode cX7_refuse 8 = .ok (.aload_n 0, 1) := by decide +kernel
theorem dX7_refuse_9 : decode cX7_refuse 9 = .ok (.invokevirtual 187, 3) := by decide +kernel
theorem dX7_refuse_12 : decode cX7_refuse 12 = .ok (.pop, 1) := by decide +kernel
theorem dX7_refuse_13 : decode cX7_refuse 13 = .ok (.iload_n 1, 1) := by decide +kernel
theorem dX7_refuse_14 : decode cX7_refuse 14 = .ok (.ifCond .ne 13, 3) := by decide +kernel
theorem dX7_refuse_17 : decode cX7_refuse 17 = .ok (.aload_n 0, 1) := by decide +kernel
theorem dX7_refuse_18 : decode cX7_refuse 18 = .ok (.bipush (-5), 2) := by decide +kernel
theorem dX7_refuse_20 : decode cX7_refuse 20 = .ok (.aload_n 0, 1) := by decide +kernel
theorem dX7_refuse_21 : decode cX7_refuse 21 = .ok (.getfield 167, 3) := by decide +kernel
theorem dX7_refuse_24 : decode cX7_refuse 24 = .ok (.invokevirtual 200, 3) := by decide +kernel
theorem dX7_refuse_27 : decode cX7_refuse 27 = .ok (.return_, 1) := by decide +kernel
theorem dX7_open_0 : decode cX7_open 0 = .ok (.aload_n 0, 1) := by decide +kernel
theorem dX7_open_1 : decode cX7_open 1 = .ok (.invokevirtual 183, 3) := by decide +kernel
theorem dX7_open_4 : decode cX7_open 4 = .ok (.ifCond .ne 4, 3) := by decide +kernel
theorem dX7_open_7 : decode cX7_open 7 = .ok (.return_, 1) := by decide +kernel
theorem dX7_open_8 : decode cX7_open 8 = .ok (.aload_n 0, 1) := by decide +kernel
theorem dX7_open_9 : decode cX7_open 9 = .ok (.invokevirtual 187, 3) := by decide +kernel
theorem dX7_open_12 : decode cX7_open 12 = .ok (.iload_n 1, 1) := by decide +kernel
theorem dX7_open_13 : decode cX7_open 13 = .ok (.if_icmp .eq 16, 3) := by decide +kernel
theorem dX7_open_16 : decode cX7_open 16 = .ok (.aload_n 0, 1) := by decide +kernel
theorem dX7_open_17 : decode cX7_open 17 = .ok (.bipush (-2), 2) := by decide +kernel
theorem dX7_open_19 : decode cX7_open 19 = .ok (.aload_n 0, 1) := by decide +kernel
theorem dX7_open_20 : decode cX7_open 20 = .ok (.getfield 167, 3) := by decide +kernel
theorem dX7_open_23 : decode cX7_open 23 = .ok (.invokevirtual 200, 3) := by decide +kernel
theorem dX7_open_26 : decode cX7_open 26 = .ok (.goto 21, 3) := by decide +kernel
theorem dX7_open_29 : decode cX7_open 29 = .ok (.aload_n 0, 1) := by decide +kernel
theorem dX7_open_30 : decode cX7_open 30 = .ok (.getfield 215, 3) := by decide +kernel
theorem dX7_open_33 : decode cX7_open 33 = .ok (.iconst 4, 1) := by decide +kernel
theorem dX7_open_34 : decode cX7_open 34 = .ok (.if_icmp .ne 13, 3) := by decide +kernel
theorem dX7_open_37 : decode cX7_open 37 = .ok (.aload_n 0, 1) := by decide +kernel
theorem dX7_open_38 : decode cX7_open 38 = .ok (.bipush (-6), 2) := by decide +kernel
theorem dX7_open_40 : decode cX7_open 40 = .ok (.aload_n 0, 1) := by decide +kernel
theorem dX7_open_41 : decode cX7_open 41 = .ok (.getfield 167, 3) := by decide +kernel
theorem dX7_open_44 : decode cX7_open 44 = .ok (.invokevirtual 200, 3) := by decide +kernel
theorem dX7_open_47 : decode cX7_open 47 = .ok (.aload_n 0, 1) := by decide +kernel
theorem dX7_open_48 : decode cX7_open 48 = .ok (.dup, 1) := by decide +kernel
theorem dX7_open_49 : decode cX7_open 49 = .ok (.getfield 167, 3) := by decide +kernel
theorem dX7_open_52 : decode cX7_open 52 = .ok (.iconst 1, 1) := by decide +kernel
theorem dX7_open_53 : decode cX7_open 53 = .ok (.iadd, 1) := by decide +kernel
theorem dX7_open_54 : decode cX7_open 54 = .ok (.putfield 167, 3) := by decide +kernel
theorem dX7_open_57 : decode cX7_open 57 = .ok (.aload_n 0, 1) := by decide +kernel
theorem dX7_open_58 : decode cX7_open 58 = .ok (.dup, 1) := by decide +kernel
theorem dX7_open_59 : decode cX7_open 59 = .ok (.getfield 215, 3) := by decide +kernel
theorem dX7_open_62 : decode cX7_open 62 = .ok (.iconst 1, 1) := by decide +kernel
theorem dX7_open_63 : decode cX7_open 63 = .ok (.iadd, 1) := by decide +kernel
theorem dX7_open_64 : decode cX7_open 64 = .ok (.putfield 215, 3) := by decide +kernel
theorem dX7_open_67 : decode cX7_open 67 = .ok (.return_, 1) := by decide +kernel
theorem dX7_close_0 : decode cX7_close 0 = .ok (.aload_n 0, 1) := by decide +kernel
theorem dX7_close_1 : decode cX7_close 1 = .ok (.iload_n 1, 1) := by decide +kernel
theorem dX7_close_2 : decode cX7_close 2 = .ok (.invokevirtual 218, 3) := by decide +kernel
theorem dX7_close_5 : decode cX7_close 5 = .ok (.aload_n 0, 1) := by decide +kernel
theorem dX7_close_6 : decode cX7_close 6 = .ok (.dup, 1) := by decide +kernel
theorem dX7_close_7 : decode cX7_close 7 = .ok (.getfield 215, 3) := by decide +kernel
theorem dX7_close_10 : decode cX7_close 10 = .ok (.iconst 1, 1) := by decide +kernel
theorem dX7_close_11 : decode cX7_close 11 = .ok (.isub, 1) := by decide +kernel
theorem dX7_close_12 : decode cX7_close 12 = .ok (.putfield 215, 3) := by decide +kernel
theorem dX7_close_15 : decode cX7_close 15 = .ok (.return_, 1) := by decide +kernel
theorem dX7_takeName_0 : decode cX7_takeName 0 = .ok (.aload_n 0, 1) := by decide +kernel
theorem dX7_takeName_1 : decode cX7_takeName 1 = .ok (.invokevirtual 187, 3) := by decide +kernel
theorem dX7_takeName_4 : decode cX7_takeName 4 = .ok (.istore_n 1, 1) := by decide +kernel
theorem dX7_takeName_5 : decode cX7_takeName 5 = .ok (.iload_n 1, 1) := by decide +kernel
theorem dX7_takeName_6 : decode cX7_takeName 6 = .ok (.bipush 97, 2) := by decide +kernel
theorem dX7_takeName_8 : decode cX7_takeName 8 = .ok (.bipush 104, 2) := by decide +kernel
theorem dX7_takeName_10 : decode cX7_takeName 10 = .ok (.invokestatic 179, 3) := by decide +kernel
theorem dX7_takeName_13 : decode cX7_takeName 13 = .ok (.ifCond .eq 23, 3) := by decide +kernel
theorem dX7_takeName_16 : decode cX7_takeName 16 = .ok (.aload_n 0, 1) := by decide +kernel
theorem dX7_takeName_17 : decode cX7_takeName 17 = .ok (.aload_n 0, 1) := by decide +kernel
theorem dX7_takeName_18 : decode cX7_takeName 18 = .ok (.getfield 167, 3) := by decide +kernel
theorem dX7_takeName_21 : decode cX7_takeName 21 = .ok (.iconst 1, 1) := by decide +kernel
theorem dX7_takeName_22 : decode cX7_takeName 22 = .ok (.iadd, 1) := by decide +kernel
theorem dX7_takeName_23 : decode cX7_takeName 23 = .ok (.invokevirtual 170, 3) := by decide +kernel
theorem dX7_takeName_26 : decode cX7_takeName 26 = .ok (.bipush 97, 2) := by decide +kernel
theorem dX7_takeName_28 : decode cX7_takeName 28 = .ok (.bipush 122, 2) := by decide +kernel
theorem dX7_takeName_30 : decode cX7_takeName 30 = .ok (.invokestatic 179, 3) := by decide +kernel
theorem dX7_takeName_33 : decode cX7_takeName 33 = .ok (.ifCond .eq 5, 3) := by decide +kernel
theorem dX7_takeName_36 : decode cX7_takeName 36 = .ok (.iconst (-1), 1) := by decide +kernel
theorem dX7_takeName_37 : decode cX7_takeName 37 = .ok (.ireturn, 1) := by decide +kernel
theorem dX7_takeName_38 : decode cX7_takeName 38 = .ok (.aload_n 0, 1) := by decide +kernel
theorem dX7_takeName_39 : decode cX7_takeName 39 = .ok (.dup, 1) := by decide +kernel
theorem dX7_takeName_40 : decode cX7_takeName 40 = .ok (.getfield 167, 3) := by decide +kernel
theorem dX7_takeName_43 : decode cX7_takeName 43 = .ok (.iconst 1, 1) := by decide +kernel
theorem dX7_takeName_44 : decode cX7_takeName 44 = .ok (.iadd, 1) := by decide +kernel
theorem dX7_takeName_45 : decode cX7_takeName 45 = .ok (.putfield 167, 3) := by decide +kernel
theorem dX7_takeName_48 : decode cX7_takeName 48 = .ok (.iload_n 1, 1) := by decide +kernel
theorem dX7_takeName_49 : decode cX7_takeName 49 = .ok (.bipush 97, 2) := by decide +kernel
theorem dX7_takeName_51 : decode cX7_takeName 51 = .ok (.isub, 1) := by decide +kernel
theorem dX7_takeName_52 : decode cX7_takeName 52 = .ok (.ireturn, 1) := by decide +kernel
theorem dX7_readNamed_0 : decode cX7_readNamed 0 = .ok (.aload_n 0, 1) := by decide +kernel
theorem dX7_readNamed_1 : decode cX7_readNamed 1 = .ok (.getfield 20, 3) := by decide +kernel
theorem dX7_readNamed_4 : decode cX7_readNamed 4 = .ok (.iload_n 3, 1) := by decide +kernel
theorem dX7_readNamed_5 : decode cX7_readNamed 5 = .ok (.invokestatic 222, 3) := by decide +kernel
theorem dX7_readNamed_8 : decode cX7_readNamed 8 = .ok (.ifCond .ne 10, 3) := by decide +kernel
theorem dX7_readNamed_11 : decode cX7_readNamed 11 = .ok (.aload_n 0, 1) := by decide +kernel
theorem dX7_readNamed_12 : decode cX7_readNamed 12 = .ok (.bipush (-4), 2) := by decide +kernel
theorem dX7_readNamed_14 : decode cX7_readNamed 14 = .ok (.iload_n 2, 1) := by decide +kernel
theorem dX7_readNamed_15 : decode cX7_readNamed 15 = .ok (.invokevirtual 200, 3) := by decide +kernel
theorem dX7_readNamed_18 : decode cX7_readNamed 18 = .ok (.aload_n 0, 1) := by decide +kernel
theorem dX7_readNamed_19 : decode cX7_readNamed 19 = .ok (.invokevirtual 183, 3) := by decide +kernel
theorem dX7_readNamed_22 : decode cX7_readNamed 22 = .ok (.ifCond .ne 4, 3) := by decide +kernel
theorem dX7_readNamed_25 : decode cX7_readNamed 25 = .ok (.return_, 1) := by decide +kernel
theorem dX7_readNamed_26 : decode cX7_readNamed 26 = .ok (.aload_n 0, 1) := by decide +kernel
theorem dX7_readNamed_27 : decode cX7_readNamed 27 = .ok (.invokevirtual 187, 3) := by decide +kernel
theorem dX7_readNamed_30 : decode cX7_readNamed 30 = .ok (.bipush 91, 2) := by decide +kernel
theorem dX7_readNamed_32 : decode cX7_readNamed 32 = .ok (.if_icmp .eq 18, 3) := by decide +kernel
theorem dX7_readNamed_35 : decode cX7_readNamed 35 = .ok (.aload_n 0, 1) := by decide +kernel
theorem dX7_readNamed_36 : decode cX7_readNamed 36 = .ok (.getfield 20, 3) := by decide +kernel
theorem dX7_readNamed_39 : decode cX7_readNamed 39 = .ok (.iload_n 3, 1) := by decide +kernel
theorem dX7_readNamed_40 : decode cX7_readNamed 40 = .ok (.aload_n 0, 1) := by decide +kernel
theorem dX7_readNamed_41 : decode cX7_readNamed 41 = .ok (.getfield 52, 3) := by decide +kernel
theorem dX7_readNamed_44 : decode cX7_readNamed 44 = .ok (.iload_n 1, 1) := by decide +kernel
theorem dX7_readNamed_45 : decode cX7_readNamed 45 = .ok (.aaload, 1) := by decide +kernel
theorem dX7_readNamed_46 : decode cX7_readNamed 46 = .ok (.invokestatic 226, 3) := by decide +kernel
theorem dX7_readNamed_49 : decode cX7_readNamed 49 = .ok (.return_, 1) := by decide +kernel
theorem dX7_readNamed_50 : decode cX7_readNamed 50 = .ok (.aload_n 0, 1) := by decide +kernel
theorem dX7_readNamed_51 : decode cX7_readNamed 51 = .ok (.bipush 91, 2) := by decide +kernel
theorem dX7_readNamed_53 : decode cX7_readNamed 53 = .ok (.invokevirtual 230, 3) := by decide +kernel
theorem dX7_readNamed_56 : decode cX7_readNamed 56 = .ok (.aload_n 0, 1) := by decide +kernel
theorem dX7_readNamed_57 : decode cX7_readNamed 57 = .ok (.iload_n 1, 1) := by decide +kernel
theorem dX7_readNamed_58 : decode cX7_readNamed 58 = .ok (.iconst 1, 1) := by decide +kernel
theorem dX7_readNamed_59 : decode cX7_readNamed 59 = .ok (.iadd, 1) := by decide +kernel
theorem dX7_readNamed_60 : decode cX7_readNamed 60 = .ok (.invokevirtual 233, 3) := by decide +kernel
theorem dX7_readNamed_63 : decode cX7_readNamed 63 = .ok (.aload_n 0, 1) := by decide +kernel
theorem dX7_readNamed_64 : decode cX7_readNamed 64 = .ok (.getfield 46, 3) := by decide +kernel
theorem dX7_readNamed_67 : decode cX7_readNamed 67 = .ok (.iload_n 1, 1) := by decide +kernel
theorem dX7_readNamed_68 : decode cX7_readNamed 68 = .ok (.iconst 1, 1) := by decide +kernel
theorem dX7_readNamed_69 : decode cX7_readNamed 69 = .ok (.iadd, 1) := by decide +kernel
theorem dX7_readNamed_70 : decode cX7_readNamed 70 = .ok (.aaload, 1) := by decide +kernel
theorem dX7_readNamed_71 : decode cX7_readNamed 71 = .ok (.aload_n 0, 1) := by decide +kernel
theorem dX7_readNamed_72 : decode cX7_readNamed 72 = .ok (.getfield 55, 3) := by decide +kernel
theorem dX7_readNamed_75 : decode cX7_readNamed 75 = .ok (.iload_n 1, 1) := by decide +kernel
theorem dX7_readNamed_76 : decode cX7_readNamed 76 = .ok (.aaload, 1) := by decide +kernel
theorem dX7_readNamed_77 : decode cX7_readNamed 77 = .ok (.invokestatic 147, 3) := by decide +kernel
theorem dX7_readNamed_80 : decode cX7_readNamed 80 = .ok (.aload_n 0, 1) := by decide +kernel
theorem dX7_readNamed_81 : decode cX7_readNamed 81 = .ok (.bipush 44, 2) := by decide +kernel
theorem dX7_readNamed_83 : decode cX7_readNamed 83 = .ok (.invokevirtual 218, 3) := by decide +kernel
theorem dX7_readNamed_86 : decode cX7_readNamed 86 = .ok (.aload_n 0, 1) := by decide +kernel
theorem dX7_readNamed_87 : decode cX7_readNamed 87 = .ok (.iload_n 1, 1) := by decide +kernel
theorem dX7_readNamed_88 : decode cX7_readNamed 88 = .ok (.iconst 1, 1) := by decide +kernel
theorem dX7_readNamed_89 : decode cX7_readNamed 89 = .ok (.iadd, 1) := by decide +kernel
theorem dX7_readNamed_90 : decode cX7_readNamed 90 = .ok (.invokevirtual 233, 3) := by decide +kernel
theorem dX7_readNamed_93 : decode cX7_readNamed 93 = .ok (.aload_n 0, 1) := by decide +kernel
theorem dX7_readNamed_94 : decode cX7_readNamed 94 = .ok (.bipush 93, 2) := by decide +kernel
theorem dX7_readNamed_96 : decode cX7_readNamed 96 = .ok (.invokevirtual 236, 3) := by decide +kernel
theorem dX7_readNamed_99 : decode cX7_readNamed 99 = .ok (.aload_n 0, 1) := by decide +kernel
theorem dX7_readNamed_100 : decode cX7_readNamed 100 = .ok (.invokevirtual 183, 3) := by decide +kernel
theorem dX7_readNamed_103 : decode cX7_readNamed 103 = .ok (.ifCond .ne 4, 3) := by decide +kernel
theorem dX7_readNamed_106 : decode cX7_readNamed 106 = .ok (.return_, 1) := by decide +kernel
theorem dX7_readNamed_107 : decode cX7_readNamed 107 = .ok (.aload_n 0, 1) := by decide +kernel
theorem dX7_readNamed_108 : decode cX7_readNamed 108 = .ok (.getfield 20, 3) := by decide +kernel
theorem dX7_readNamed_111 : decode cX7_readNamed 111 = .ok (.iload_n 3, 1) := by decide +kernel
theorem dX7_readNamed_112 : decode cX7_readNamed 112 = .ok (.aload_n 0, 1) := by decide +kernel
theorem dX7_readNamed_113 : decode cX7_readNamed 113 = .ok (.getfield 58, 3) := by decide +kernel
theorem dX7_readNamed_116 : decode cX7_readNamed 116 = .ok (.invokestatic 226, 3) := by decide +kernel
theorem dX7_readNamed_119 : decode cX7_readNamed 119 = .ok (.aload_n 0, 1) := by decide +kernel
theorem dX7_readNamed_120 : decode cX7_readNamed 120 = .ok (.aload_n 0, 1) := by decide +kernel
theorem dX7_readNamed_121 : decode cX7_readNamed 121 = .ok (.aload_n 0, 1) := by decide +kernel
theorem dX7_readNamed_122 : decode cX7_readNamed 122 = .ok (.getfield 58, 3) := by decide +kernel
theorem dX7_readNamed_125 : decode cX7_readNamed 125 = .ok (.aload_n 0, 1) := by decide +kernel
theorem dX7_readNamed_126 : decode cX7_readNamed 126 = .ok (.getfield 55, 3) := by decide +kernel
theorem dX7_readNamed_129 : decode cX7_readNamed 129 = .ok (.iload_n 1, 1) := by decide +kernel
theorem dX7_readNamed_130 : decode cX7_readNamed 130 = .ok (.aaload, 1) := by decide +kernel
theorem dX7_readNamed_131 : decode cX7_readNamed 131 = .ok (.aload_n 0, 1) := by decide +kernel
theorem dX7_readNamed_132 : decode cX7_readNamed 132 = .ok (.getfield 46, 3) := by decide +kernel
theorem dX7_readNamed_135 : decode cX7_readNamed 135 = .ok (.iload_n 1, 1) := by decide +kernel
theorem dX7_readNamed_136 : decode cX7_readNamed 136 = .ok (.iconst 1, 1) := by decide +kernel
theorem dX7_readNamed_137 : decode cX7_readNamed 137 = .ok (.iadd, 1) := by decide +kernel
theorem dX7_readNamed_138 : decode cX7_readNamed 138 = .ok (.aaload, 1) := by decide +kernel
theorem dX7_readNamed_139 : decode cX7_readNamed 139 = .ok (.aload_n 0, 1) := by decide +kernel
theorem dX7_readNamed_140 : decode cX7_readNamed 140 = .ok (.getfield 52, 3) := by decide +kernel
theorem dX7_readNamed_143 : decode cX7_readNamed 143 = .ok (.iload_n 1, 1) := by decide +kernel
theorem dX7_readNamed_144 : decode cX7_readNamed 144 = .ok (.aaload, 1) := by decide +kernel
theorem dX7_readNamed_145 : decode cX7_readNamed 145 = .ok (.invokevirtual 239, 3) := by decide +kernel
theorem dX7_readNamed_148 : decode cX7_readNamed 148 = .ok (.ifCond .ne 7, 3) := by decide +kernel
theorem dX7_readNamed_151 : decode cX7_readNamed 151 = .ok (.iconst 1, 1) := by decide +kernel
theorem dX7_readNamed_152 : decode cX7_readNamed 152 = .ok (.goto 4, 3) := by decide +kernel
theorem dX7_readNamed_155 : decode cX7_readNamed 155 = .ok (.iconst 0, 1) := by decide +kernel
theorem dX7_readNamed_156 : decode cX7_readNamed 156 = .ok (.invokevirtual 243, 3) := by decide +kernel
theorem dX7_readNamed_159 : decode cX7_readNamed 159 = .ok (.return_, 1) := by decide +kernel
theorem dX7_readIntegral_0 : decode cX7_readIntegral 0 = .ok (.aload_n 0, 1) := by decide +kernel
theorem dX7_readIntegral_1 : decode cX7_readIntegral 1 = .ok (.bipush 40, 2) := by decide +kernel
theorem dX7_readIntegral_3 : decode cX7_readIntegral 3 = .ok (.invokevirtual 230, 3) := by decide +kernel
theorem dX7_readIntegral_6 : decode cX7_readIntegral 6 = .ok (.aload_n 0, 1) := by decide +kernel
theorem dX7_readIntegral_7 : decode cX7_readIntegral 7 = .ok (.iload_n 1, 1) := by decide +kernel
theorem dX7_readIntegral_8 : decode cX7_readIntegral 8 = .ok (.iconst 1, 1) := by decide +kernel
theorem dX7_readIntegral_9 : decode cX7_readIntegral 9 = .ok (.iadd, 1) := by decide +kernel
theorem dX7_readIntegral_10 : decode cX7_readIntegral 10 = .ok (.invokevirtual 233, 3) := by decide +kernel
theorem dX7_readIntegral_13 : decode cX7_readIntegral 13 = .ok (.aload_n 0, 1) := by decide +kernel
theorem dX7_readIntegral_14 : decode cX7_readIntegral 14 = .ok (.bipush 41, 2) := by decide +kernel
theorem dX7_readIntegral_16 : decode cX7_readIntegral 16 = .ok (.invokevirtual 236, 3) := by decide +kernel
theorem dX7_readIntegral_19 : decode cX7_readIntegral 19 = .ok (.aload_n 0, 1) := by decide +kernel
theorem dX7_readIntegral_20 : decode cX7_readIntegral 20 = .ok (.invokevirtual 183, 3) := by decide +kernel
theorem dX7_readIntegral_23 : decode cX7_readIntegral 23 = .ok (.ifCond .eq 26, 3) := by decide +kernel
theorem dX7_readIntegral_26 : decode cX7_readIntegral 26 = .ok (.aload_n 0, 1) := by decide +kernel
theorem dX7_readIntegral_27 : decode cX7_readIntegral 27 = .ok (.aload_n 0, 1) := by decide +kernel
theorem dX7_readIntegral_28 : decode cX7_readIntegral 28 = .ok (.aload_n 0, 1) := by decide +kernel
theorem dX7_readIntegral_29 : decode cX7_readIntegral 29 = .ok (.getfield 46, 3) := by decide +kernel
theorem dX7_readIntegral_32 : decode cX7_readIntegral 32 = .ok (.iload_n 1, 1) := by decide +kernel
theorem dX7_readIntegral_33 : decode cX7_readIntegral 33 = .ok (.iconst 1, 1) := by decide +kernel
theorem dX7_readIntegral_34 : decode cX7_readIntegral 34 = .ok (.iadd, 1) := by decide +kernel
theorem dX7_readIntegral_35 : decode cX7_readIntegral 35 = .ok (.aaload, 1) := by decide +kernel
theorem dX7_readIntegral_36 : decode cX7_readIntegral 36 = .ok (.iload_n 2, 1) := by decide +kernel
theorem dX7_readIntegral_37 : decode cX7_readIntegral 37 = .ok (.aload_n 0, 1) := by decide +kernel
theorem dX7_readIntegral_38 : decode cX7_readIntegral 38 = .ok (.getfield 52, 3) := by decide +kernel
theorem dX7_readIntegral_41 : decode cX7_readIntegral 41 = .ok (.iload_n 1, 1) := by decide +kernel
theorem dX7_readIntegral_42 : decode cX7_readIntegral 42 = .ok (.aaload, 1) := by decide +kernel
theorem dX7_readIntegral_43 : decode cX7_readIntegral 43 = .ok (.invokevirtual 247, 3) := by decide +kernel
theorem dX7_readIntegral_46 : decode cX7_readIntegral 46 = .ok (.invokevirtual 243, 3) := by decide +kernel
theorem dX7_readIntegral_49 : decode cX7_readIntegral 49 = .ok (.return_, 1) := by decide +kernel
theorem dX7_factor_0 : decode cX7_factor 0 = .ok (.aload_n 0, 1) := by decide +kernel
theorem dX7_factor_1 : decode cX7_factor 1 = .ok (.invokevirtual 183, 3) := by decide +kernel
theorem dX7_factor_4 : decode cX7_factor 4 = .ok (.ifCond .ne 4, 3) := by decide +kernel
theorem dX7_factor_7 : decode cX7_factor 7 = .ok (.return_, 1) := by decide +kernel
theorem dX7_factor_8 : decode cX7_factor 8 = .ok (.aload_n 0, 1) := by decide +kernel
theorem dX7_factor_9 : decode cX7_factor 9 = .ok (.getfield 52, 3) := by decide +kernel
theorem dX7_factor_12 : decode cX7_factor 12 = .ok (.iload_n 1, 1) := by decide +kernel
theorem dX7_factor_13 : decode cX7_factor 13 = .ok (.aaload, 1) := by decide +kernel
theorem dX7_factor_14 : decode cX7_factor 14 = .ok (.invokestatic 129, 3) := by decide +kernel
theorem dX7_factor_17 : decode cX7_factor 17 = .ok (.aload_n 0, 1) := by decide +kernel
theorem dX7_factor_18 : decode cX7_factor 18 = .ok (.invokevirtual 187, 3) := by decide +kernel
theorem dX7_factor_21 : decode cX7_factor 21 = .ok (.istore_n 2, 1) := by decide +kernel
theorem dX7_factor_22 : decode cX7_factor 22 = .ok (.aload_n 0, 1) := by decide +kernel
theorem dX7_factor_23 : decode cX7_factor 23 = .ok (.getfield 167, 3) := by decide +kernel
theorem dX7_factor_26 : decode cX7_factor 26 = .ok (.istore_n 3, 1) := by decide +kernel
theorem dX7_factor_27 : decode cX7_factor 27 = .ok (.iload_n 2, 1) := by decide +kernel
theorem dX7_factor_28 : decode cX7_factor 28 = .ok (.invokestatic 204, 3) := by decide +kernel
theorem dX7_factor_31 : decode cX7_factor 31 = .ok (.ifCond .eq 22, 3) := by decide +kernel
theorem dX7_factor_34 : decode cX7_factor 34 = .ok (.aload_n 0, 1) := by decide +kernel
theorem dX7_factor_35 : decode cX7_factor 35 = .ok (.getfield 52, 3) := by decide +kernel
theorem dX7_factor_38 : decode cX7_factor 38 = .ok (.iload_n 1, 1) := by decide +kernel
theorem dX7_factor_39 : decode cX7_factor 39 = .ok (.aaload, 1) := by decide +kernel
theorem dX7_factor_40 : decode cX7_factor 40 = .ok (.iconst 0, 1) := by decide +kernel
theorem dX7_factor_41 : decode cX7_factor 41 = .ok (.aload_n 0, 1) := by decide +kernel
theorem dX7_factor_42 : decode cX7_factor 42 = .ok (.iconst 0, 1) := by decide +kernel
theorem dX7_factor_43 : decode cX7_factor 43 = .ok (.ldc 251, 2) := by decide +kernel
theorem dX7_factor_45 : decode cX7_factor 45 = .ok (.invokevirtual 252, 3) := by decide +kernel
theorem dX7_factor_48 : decode cX7_factor 48 = .ok (.i2l, 1) := by decide +kernel
theorem dX7_factor_49 : decode cX7_factor 49 = .ok (.lastore, 1) := by decide +kernel
theorem dX7_factor_50 : decode cX7_factor 50 = .ok (.goto 171, 3) := by decide +kernel
theorem dX7_factor_53 : decode cX7_factor 53 = .ok (.iload_n 2, 1) := by decide +kernel
theorem dX7_factor_54 : decode cX7_factor 54 = .ok (.bipush 40, 2) := by decide +kernel
theorem dX7_factor_56 : decode cX7_factor 56 = .ok (.if_icmp .ne 42, 3) := by decide +kernel
theorem dX7_factor_59 : decode cX7_factor 59 = .ok (.aload_n 0, 1) := by decide +kernel
theorem dX7_factor_60 : decode cX7_factor 60 = .ok (.bipush 40, 2) := by decide +kernel
theorem dX7_factor_62 : decode cX7_factor 62 = .ok (.invokevirtual 230, 3) := by decide +kernel
theorem dX7_factor_65 : decode cX7_factor 65 = .ok (.aload_n 0, 1) := by decide +kernel
theorem dX7_factor_66 : decode cX7_factor 66 = .ok (.iload_n 1, 1) := by decide +kernel
theorem dX7_factor_67 : decode cX7_factor 67 = .ok (.iconst 1, 1) := by decide +kernel
theorem dX7_factor_68 : decode cX7_factor 68 = .ok (.iadd, 1) := by decide +kernel
theorem dX7_factor_69 : decode cX7_factor 69 = .ok (.invokevirtual 233, 3) := by decide +kernel
theorem dX7_factor_72 : decode cX7_factor 72 = .ok (.aload_n 0, 1) := by decide +kernel
theorem dX7_factor_73 : decode cX7_factor 73 = .ok (.bipush 41, 2) := by decide +kernel
theorem dX7_factor_75 : decode cX7_factor 75 = .ok (.invokevirtual 236, 3) := by decide +kernel
theorem dX7_factor_78 : decode cX7_factor 78 = .ok (.aload_n 0, 1) := by decide +kernel
theorem dX7_factor_79 : decode cX7_factor 79 = .ok (.getfield 46, 3) := by decide +kernel
theorem dX7_factor_82 : decode cX7_factor 82 = .ok (.iload_n 1, 1) := by decide +kernel
theorem dX7_factor_83 : decode cX7_factor 83 = .ok (.iconst 1, 1) := by decide +kernel
theorem dX7_factor_84 : decode cX7_factor 84 = .ok (.iadd, 1) := by decide +kernel
theorem dX7_factor_85 : decode cX7_factor 85 = .ok (.aaload, 1) := by decide +kernel
theorem dX7_factor_86 : decode cX7_factor 86 = .ok (.aload_n 0, 1) := by decide +kernel
theorem dX7_factor_87 : decode cX7_factor 87 = .ok (.getfield 52, 3) := by decide +kernel
theorem dX7_factor_90 : decode cX7_factor 90 = .ok (.iload_n 1, 1) := by decide +kernel
theorem dX7_factor_91 : decode cX7_factor 91 = .ok (.aaload, 1) := by decide +kernel
theorem dX7_factor_92 : decode cX7_factor 92 = .ok (.invokestatic 147, 3) := by decide +kernel
theorem dX7_factor_95 : decode cX7_factor 95 = .ok (.goto 126, 3) := by decide +kernel
theorem dX7_factor_98 : decode cX7_factor 98 = .ok (.aload_n 0, 1) := by decide +kernel
theorem dX7_factor_99 : decode cX7_factor 99 = .ok (.ldc 255, 2) := by decide +kernel
theorem dX7_factor_101 : decode cX7_factor 101 = .ok (.invokevirtual 257, 3) := by decide +kernel
theorem dX7_factor_104 : decode cX7_factor 104 = .ok (.ifCond .eq 21, 3) := by decide +kernel
theorem dX7_factor_107 : decode cX7_factor 107 = .ok (.aload_n 0, 1) := by decide +kernel
theorem dX7_factor_108 : decode cX7_factor 108 = .ok (.getfield 52, 3) := by decide +kernel
theorem dX7_factor_111 : decode cX7_factor 111 = .ok (.iload_n 1, 1) := by decide +kernel
theorem dX7_factor_112 : decode cX7_factor 112 = .ok (.aaload, 1) := by decide +kernel
theorem dX7_factor_113 : decode cX7_factor 113 = .ok (.iconst 1, 1) := by decide +kernel
theorem dX7_factor_114 : decode cX7_factor 114 = .ok (.iconst 0, 1) := by decide +kernel
theorem dX7_factor_115 : decode cX7_factor 115 = .ok (.invokestatic 133, 3) := by decide +kernel
theorem dX7_factor_118 : decode cX7_factor 118 = .ok (.ldc2_w 116, 3) := by decide +kernel
theorem dX7_factor_121 : decode cX7_factor 121 = .ok (.lastore, 1) := by decide +kernel
theorem dX7_factor_122 : decode cX7_factor 122 = .ok (.goto 99, 3) := by decide +kernel
theorem dX7_factor_125 : decode cX7_factor 125 = .ok (.aload_n 0, 1) := by decide +kernel
theorem dX7_factor_126 : decode cX7_factor 126 = .ok (.ldc_w 261, 3) := by decide +kernel
theorem dX7_factor_129 : decode cX7_factor 129 = .ok (.invokevirtual 257, 3) := by decide +kernel
theorem dX7_factor_132 : decode cX7_factor 132 = .ok (.ifCond .eq 21, 3) := by decide +kernel
theorem dX7_factor_135 : decode cX7_factor 135 = .ok (.aload_n 0, 1) := by decide +kernel
theorem dX7_factor_136 : decode cX7_factor 136 = .ok (.getfield 52, 3) := by decide +kernel
theorem dX7_factor_139 : decode cX7_factor 139 = .ok (.iload_n 1, 1) := by decide +kernel
theorem dX7_factor_140 : decode cX7_factor 140 = .ok (.aaload, 1) := by decide +kernel
theorem dX7_factor_141 : decode cX7_factor 141 = .ok (.iconst 0, 1) := by decide +kernel
theorem dX7_factor_142 : decode cX7_factor 142 = .ok (.iconst 1, 1) := by decide +kernel
theorem dX7_factor_143 : decode cX7_factor 143 = .ok (.invokestatic 133, 3) := by decide +kernel
theorem dX7_factor_146 : decode cX7_factor 146 = .ok (.ldc2_w 116, 3) := by decide +kernel
theorem dX7_factor_149 : decode cX7_factor 149 = .ok (.lastore, 1) := by decide +kernel
theorem dX7_factor_150 : decode cX7_factor 150 = .ok (.goto 71, 3) := by decide +kernel
theorem dX7_factor_153 : decode cX7_factor 153 = .ok (.aload_n 0, 1) := by decide +kernel
theorem dX7_factor_154 : decode cX7_factor 154 = .ok (.ldc_w 263, 3) := by decide +kernel
theorem dX7_factor_157 : decode cX7_factor 157 = .ok (.invokevirtual 257, 3) := by decide +kernel
theorem dX7_factor_160 : decode cX7_factor 160 = .ok (.ifCond .eq 12, 3) := by decide +kernel
theorem dX7_factor_163 : decode cX7_factor 163 = .ok (.aload_n 0, 1) := by decide +kernel
theorem dX7_factor_164 : decode cX7_factor 164 = .ok (.iload_n 1, 1) := by decide +kernel
theorem dX7_factor_165 : decode cX7_factor 165 = .ok (.iconst 0, 1) := by decide +kernel
theorem dX7_factor_166 : decode cX7_factor 166 = .ok (.invokevirtual 265, 3) := by decide +kernel
theorem dX7_factor_169 : decode cX7_factor 169 = .ok (.goto 52, 3) := by decide +kernel
theorem dX7_factor_172 : decode cX7_factor 172 = .ok (.aload_n 0, 1) := by decide +kernel
theorem dX7_factor_173 : decode cX7_factor 173 = .ok (.ldc_w 268, 3) := by decide +kernel
theorem dX7_factor_176 : decode cX7_factor 176 = .ok (.invokevirtual 257, 3) := by decide +kernel
theorem dX7_factor_179 : decode cX7_factor 179 = .ok (.ifCond .eq 12, 3) := by decide +kernel
theorem dX7_factor_182 : decode cX7_factor 182 = .ok (.aload_n 0, 1) := by decide +kernel
theorem dX7_factor_183 : decode cX7_factor 183 = .ok (.iload_n 1, 1) := by decide +kernel
theorem dX7_factor_184 : decode cX7_factor 184 = .ok (.iconst 1, 1) := by decide +kernel
theorem dX7_factor_185 : decode cX7_factor 185 = .ok (.invokevirtual 265, 3) := by decide +kernel
theorem dX7_factor_188 : decode cX7_factor 188 = .ok (.goto 33, 3) := by decide +kernel
theorem dX7_factor_191 : decode cX7_factor 191 = .ok (.aload_n 0, 1) := by decide +kernel
theorem dX7_factor_192 : decode cX7_factor 192 = .ok (.invokevirtual 270, 3) := by decide +kernel
theorem dX7_factor_195 : decode cX7_factor 195 = .ok (.istore 4, 2) := by decide +kernel
theorem dX7_factor_197 : decode cX7_factor 197 = .ok (.iload 4, 2) := by decide +kernel
theorem dX7_factor_199 : decode cX7_factor 199 = .ok (.iconst (-1), 1) := by decide +kernel
theorem dX7_factor_200 : decode cX7_factor 200 = .ok (.if_icmp .ne 13, 3) := by decide +kernel
theorem dX7_factor_203 : decode cX7_factor 203 = .ok (.aload_n 0, 1) := by decide +kernel
theorem dX7_factor_204 : decode cX7_factor 204 = .ok (.bipush (-2), 2) := by decide +kernel
theorem dX7_factor_206 : decode cX7_factor 206 = .ok (.iload_n 3, 1) := by decide +kernel
theorem dX7_factor_207 : decode cX7_factor 207 = .ok (.invokevirtual 200, 3) := by decide +kernel
theorem dX7_factor_210 : decode cX7_factor 210 = .ok (.goto 11, 3) := by decide +kernel
theorem dX7_factor_213 : decode cX7_factor 213 = .ok (.aload_n 0, 1) := by decide +kernel
theorem dX7_factor_214 : decode cX7_factor 214 = .ok (.iload_n 1, 1) := by decide +kernel
theorem dX7_factor_215 : decode cX7_factor 215 = .ok (.iload_n 3, 1) := by decide +kernel
theorem dX7_factor_216 : decode cX7_factor 216 = .ok (.iload 4, 2) := by decide +kernel
theorem dX7_factor_218 : decode cX7_factor 218 = .ok (.invokevirtual 273, 3) := by decide +kernel
theorem dX7_factor_221 : decode cX7_factor 221 = .ok (.return_, 1) := by decide +kernel
theorem dX7_term_0 : decode cX7_term 0 = .ok (.aload_n 0, 1) := by decide +kernel
theorem dX7_term_1 : decode cX7_term 1 = .ok (.iload_n 1, 1) := by decide +kernel
theorem dX7_term_2 : decode cX7_term 2 = .ok (.invokevirtual 277, 3) := by decide +kernel
theorem dX7_term_5 : decode cX7_term 5 = .ok (.aload_n 0, 1) := by decide +kernel
theorem dX7_term_6 : decode cX7_term 6 = .ok (.getfield 52, 3) := by decide +kernel
theorem dX7_term_9 : decode cX7_term 9 = .ok (.iload_n 1, 1) := by decide +kernel
theorem dX7_term_10 : decode cX7_term 10 = .ok (.aaload, 1) := by decide +kernel
theorem dX7_term_11 : decode cX7_term 11 = .ok (.aload_n 0, 1) := by decide +kernel
theorem dX7_term_12 : decode cX7_term 12 = .ok (.getfield 49, 3) := by decide +kernel
theorem dX7_term_15 : decode cX7_term 15 = .ok (.iload_n 1, 1) := by decide +kernel
theorem dX7_term_16 : decode cX7_term 16 = .ok (.aaload, 1) := by decide +kernel
theorem dX7_term_17 : decode cX7_term 17 = .ok (.invokestatic 147, 3) := by decide +kernel
theorem dX7_term_20 : decode cX7_term 20 = .ok (.aload_n 0, 1) := by decide +kernel
theorem dX7_term_21 : decode cX7_term 21 = .ok (.invokevirtual 183, 3) := by decide +kernel
theorem dX7_term_24 : decode cX7_term 24 = .ok (.ifCond .eq 63, 3) := by decide +kernel
theorem dX7_term_27 : decode cX7_term 27 = .ok (.aload_n 0, 1) := by decide +kernel
theorem dX7_term_28 : decode cX7_term 28 = .ok (.invokevirtual 187, 3) := by decide +kernel
theorem dX7_term_31 : decode cX7_term 31 = .ok (.bipush 42, 2) := by decide +kernel
theorem dX7_term_33 : decode cX7_term 33 = .ok (.if_icmp .ne 54, 3) := by decide +kernel
theorem dX7_term_36 : decode cX7_term 36 = .ok (.aload_n 0, 1) := by decide +kernel
theorem dX7_term_37 : decode cX7_term 37 = .ok (.dup, 1) := by decide +kernel
theorem dX7_term_38 : decode cX7_term 38 = .ok (.getfield 167, 3) := by decide +kernel
theorem dX7_term_41 : decode cX7_term 41 = .ok (.iconst 1, 1) := by decide +kernel
theorem dX7_term_42 : decode cX7_term 42 = .ok (.iadd, 1) := by decide +kernel
theorem dX7_term_43 : decode cX7_term 43 = .ok (.putfield 167, 3) := by decide +kernel
theorem dX7_term_46 : decode cX7_term 46 = .ok (.aload_n 0, 1) := by decide +kernel
theorem dX7_term_47 : decode cX7_term 47 = .ok (.iload_n 1, 1) := by decide +kernel
theorem dX7_term_48 : decode cX7_term 48 = .ok (.invokevirtual 277, 3) := by decide +kernel
theorem dX7_term_51 : decode cX7_term 51 = .ok (.aload_n 0, 1) := by decide +kernel
theorem dX7_term_52 : decode cX7_term 52 = .ok (.invokevirtual 183, 3) := by decide +kernel
theorem dX7_term_55 : decode cX7_term 55 = .ok (.ifCond .eq (-35), 3) := by decide +kernel
theorem dX7_term_58 : decode cX7_term 58 = .ok (.aload_n 0, 1) := by decide +kernel
theorem dX7_term_59 : decode cX7_term 59 = .ok (.aload_n 0, 1) := by decide +kernel
theorem dX7_term_60 : decode cX7_term 60 = .ok (.aload_n 0, 1) := by decide +kernel
theorem dX7_term_61 : decode cX7_term 61 = .ok (.getfield 49, 3) := by decide +kernel
theorem dX7_term_64 : decode cX7_term 64 = .ok (.iload_n 1, 1) := by decide +kernel
theorem dX7_term_65 : decode cX7_term 65 = .ok (.aaload, 1) := by decide +kernel
theorem dX7_term_66 : decode cX7_term 66 = .ok (.aload_n 0, 1) := by decide +kernel
theorem dX7_term_67 : decode cX7_term 67 = .ok (.getfield 52, 3) := by decide +kernel
theorem dX7_term_70 : decode cX7_term 70 = .ok (.iload_n 1, 1) := by decide +kernel
theorem dX7_term_71 : decode cX7_term 71 = .ok (.aaload, 1) := by decide +kernel
theorem dX7_term_72 : decode cX7_term 72 = .ok (.aload_n 0, 1) := by decide +kernel
theorem dX7_term_73 : decode cX7_term 73 = .ok (.getfield 49, 3) := by decide +kernel
theorem dX7_term_76 : decode cX7_term 76 = .ok (.iload_n 1, 1) := by decide +kernel
theorem dX7_term_77 : decode cX7_term 77 = .ok (.aaload, 1) := by decide +kernel
theorem dX7_term_78 : decode cX7_term 78 = .ok (.invokevirtual 153, 3) := by decide +kernel
theorem dX7_term_81 : decode cX7_term 81 = .ok (.invokevirtual 243, 3) := by decide +kernel
theorem dX7_term_84 : decode cX7_term 84 = .ok (.goto (-64), 3) := by decide +kernel
theorem dX7_term_87 : decode cX7_term 87 = .ok (.return_, 1) := by decide +kernel
theorem dX7_sum_0 : decode cX7_sum 0 = .ok (.aload_n 0, 1) := by decide +kernel
theorem dX7_sum_1 : decode cX7_sum 1 = .ok (.invokevirtual 183, 3) := by decide +kernel
theorem dX7_sum_4 : decode cX7_sum 4 = .ok (.ifCond .ne 4, 3) := by decide +kernel
theorem dX7_sum_7 : decode cX7_sum 7 = .ok (.return_, 1) := by decide +kernel
theorem dX7_sum_8 : decode cX7_sum 8 = .ok (.aload_n 0, 1) := by decide +kernel
theorem dX7_sum_9 : decode cX7_sum 9 = .ok (.iload_n 1, 1) := by decide +kernel
theorem dX7_sum_10 : decode cX7_sum 10 = .ok (.invokevirtual 280, 3) := by decide +kernel
theorem dX7_sum_13 : decode cX7_sum 13 = .ok (.aload_n 0, 1) := by decide +kernel
theorem dX7_sum_14 : decode cX7_sum 14 = .ok (.getfield 49, 3) := by decide +kernel
theorem dX7_sum_17 : decode cX7_sum 17 = .ok (.iload_n 1, 1) := by decide +kernel
theorem dX7_sum_18 : decode cX7_sum 18 = .ok (.aaload, 1) := by decide +kernel
theorem dX7_sum_19 : decode cX7_sum 19 = .ok (.aload_n 0, 1) := by decide +kernel
theorem dX7_sum_20 : decode cX7_sum 20 = .ok (.getfield 46, 3) := by decide +kernel
theorem dX7_sum_23 : decode cX7_sum 23 = .ok (.iload_n 1, 1) := by decide +kernel
theorem dX7_sum_24 : decode cX7_sum 24 = .ok (.aaload, 1) := by decide +kernel
theorem dX7_sum_25 : decode cX7_sum 25 = .ok (.invokestatic 147, 3) := by decide +kernel
theorem dX7_sum_28 : decode cX7_sum 28 = .ok (.aload_n 0, 1) := by decide +kernel
theorem dX7_sum_29 : decode cX7_sum 29 = .ok (.invokevirtual 183, 3) := by decide +kernel
theorem dX7_sum_32 : decode cX7_sum 32 = .ok (.ifCond .eq 87, 3) := by decide +kernel
theorem dX7_sum_35 : decode cX7_sum 35 = .ok (.aload_n 0, 1) := by decide +kernel
theorem dX7_sum_36 : decode cX7_sum 36 = .ok (.invokevirtual 187, 3) := by decide +kernel
theorem dX7_sum_39 : decode cX7_sum 39 = .ok (.bipush 43, 2) := by decide +kernel
theorem dX7_sum_41 : decode cX7_sum 41 = .ok (.if_icmp .eq 12, 3) := by decide +kernel
theorem dX7_sum_44 : decode cX7_sum 44 = .ok (.aload_n 0, 1) := by decide +kernel
theorem dX7_sum_45 : decode cX7_sum 45 = .ok (.invokevirtual 187, 3) := by decide +kernel
theorem dX7_sum_48 : decode cX7_sum 48 = .ok (.bipush 45, 2) := by decide +kernel
theorem dX7_sum_50 : decode cX7_sum 50 = .ok (.if_icmp .ne 69, 3) := by decide +kernel
theorem dX7_sum_53 : decode cX7_sum 53 = .ok (.aload_n 0, 1) := by decide +kernel
theorem dX7_sum_54 : decode cX7_sum 54 = .ok (.invokevirtual 187, 3) := by decide +kernel
theorem dX7_sum_57 : decode cX7_sum 57 = .ok (.bipush 43, 2) := by decide +kernel
theorem dX7_sum_59 : decode cX7_sum 59 = .ok (.if_icmp .ne 7, 3) := by decide +kernel
theorem dX7_sum_62 : decode cX7_sum 62 = .ok (.iconst 1, 1) := by decide +kernel
theorem dX7_sum_63 : decode cX7_sum 63 = .ok (.goto 4, 3) := by decide +kernel
theorem dX7_sum_66 : decode cX7_sum 66 = .ok (.iconst (-1), 1) := by decide +kernel
theorem dX7_sum_67 : decode cX7_sum 67 = .ok (.istore_n 2, 1) := by decide +kernel
theorem dX7_sum_68 : decode cX7_sum 68 = .ok (.aload_n 0, 1) := by decide +kernel
theorem dX7_sum_69 : decode cX7_sum 69 = .ok (.dup, 1) := by decide +kernel
theorem dX7_sum_70 : decode cX7_sum 70 = .ok (.getfield 167, 3) := by decide +kernel
theorem dX7_sum_73 : decode cX7_sum 73 = .ok (.iconst 1, 1) := by decide +kernel
theorem dX7_sum_74 : decode cX7_sum 74 = .ok (.iadd, 1) := by decide +kernel
theorem dX7_sum_75 : decode cX7_sum 75 = .ok (.putfield 167, 3) := by decide +kernel
theorem dX7_sum_78 : decode cX7_sum 78 = .ok (.aload_n 0, 1) := by decide +kernel
theorem dX7_sum_79 : decode cX7_sum 79 = .ok (.iload_n 1, 1) := by decide +kernel
theorem dX7_sum_80 : decode cX7_sum 80 = .ok (.invokevirtual 280, 3) := by decide +kernel
theorem dX7_sum_83 : decode cX7_sum 83 = .ok (.aload_n 0, 1) := by decide +kernel
theorem dX7_sum_84 : decode cX7_sum 84 = .ok (.invokevirtual 183, 3) := by decide +kernel
theorem dX7_sum_87 : decode cX7_sum 87 = .ok (.ifCond .eq 29, 3) := by decide +kernel
theorem dX7_sum_90 : decode cX7_sum 90 = .ok (.aload_n 0, 1) := by decide +kernel
theorem dX7_sum_91 : decode cX7_sum 91 = .ok (.aload_n 0, 1) := by decide +kernel
theorem dX7_sum_92 : decode cX7_sum 92 = .ok (.getfield 46, 3) := by decide +kernel
theorem dX7_sum_95 : decode cX7_sum 95 = .ok (.iload_n 1, 1) := by decide +kernel
theorem dX7_sum_96 : decode cX7_sum 96 = .ok (.aaload, 1) := by decide +kernel
theorem dX7_sum_97 : decode cX7_sum 97 = .ok (.aload_n 0, 1) := by decide +kernel
theorem dX7_sum_98 : decode cX7_sum 98 = .ok (.getfield 49, 3) := by decide +kernel
theorem dX7_sum_101 : decode cX7_sum 101 = .ok (.iload_n 1, 1) := by decide +kernel
theorem dX7_sum_102 : decode cX7_sum 102 = .ok (.aaload, 1) := by decide +kernel
theorem dX7_sum_103 : decode cX7_sum 103 = .ok (.iload_n 2, 1) := by decide +kernel
theorem dX7_sum_104 : decode cX7_sum 104 = .ok (.aload_n 0, 1) := by decide +kernel
theorem dX7_sum_105 : decode cX7_sum 105 = .ok (.getfield 46, 3) := by decide +kernel
theorem dX7_sum_108 : decode cX7_sum 108 = .ok (.iload_n 1, 1) := by decide +kernel
theorem dX7_sum_109 : decode cX7_sum 109 = .ok (.aaload, 1) := by decide +kernel
theorem dX7_sum_110 : decode cX7_sum 110 = .ok (.invokestatic 157, 3) := by decide +kernel
theorem dX7_sum_113 : decode cX7_sum 113 = .ok (.invokevirtual 243, 3) := by decide +kernel
theorem dX7_sum_116 : decode cX7_sum 116 = .ok (.goto (-88), 3) := by decide +kernel
theorem dX7_sum_119 : decode cX7_sum 119 = .ok (.return_, 1) := by decide +kernel
theorem dX7_statement_0 : decode cX7_statement 0 = .ok (.aload_n 0, 1) := by decide +kernel
theorem dX7_statement_1 : decode cX7_statement 1 = .ok (.invokevirtual 187, 3) := by decide +kernel
theorem dX7_statement_4 : decode cX7_statement 4 = .ok (.pop, 1) := by decide +kernel
theorem dX7_statement_5 : decode cX7_statement 5 = .ok (.aload_n 0, 1) := by decide +kernel
theorem dX7_statement_6 : decode cX7_statement 6 = .ok (.getfield 167, 3) := by decide +kernel
theorem dX7_statement_9 : decode cX7_statement 9 = .ok (.istore_n 1, 1) := by decide +kernel
theorem dX7_statement_10 : decode cX7_statement 10 = .ok (.aload_n 0, 1) := by decide +kernel
theorem dX7_statement_11 : decode cX7_statement 11 = .ok (.invokevirtual 270, 3) := by decide +kernel
theorem dX7_statement_14 : decode cX7_statement 14 = .ok (.istore_n 2, 1) := by decide +kernel
theorem dX7_statement_15 : decode cX7_statement 15 = .ok (.iload_n 2, 1) := by decide +kernel
theorem dX7_statement_16 : decode cX7_statement 16 = .ok (.iconst (-1), 1) := by decide +kernel
theorem dX7_statement_17 : decode cX7_statement 17 = .ok (.if_icmp .ne 10, 3) := by decide +kernel
theorem dX7_statement_20 : decode cX7_statement 20 = .ok (.aload_n 0, 1) := by decide +kernel
theorem dX7_statement_21 : decode cX7_statement 21 = .ok (.bipush (-2), 2) := by decide +kernel
theorem dX7_statement_23 : decode cX7_statement 23 = .ok (.iload_n 1, 1) := by decide +kernel
theorem dX7_statement_24 : decode cX7_statement 24 = .ok (.invokevirtual 200, 3) := by decide +kernel
theorem dX7_statement_27 : decode cX7_statement 27 = .ok (.aload_n 0, 1) := by decide +kernel
theorem dX7_statement_28 : decode cX7_statement 28 = .ok (.bipush 61, 2) := by decide +kernel
theorem dX7_statement_30 : decode cX7_statement 30 = .ok (.invokevirtual 218, 3) := by decide +kernel
theorem dX7_statement_33 : decode cX7_statement 33 = .ok (.aload_n 0, 1) := by decide +kernel
theorem dX7_statement_34 : decode cX7_statement 34 = .ok (.iconst 0, 1) := by decide +kernel
theorem dX7_statement_35 : decode cX7_statement 35 = .ok (.invokevirtual 233, 3) := by decide +kernel
theorem dX7_statement_38 : decode cX7_statement 38 = .ok (.aload_n 0, 1) := by decide +kernel
theorem dX7_statement_39 : decode cX7_statement 39 = .ok (.invokevirtual 183, 3) := by decide +kernel
theorem dX7_statement_42 : decode cX7_statement 42 = .ok (.ifCond .eq 78, 3) := by decide +kernel
theorem dX7_statement_45 : decode cX7_statement 45 = .ok (.aload_n 0, 1) := by decide +kernel
theorem dX7_statement_46 : decode cX7_statement 46 = .ok (.invokevirtual 187, 3) := by decide +kernel
theorem dX7_statement_49 : decode cX7_statement 49 = .ok (.bipush 35, 2) := by decide +kernel
theorem dX7_statement_51 : decode cX7_statement 51 = .ok (.if_icmp .ne 69, 3) := by decide +kernel
theorem dX7_statement_54 : decode cX7_statement 54 = .ok (.aload_n 0, 1) := by decide +kernel
theorem dX7_statement_55 : decode cX7_statement 55 = .ok (.dup, 1) := by decide +kernel
theorem dX7_statement_56 : decode cX7_statement 56 = .ok (.getfield 167, 3) := by decide +kernel
theorem dX7_statement_59 : decode cX7_statement 59 = .ok (.iconst 1, 1) := by decide +kernel
theorem dX7_statement_60 : decode cX7_statement 60 = .ok (.iadd, 1) := by decide +kernel
theorem dX7_statement_61 : decode cX7_statement 61 = .ok (.putfield 167, 3) := by decide +kernel
theorem dX7_statement_64 : decode cX7_statement 64 = .ok (.aload_n 0, 1) := by decide +kernel
theorem dX7_statement_65 : decode cX7_statement 65 = .ok (.iconst 0, 1) := by decide +kernel
theorem dX7_statement_66 : decode cX7_statement 66 = .ok (.ldc 251, 2) := by decide +kernel
theorem dX7_statement_68 : decode cX7_statement 68 = .ok (.invokevirtual 252, 3) := by decide +kernel
theorem dX7_statement_71 : decode cX7_statement 71 = .ok (.istore_n 3, 1) := by decide +kernel
theorem dX7_statement_72 : decode cX7_statement 72 = .ok (.aload_n 0, 1) := by decide +kernel
theorem dX7_statement_73 : decode cX7_statement 73 = .ok (.getfield 46, 3) := by decide +kernel
theorem dX7_statement_76 : decode cX7_statement 76 = .ok (.iconst 0, 1) := by decide +kernel
theorem dX7_statement_77 : decode cX7_statement 77 = .ok (.aaload, 1) := by decide +kernel
theorem dX7_statement_78 : decode cX7_statement 78 = .ok (.bipush 10, 2) := by decide +kernel
theorem dX7_statement_80 : decode cX7_statement 80 = .ok (.dup2, 1) := by decide +kernel
theorem dX7_statement_81 : decode cX7_statement 81 = .ok (.laload, 1) := by decide +kernel
theorem dX7_statement_82 : decode cX7_statement 82 = .ok (.iload_n 3, 1) := by decide +kernel
theorem dX7_statement_83 : decode cX7_statement 83 = .ok (.i2l, 1) := by decide +kernel
theorem dX7_statement_84 : decode cX7_statement 84 = .ok (.lsub, 1) := by decide +kernel
theorem dX7_statement_85 : decode cX7_statement 85 = .ok (.lastore, 1) := by decide +kernel
theorem dX7_statement_86 : decode cX7_statement 86 = .ok (.aload_n 0, 1) := by decide +kernel
theorem dX7_statement_87 : decode cX7_statement 87 = .ok (.getfield 46, 3) := by decide +kernel
theorem dX7_statement_90 : decode cX7_statement 90 = .ok (.iconst 0, 1) := by decide +kernel
theorem dX7_statement_91 : decode cX7_statement 91 = .ok (.aaload, 1) := by decide +kernel
theorem dX7_statement_92 : decode cX7_statement 92 = .ok (.bipush 11, 2) := by decide +kernel
theorem dX7_statement_94 : decode cX7_statement 94 = .ok (.dup2, 1) := by decide +kernel
theorem dX7_statement_95 : decode cX7_statement 95 = .ok (.laload, 1) := by decide +kernel
theorem dX7_statement_96 : decode cX7_statement 96 = .ok (.iload_n 3, 1) := by decide +kernel
theorem dX7_statement_97 : decode cX7_statement 97 = .ok (.i2l, 1) := by decide +kernel
theorem dX7_statement_98 : decode cX7_statement 98 = .ok (.ladd, 1) := by decide +kernel
theorem dX7_statement_99 : decode cX7_statement 99 = .ok (.lastore, 1) := by decide +kernel
theorem dX7_statement_100 : decode cX7_statement 100 = .ok (.aload_n 0, 1) := by decide +kernel
theorem dX7_statement_101 : decode cX7_statement 101 = .ok (.invokevirtual 183, 3) := by decide +kernel
theorem dX7_statement_104 : decode cX7_statement 104 = .ok (.ifCond .eq 16, 3) := by decide +kernel
theorem dX7_statement_107 : decode cX7_statement 107 = .ok (.aload_n 0, 1) := by decide +kernel
theorem dX7_statement_108 : decode cX7_statement 108 = .ok (.aload_n 0, 1) := by decide +kernel
theorem dX7_statement_109 : decode cX7_statement 109 = .ok (.getfield 46, 3) := by decide +kernel
theorem dX7_statement_112 : decode cX7_statement 112 = .ok (.iconst 0, 1) := by decide +kernel
theorem dX7_statement_113 : decode cX7_statement 113 = .ok (.aaload, 1) := by decide +kernel
theorem dX7_statement_114 : decode cX7_statement 114 = .ok (.invokestatic 118, 3) := by decide +kernel
theorem dX7_statement_117 : decode cX7_statement 117 = .ok (.invokevirtual 243, 3) := by decide +kernel
theorem dX7_statement_120 : decode cX7_statement 120 = .ok (.aload_n 0, 1) := by decide +kernel
theorem dX7_statement_121 : decode cX7_statement 121 = .ok (.bipush 59, 2) := by decide +kernel
theorem dX7_statement_123 : decode cX7_statement 123 = .ok (.invokevirtual 218, 3) := by decide +kernel
theorem dX7_statement_126 : decode cX7_statement 126 = .ok (.aload_n 0, 1) := by decide +kernel
theorem dX7_statement_127 : decode cX7_statement 127 = .ok (.invokevirtual 183, 3) := by decide +kernel
theorem dX7_statement_130 : decode cX7_statement 130 = .ok (.ifCond .eq 17, 3) := by decide +kernel
theorem dX7_statement_133 : decode cX7_statement 133 = .ok (.aload_n 0, 1) := by decide +kernel
theorem dX7_statement_134 : decode cX7_statement 134 = .ok (.getfield 46, 3) := by decide +kernel
theorem dX7_statement_137 : decode cX7_statement 137 = .ok (.iconst 0, 1) := by decide +kernel
theorem dX7_statement_138 : decode cX7_statement 138 = .ok (.aaload, 1) := by decide +kernel
theorem dX7_statement_139 : decode cX7_statement 139 = .ok (.aload_n 0, 1) := by decide +kernel
theorem dX7_statement_140 : decode cX7_statement 140 = .ok (.getfield 20, 3) := by decide +kernel
theorem dX7_statement_143 : decode cX7_statement 143 = .ok (.iload_n 2, 1) := by decide +kernel
theorem dX7_statement_144 : decode cX7_statement 144 = .ok (.invokestatic 283, 3) := by decide +kernel
theorem dX7_statement_147 : decode cX7_statement 147 = .ok (.return_, 1) := by decide +kernel
theorem dX7_load_0 : decode cX7_load 0 = .ok (.aload_n 0, 1) := by decide +kernel
theorem dX7_load_1 : decode cX7_load 1 = .ok (.iconst 0, 1) := by decide +kernel
theorem dX7_load_2 : decode cX7_load 2 = .ok (.putfield 79, 3) := by decide +kernel
theorem dX7_load_5 : decode cX7_load 5 = .ok (.aload_n 0, 1) := by decide +kernel
theorem dX7_load_6 : decode cX7_load 6 = .ok (.iload_n 1, 1) := by decide +kernel
theorem dX7_load_7 : decode cX7_load 7 = .ok (.iconst 0, 1) := by decide +kernel
theorem dX7_load_8 : decode cX7_load 8 = .ok (.aload_n 0, 1) := by decide +kernel
theorem dX7_load_9 : decode cX7_load 9 = .ok (.getfield 161, 3) := by decide +kernel
theorem dX7_load_12 : decode cX7_load 12 = .ok (.invokestatic 179, 3) := by decide +kernel
theorem dX7_load_15 : decode cX7_load 15 = .ok (.ifCond .ne 7, 3) := by decide +kernel
theorem dX7_load_18 : decode cX7_load 18 = .ok (.iconst 1, 1) := by decide +kernel
theorem dX7_load_19 : decode cX7_load 19 = .ok (.goto 4, 3) := by decide +kernel
theorem dX7_load_22 : decode cX7_load 22 = .ok (.iconst 0, 1) := by decide +kernel
theorem dX7_load_23 : decode cX7_load 23 = .ok (.iconst 1, 1) := by decide +kernel
theorem dX7_load_24 : decode cX7_load 24 = .ok (.invokevirtual 287, 3) := by decide +kernel
theorem dX7_load_27 : decode cX7_load 27 = .ok (.ifCond .eq 5, 3) := by decide +kernel
theorem dX7_load_30 : decode cX7_load 30 = .ok (.iconst 0, 1) := by decide +kernel
theorem dX7_load_31 : decode cX7_load 31 = .ok (.ireturn, 1) := by decide +kernel
theorem dX7_load_32 : decode cX7_load 32 = .ok (.aload_n 0, 1) := by decide +kernel
theorem dX7_load_33 : decode cX7_load 33 = .ok (.iconst 0, 1) := by decide +kernel
theorem dX7_load_34 : decode cX7_load 34 = .ok (.putfield 161, 3) := by decide +kernel
theorem dX7_load_37 : decode cX7_load 37 = .ok (.aload_n 0, 1) := by decide +kernel
theorem dX7_load_38 : decode cX7_load 38 = .ok (.iload_n 1, 1) := by decide +kernel
theorem dX7_load_39 : decode cX7_load 39 = .ok (.putfield 164, 3) := by decide +kernel
theorem dX7_load_42 : decode cX7_load 42 = .ok (.aload_n 0, 1) := by decide +kernel
theorem dX7_load_43 : decode cX7_load 43 = .ok (.iconst 0, 1) := by decide +kernel
theorem dX7_load_44 : decode cX7_load 44 = .ok (.putfield 167, 3) := by decide +kernel
theorem dX7_load_47 : decode cX7_load 47 = .ok (.aload_n 0, 1) := by decide +kernel
theorem dX7_load_48 : decode cX7_load 48 = .ok (.iconst 0, 1) := by decide +kernel
theorem dX7_load_49 : decode cX7_load 49 = .ok (.putfield 173, 3) := by decide +kernel
theorem dX7_load_52 : decode cX7_load 52 = .ok (.aload_n 0, 1) := by decide +kernel
theorem dX7_load_53 : decode cX7_load 53 = .ok (.iconst (-1), 1) := by decide +kernel
theorem dX7_load_54 : decode cX7_load 54 = .ok (.putfield 176, 3) := by decide +kernel
theorem dX7_load_57 : decode cX7_load 57 = .ok (.aload_n 0, 1) := by decide +kernel
theorem dX7_load_58 : decode cX7_load 58 = .ok (.iconst 0, 1) := by decide +kernel
theorem dX7_load_59 : decode cX7_load 59 = .ok (.putfield 215, 3) := by decide +kernel
theorem dX7_load_62 : decode cX7_load 62 = .ok (.iconst 0, 1) := by decide +kernel
theorem dX7_load_63 : decode cX7_load 63 = .ok (.istore_n 2, 1) := by decide +kernel
theorem dX7_load_64 : decode cX7_load 64 = .ok (.iload_n 2, 1) := by decide +kernel
theorem dX7_load_65 : decode cX7_load 65 = .ok (.bipush 97, 2) := by decide +kernel
theorem dX7_load_67 : decode cX7_load 67 = .ok (.if_icmp .ge 16, 3) := by decide +kernel
theorem dX7_load_70 : decode cX7_load 70 = .ok (.aload_n 0, 1) := by decide +kernel
theorem dX7_load_71 : decode cX7_load 71 = .ok (.getfield 20, 3) := by decide +kernel
theorem dX7_load_74 : decode cX7_load 74 = .ok (.iload_n 2, 1) := by decide +kernel
theorem dX7_load_75 : decode cX7_load 75 = .ok (.iconst 0, 1) := by decide +kernel
theorem dX7_load_76 : decode cX7_load 76 = .ok (.iastore, 1) := by decide +kernel
theorem dX7_load_77 : decode cX7_load 77 = .ok (.iinc 2 1, 3) := by decide +kernel
theorem dX7_load_80 : decode cX7_load 80 = .ok (.goto (-16), 3) := by decide +kernel
theorem dX7_load_83 : decode cX7_load 83 = .ok (.aload_n 0, 1) := by decide +kernel
theorem dX7_load_84 : decode cX7_load 84 = .ok (.ldc_w 291, 3) := by decide +kernel
theorem dX7_load_87 : decode cX7_load 87 = .ok (.invokevirtual 257, 3) := by decide +kernel
theorem dX7_load_90 : decode cX7_load 90 = .ok (.ifCond .ne 13, 3) := by decide +kernel
theorem dX7_load_93 : decode cX7_load 93 = .ok (.aload_n 0, 1) := by decide +kernel
theorem dX7_load_94 : decode cX7_load 94 = .ok (.bipush (-2), 2) := by decide +kernel
theorem dX7_load_96 : decode cX7_load 96 = .ok (.aload_n 0, 1) := by decide +kernel
theorem dX7_load_97 : decode cX7_load 97 = .ok (.getfield 167, 3) := by decide +kernel
theorem dX7_load_100 : decode cX7_load 100 = .ok (.invokevirtual 200, 3) := by decide +kernel
theorem dX7_load_103 : decode cX7_load 103 = .ok (.aload_n 0, 1) := by decide +kernel
theorem dX7_load_104 : decode cX7_load 104 = .ok (.bipush 59, 2) := by decide +kernel
theorem dX7_load_106 : decode cX7_load 106 = .ok (.invokevirtual 218, 3) := by decide +kernel
theorem dX7_load_109 : decode cX7_load 109 = .ok (.aload_n 0, 1) := by decide +kernel
theorem dX7_load_110 : decode cX7_load 110 = .ok (.invokevirtual 183, 3) := by decide +kernel
theorem dX7_load_113 : decode cX7_load 113 = .ok (.ifCond .eq 18, 3) := by decide +kernel
theorem dX7_load_116 : decode cX7_load 116 = .ok (.aload_n 0, 1) := by decide +kernel
theorem dX7_load_117 : decode cX7_load 117 = .ok (.invokevirtual 187, 3) := by decide +kernel
theorem dX7_load_120 : decode cX7_load 120 = .ok (.iconst (-1), 1) := by decide +kernel
theorem dX7_load_121 : decode cX7_load 121 = .ok (.if_icmp .eq 10, 3) := by decide +kernel
theorem dX7_load_124 : decode cX7_load 124 = .ok (.aload_n 0, 1) := by decide +kernel
theorem dX7_load_125 : decode cX7_load 125 = .ok (.invokevirtual 293, 3) := by decide +kernel
theorem dX7_load_128 : decode cX7_load 128 = .ok (.goto (-19), 3) := by decide +kernel
theorem dX7_load_131 : decode cX7_load 131 = .ok (.aload_n 0, 1) := by decide +kernel
theorem dX7_load_132 : decode cX7_load 132 = .ok (.aload_n 0, 1) := by decide +kernel
theorem dX7_load_133 : decode cX7_load 133 = .ok (.getfield 176, 3) := by decide +kernel
theorem dX7_load_136 : decode cX7_load 136 = .ok (.putfield 13, 3) := by decide +kernel
theorem dX7_load_139 : decode cX7_load 139 = .ok (.aload_n 0, 1) := by decide +kernel
theorem dX7_load_140 : decode cX7_load 140 = .ok (.invokevirtual 183, 3) := by decide +kernel
theorem dX7_load_143 : decode cX7_load 143 = .ok (.ifCond .ne 8, 3) := by decide +kernel
theorem dX7_load_146 : decode cX7_load 146 = .ok (.aload_n 0, 1) := by decide +kernel
theorem dX7_load_147 : decode cX7_load 147 = .ok (.getfield 173, 3) := by decide +kernel
theorem dX7_load_150 : decode cX7_load 150 = .ok (.ireturn, 1) := by decide +kernel
theorem dX7_load_151 : decode cX7_load 151 = .ok (.aload_n 0, 1) := by decide +kernel
theorem dX7_load_152 : decode cX7_load 152 = .ok (.invokevirtual 296, 3) := by decide +kernel
theorem dX7_load_155 : decode cX7_load 155 = .ok (.aload_n 0, 1) := by decide +kernel
theorem dX7_load_156 : decode cX7_load 156 = .ok (.getfield 20, 3) := by decide +kernel
theorem dX7_load_159 : decode cX7_load 159 = .ok (.aload_n 0, 1) := by decide +kernel
theorem dX7_load_160 : decode cX7_load 160 = .ok (.getfield 17, 3) := by decide +kernel
theorem dX7_load_163 : decode cX7_load 163 = .ok (.invokestatic 299, 3) := by decide +kernel
theorem dX7_load_166 : decode cX7_load 166 = .ok (.iconst 0, 1) := by decide +kernel
theorem dX7_load_167 : decode cX7_load 167 = .ok (.istore_n 2, 1) := by decide +kernel
theorem dX7_load_168 : decode cX7_load 168 = .ok (.iconst 0, 1) := by decide +kernel
theorem dX7_load_169 : decode cX7_load 169 = .ok (.istore_n 3, 1) := by decide +kernel
theorem dX7_load_170 : decode cX7_load 170 = .ok (.iload_n 3, 1) := by decide +kernel
theorem dX7_load_171 : decode cX7_load 171 = .ok (.bipush 8, 2) := by decide +kernel
theorem dX7_load_173 : decode cX7_load 173 = .ok (.if_icmp .ge 22, 3) := by decide +kernel
theorem dX7_load_176 : decode cX7_load 176 = .ok (.iload_n 2, 1) := by decide +kernel
theorem dX7_load_177 : decode cX7_load 177 = .ok (.aload_n 0, 1) := by decide +kernel
theorem dX7_load_178 : decode cX7_load 178 = .ok (.getfield 17, 3) := by decide +kernel
theorem dX7_load_181 : decode cX7_load 181 = .ok (.iconst 0, 1) := by decide +kernel
theorem dX7_load_182 : decode cX7_load 182 = .ok (.iaload, 1) := by decide +kernel
theorem dX7_load_183 : decode cX7_load 183 = .ok (.iload_n 3, 1) := by decide +kernel
theorem dX7_load_184 : decode cX7_load 184 = .ok (.ishr, 1) := by decide +kernel
theorem dX7_load_185 : decode cX7_load 185 = .ok (.iconst 1, 1) := by decide +kernel
theorem dX7_load_186 : decode cX7_load 186 = .ok (.iand, 1) := by decide +kernel
theorem dX7_load_187 : decode cX7_load 187 = .ok (.iadd, 1) := by decide +kernel
theorem dX7_load_188 : decode cX7_load 188 = .ok (.istore_n 2, 1) := by decide +kernel
theorem dX7_load_189 : decode cX7_load 189 = .ok (.iinc 3 1, 3) := by decide +kernel
theorem dX7_load_192 : decode cX7_load 192 = .ok (.goto (-22), 3) := by decide +kernel
theorem dX7_load_195 : decode cX7_load 195 = .ok (.iload_n 2, 1) := by decide +kernel
theorem dX7_load_196 : decode cX7_load 196 = .ok (.ireturn, 1) := by decide +kernel
theorem dX7_errorOffset_0 : decode cX7_errorOffset 0 = .ok (.aload_n 0, 1) := by decide +kernel
theorem dX7_errorOffset_1 : decode cX7_errorOffset 1 = .ok (.iconst 0, 1) := by decide +kernel
theorem dX7_errorOffset_2 : decode cX7_errorOffset 2 = .ok (.putfield 79, 3) := by decide +kernel
theorem dX7_errorOffset_5 : decode cX7_errorOffset 5 = .ok (.aload_n 0, 1) := by decide +kernel
theorem dX7_errorOffset_6 : decode cX7_errorOffset 6 = .ok (.getfield 13, 3) := by decide +kernel
theorem dX7_errorOffset_9 : decode cX7_errorOffset 9 = .ok (.ireturn, 1) := by decide +kernel
theorem dX7_noIndex_0 : decode cX7_noIndex 0 = .ok (.aload_n 0, 1) := by decide +kernel
theorem dX7_noIndex_1 : decode cX7_noIndex 1 = .ok (.iload_n 1, 1) := by decide +kernel
theorem dX7_noIndex_2 : decode cX7_noIndex 2 = .ok (.iconst 0, 1) := by decide +kernel
theorem dX7_noIndex_3 : decode cX7_noIndex 3 = .ok (.bipush 7, 2) := by decide +kernel
theorem dX7_noIndex_5 : decode cX7_noIndex 5 = .ok (.invokestatic 179, 3) := by decide +kernel
theorem dX7_noIndex_8 : decode cX7_noIndex 8 = .ok (.ifCond .ne 7, 3) := by decide +kernel
theorem dX7_noIndex_11 : decode cX7_noIndex 11 = .ok (.iconst 1, 1) := by decide +kernel
theorem dX7_noIndex_12 : decode cX7_noIndex 12 = .ok (.goto 4, 3) := by decide +kernel
theorem dX7_noIndex_15 : decode cX7_noIndex 15 = .ok (.iconst 0, 1) := by decide +kernel
theorem dX7_noIndex_16 : decode cX7_noIndex 16 = .ok (.iconst 1, 1) := by decide +kernel
theorem dX7_noIndex_17 : decode cX7_noIndex 17 = .ok (.invokevirtual 287, 3) := by decide +kernel
theorem dX7_noIndex_20 : decode cX7_noIndex 20 = .ok (.ireturn, 1) := by decide +kernel
theorem dX7_noModel_0 : decode cX7_noModel 0 = .ok (.aload_n 0, 1) := by decide +kernel
theorem dX7_noModel_1 : decode cX7_noModel 1 = .ok (.iload_n 1, 1) := by decide +kernel
theorem dX7_noModel_2 : decode cX7_noModel 2 = .ok (.invokevirtual 303, 3) := by decide +kernel
theorem dX7_noModel_5 : decode cX7_noModel 5 = .ok (.ifCond .ne 27, 3) := by decide +kernel
theorem dX7_noModel_8 : decode cX7_noModel 8 = .ok (.aload_n 0, 1) := by decide +kernel
theorem dX7_noModel_9 : decode cX7_noModel 9 = .ok (.aload_n 0, 1) := by decide +kernel
theorem dX7_noModel_10 : decode cX7_noModel 10 = .ok (.getfield 17, 3) := by decide +kernel
theorem dX7_noModel_13 : decode cX7_noModel 13 = .ok (.iload_n 1, 1) := by decide +kernel
theorem dX7_noModel_14 : decode cX7_noModel 14 = .ok (.invokestatic 222, 3) := by decide +kernel
theorem dX7_noModel_17 : decode cX7_noModel 17 = .ok (.ifCond .ne 7, 3) := by decide +kernel
theorem dX7_noModel_20 : decode cX7_noModel 20 = .ok (.iconst 1, 1) := by decide +kernel
theorem dX7_noModel_21 : decode cX7_noModel 21 = .ok (.goto 4, 3) := by decide +kernel
theorem dX7_noModel_24 : decode cX7_noModel 24 = .ok (.iconst 0, 1) := by decide +kernel
theorem dX7_noModel_25 : decode cX7_noModel 25 = .ok (.iconst 2, 1) := by decide +kernel
theorem dX7_noModel_26 : decode cX7_noModel 26 = .ok (.invokevirtual 287, 3) := by decide +kernel
theorem dX7_noModel_29 : decode cX7_noModel 29 = .ok (.ifCond .eq 7, 3) := by decide +kernel
theorem dX7_noModel_32 : decode cX7_noModel 32 = .ok (.iconst 1, 1) := by decide +kernel
theorem dX7_noModel_33 : decode cX7_noModel 33 = .ok (.goto 4, 3) := by decide +kernel
theorem dX7_noModel_36 : decode cX7_noModel 36 = .ok (.iconst 0, 1) := by decide +kernel
theorem dX7_noModel_37 : decode cX7_noModel 37 = .ok (.ireturn, 1) := by decide +kernel
theorem dX7_noPair_0 : decode cX7_noPair 0 = .ok (.aload_n 0, 1) := by decide +kernel
theorem dX7_noPair_1 : decode cX7_noPair 1 = .ok (.iload_n 1, 1) := by decide +kernel
theorem dX7_noPair_2 : decode cX7_noPair 2 = .ok (.invokevirtual 303, 3) := by decide +kernel
theorem dX7_noPair_5 : decode cX7_noPair 5 = .ok (.ifCond .ne 27, 3) := by decide +kernel
theorem dX7_noPair_8 : decode cX7_noPair 8 = .ok (.aload_n 0, 1) := by decide +kernel
theorem dX7_noPair_9 : decode cX7_noPair 9 = .ok (.iload_n 2, 1) := by decide +kernel
theorem dX7_noPair_10 : decode cX7_noPair 10 = .ok (.invokevirtual 303, 3) := by decide +kernel
theorem dX7_noPair_13 : decode cX7_noPair 13 = .ok (.ifCond .ne 19, 3) := by decide +kernel
theorem dX7_noPair_16 : decode cX7_noPair 16 = .ok (.aload_n 0, 1) := by decide +kernel
theorem dX7_noPair_17 : decode cX7_noPair 17 = .ok (.iload_n 1, 1) := by decide +kernel
theorem dX7_noPair_18 : decode cX7_noPair 18 = .ok (.invokevirtual 306, 3) := by decide +kernel
theorem dX7_noPair_21 : decode cX7_noPair 21 = .ok (.ifCond .ne 11, 3) := by decide +kernel
theorem dX7_noPair_24 : decode cX7_noPair 24 = .ok (.aload_n 0, 1) := by decide +kernel
theorem dX7_noPair_25 : decode cX7_noPair 25 = .ok (.iload_n 2, 1) := by decide +kernel
theorem dX7_noPair_26 : decode cX7_noPair 26 = .ok (.invokevirtual 306, 3) := by decide +kernel
theorem dX7_noPair_29 : decode cX7_noPair 29 = .ok (.ifCond .eq 5, 3) := by decide +kernel
theorem dX7_noPair_32 : decode cX7_noPair 32 = .ok (.iconst 1, 1) := by decide +kernel
theorem dX7_noPair_33 : decode cX7_noPair 33 = .ok (.ireturn, 1) := by decide +kernel
theorem dX7_noPair_34 : decode cX7_noPair 34 = .ok (.aload_n 0, 1) := by decide +kernel
theorem dX7_noPair_35 : decode cX7_noPair 35 = .ok (.getfield 17, 3) := by decide +kernel
theorem dX7_noPair_38 : decode cX7_noPair 38 = .ok (.iload_n 1, 1) := by decide +kernel
theorem dX7_noPair_39 : decode cX7_noPair 39 = .ok (.aload_n 0, 1) := by decide +kernel
theorem dX7_noPair_40 : decode cX7_noPair 40 = .ok (.getfield 61, 3) := by decide +kernel
theorem dX7_noPair_43 : decode cX7_noPair 43 = .ok (.invokestatic 226, 3) := by decide +kernel
theorem dX7_noPair_46 : decode cX7_noPair 46 = .ok (.aload_n 0, 1) := by decide +kernel
theorem dX7_noPair_47 : decode cX7_noPair 47 = .ok (.getfield 17, 3) := by decide +kernel
theorem dX7_noPair_50 : decode cX7_noPair 50 = .ok (.iload_n 2, 1) := by decide +kernel
theorem dX7_noPair_51 : decode cX7_noPair 51 = .ok (.aload_n 0, 1) := by decide +kernel
theorem dX7_noPair_52 : decode cX7_noPair 52 = .ok (.getfield 64, 3) := by decide +kernel
theorem dX7_noPair_55 : decode cX7_noPair 55 = .ok (.invokestatic 226, 3) := by decide +kernel
theorem dX7_noPair_58 : decode cX7_noPair 58 = .ok (.iconst 0, 1) := by decide +kernel
theorem dX7_noPair_59 : decode cX7_noPair 59 = .ok (.ireturn, 1) := by decide +kernel
theorem dX7_isPlace_0 : decode cX7_isPlace 0 = .ok (.iload_n 0, 1) := by decide +kernel
theorem dX7_isPlace_1 : decode cX7_isPlace 1 = .ok (.ifCond .lt 23, 3) := by decide +kernel
theorem dX7_isPlace_4 : decode cX7_isPlace 4 = .ok (.iload_n 1, 1) := by decide +kernel
theorem dX7_isPlace_5 : decode cX7_isPlace 5 = .ok (.ifCond .lt 19, 3) := by decide +kernel
theorem dX7_isPlace_8 : decode cX7_isPlace 8 = .ok (.iload_n 0, 1) := by decide +kernel
theorem dX7_isPlace_9 : decode cX7_isPlace 9 = .ok (.iconst 3, 1) := by decide +kernel
theorem dX7_isPlace_10 : decode cX7_isPlace 10 = .ok (.if_icmp .gt 14, 3) := by decide +kernel
theorem dX7_isPlace_13 : decode cX7_isPlace 13 = .ok (.iload_n 1, 1) := by decide +kernel
theorem dX7_isPlace_14 : decode cX7_isPlace 14 = .ok (.iconst 3, 1) := by decide +kernel
theorem dX7_isPlace_15 : decode cX7_isPlace 15 = .ok (.iload_n 0, 1) := by decide +kernel
theorem dX7_isPlace_16 : decode cX7_isPlace 16 = .ok (.isub, 1) := by decide +kernel
theorem dX7_isPlace_17 : decode cX7_isPlace 17 = .ok (.if_icmp .gt 7, 3) := by decide +kernel
theorem dX7_isPlace_20 : decode cX7_isPlace 20 = .ok (.iconst 1, 1) := by decide +kernel
theorem dX7_isPlace_21 : decode cX7_isPlace 21 = .ok (.goto 4, 3) := by decide +kernel
theorem dX7_isPlace_24 : decode cX7_isPlace 24 = .ok (.iconst 0, 1) := by decide +kernel
theorem dX7_isPlace_25 : decode cX7_isPlace 25 = .ok (.ireturn, 1) := by decide +kernel
theorem dX7_defined_0 : decode cX7_defined 0 = .ok (.aload_n 0, 1) := by decide +kernel
theorem dX7_defined_1 : decode cX7_defined 1 = .ok (.iconst 0, 1) := by decide +kernel
theorem dX7_defined_2 : decode cX7_defined 2 = .ok (.putfield 79, 3) := by decide +kernel
theorem dX7_defined_5 : decode cX7_defined 5 = .ok (.aload_n 0, 1) := by decide +kernel
theorem dX7_defined_6 : decode cX7_defined 6 = .ok (.getfield 17, 3) := by decide +kernel
theorem dX7_defined_9 : decode cX7_defined 9 = .ok (.iconst 0, 1) := by decide +kernel
theorem dX7_defined_10 : decode cX7_defined 10 = .ok (.iaload, 1) := by decide +kernel
theorem dX7_defined_11 : decode cX7_defined 11 = .ok (.ireturn, 1) := by decide +kernel
theorem dX7_coefficient_0 : decode cX7_coefficient 0 = .ok (.aload_n 0, 1) := by decide +kernel
theorem dX7_coefficient_1 : decode cX7_coefficient 1 = .ok (.iconst 0, 1) := by decide +kernel
theorem dX7_coefficient_2 : decode cX7_coefficient 2 = .ok (.putfield 79, 3) := by decide +kernel
theorem dX7_coefficient_5 : decode cX7_coefficient 5 = .ok (.aload_n 0, 1) := by decide +kernel
theorem dX7_coefficient_6 : decode cX7_coefficient 6 = .ok (.iload_n 1, 1) := by decide +kernel
theorem dX7_coefficient_7 : decode cX7_coefficient 7 = .ok (.invokevirtual 306, 3) := by decide +kernel
theorem dX7_coefficient_10 : decode cX7_coefficient 10 = .ok (.ifCond .ne 24, 3) := by decide +kernel
theorem dX7_coefficient_13 : decode cX7_coefficient 13 = .ok (.aload_n 0, 1) := by decide +kernel
theorem dX7_coefficient_14 : decode cX7_coefficient 14 = .ok (.iload_n 2, 1) := by decide +kernel
theorem dX7_coefficient_15 : decode cX7_coefficient 15 = .ok (.iload_n 3, 1) := by decide +kernel
theorem dX7_coefficient_16 : decode cX7_coefficient 16 = .ok (.invokestatic 309, 3) := by decide +kernel
theorem dX7_coefficient_19 : decode cX7_coefficient 19 = .ok (.ifCond .ne 7, 3) := by decide +kernel
theorem dX7_coefficient_22 : decode cX7_coefficient 22 = .ok (.iconst 1, 1) := by decide +kernel
theorem dX7_coefficient_23 : decode cX7_coefficient 23 = .ok (.goto 4, 3) := by decide +kernel
theorem dX7_coefficient_26 : decode cX7_coefficient 26 = .ok (.iconst 0, 1) := by decide +kernel
theorem dX7_coefficient_27 : decode cX7_coefficient 27 = .ok (.iconst 3, 1) := by decide +kernel
theorem dX7_coefficient_28 : decode cX7_coefficient 28 = .ok (.invokevirtual 287, 3) := by decide +kernel
theorem dX7_coefficient_31 : decode cX7_coefficient 31 = .ok (.ifCond .eq 7, 3) := by decide +kernel
theorem dX7_coefficient_34 : decode cX7_coefficient 34 = .ok (.iconst 0, 1) := by decide +kernel
theorem dX7_coefficient_35 : decode cX7_coefficient 35 = .ok (.goto 20, 3) := by decide +kernel
theorem dX7_coefficient_38 : decode cX7_coefficient 38 = .ok (.aload_n 0, 1) := by decide +kernel
theorem dX7_coefficient_39 : decode cX7_coefficient 39 = .ok (.getfield 17, 3) := by decide +kernel
theorem dX7_coefficient_42 : decode cX7_coefficient 42 = .ok (.iconst 1, 1) := by decide +kernel
theorem dX7_coefficient_43 : decode cX7_coefficient 43 = .ok (.bipush 12, 2) := by decide +kernel
theorem dX7_coefficient_45 : decode cX7_coefficient 45 = .ok (.iload_n 1, 1) := by decide +kernel
theorem dX7_coefficient_46 : decode cX7_coefficient 46 = .ok (.imul, 1) := by decide +kernel
theorem dX7_coefficient_47 : decode cX7_coefficient 47 = .ok (.iadd, 1) := by decide +kernel
theorem dX7_coefficient_48 : decode cX7_coefficient 48 = .ok (.iload_n 2, 1) := by decide +kernel
theorem dX7_coefficient_49 : decode cX7_coefficient 49 = .ok (.iload_n 3, 1) := by decide +kernel
theorem dX7_coefficient_50 : decode cX7_coefficient 50 = .ok (.invokestatic 133, 3) := by decide +kernel
theorem dX7_coefficient_53 : decode cX7_coefficient 53 = .ok (.iadd, 1) := by decide +kernel
theorem dX7_coefficient_54 : decode cX7_coefficient 54 = .ok (.iaload, 1) := by decide +kernel
theorem dX7_coefficient_55 : decode cX7_coefficient 55 = .ok (.ireturn, 1) := by decide +kernel
theorem dX7_remainder_0 : decode cX7_remainder 0 = .ok (.aload_n 0, 1) := by decide +kernel
theorem dX7_remainder_1 : decode cX7_remainder 1 = .ok (.iconst 0, 1) := by decide +kernel
theorem dX7_remainder_2 : decode cX7_remainder 2 = .ok (.putfield 79, 3) := by decide +kernel
theorem dX7_remainder_5 : decode cX7_remainder 5 = .ok (.aload_n 0, 1) := by decide +kernel
theorem dX7_remainder_6 : decode cX7_remainder 6 = .ok (.iload_n 1, 1) := by decide +kernel
theorem dX7_remainder_7 : decode cX7_remainder 7 = .ok (.invokevirtual 306, 3) := by decide +kernel
theorem dX7_remainder_10 : decode cX7_remainder 10 = .ok (.ifCond .ne 25, 3) := by decide +kernel
theorem dX7_remainder_13 : decode cX7_remainder 13 = .ok (.aload_n 0, 1) := by decide +kernel
theorem dX7_remainder_14 : decode cX7_remainder 14 = .ok (.iload_n 2, 1) := by decide +kernel
theorem dX7_remainder_15 : decode cX7_remainder 15 = .ok (.iconst 0, 1) := by decide +kernel
theorem dX7_remainder_16 : decode cX7_remainder 16 = .ok (.iconst 1, 1) := by decide +kernel
theorem dX7_remainder_17 : decode cX7_remainder 17 = .ok (.invokestatic 179, 3) := by decide +kernel
theorem dX7_remainder_20 : decode cX7_remainder 20 = .ok (.ifCond .ne 7, 3) := by decide +kernel
theorem dX7_remainder_23 : decode cX7_remainder 23 = .ok (.iconst 1, 1) := by decide +kernel
theorem dX7_remainder_24 : decode cX7_remainder 24 = .ok (.goto 4, 3) := by decide +kernel
theorem dX7_remainder_27 : decode cX7_remainder 27 = .ok (.iconst 0, 1) := by decide +kernel
theorem dX7_remainder_28 : decode cX7_remainder 28 = .ok (.iconst 3, 1) := by decide +kernel
theorem dX7_remainder_29 : decode cX7_remainder 29 = .ok (.invokevirtual 287, 3) := by decide +kernel
theorem dX7_remainder_32 : decode cX7_remainder 32 = .ok (.ifCond .eq 7, 3) := by decide +kernel
theorem dX7_remainder_35 : decode cX7_remainder 35 = .ok (.iconst 0, 1) := by decide +kernel
theorem dX7_remainder_36 : decode cX7_remainder 36 = .ok (.goto 19, 3) := by decide +kernel
theorem dX7_remainder_39 : decode cX7_remainder 39 = .ok (.aload_n 0, 1) := by decide +kernel
theorem dX7_remainder_40 : decode cX7_remainder 40 = .ok (.getfield 17, 3) := by decide +kernel
theorem dX7_remainder_43 : decode cX7_remainder 43 = .ok (.iconst 1, 1) := by decide +kernel
theorem dX7_remainder_44 : decode cX7_remainder 44 = .ok (.bipush 12, 2) := by decide +kernel
theorem dX7_remainder_46 : decode cX7_remainder 46 = .ok (.iload_n 1, 1) := by decide +kernel
theorem dX7_remainder_47 : decode cX7_remainder 47 = .ok (.imul, 1) := by decide +kernel
theorem dX7_remainder_48 : decode cX7_remainder 48 = .ok (.iadd, 1) := by decide +kernel
theorem dX7_remainder_49 : decode cX7_remainder 49 = .ok (.bipush 10, 2) := by decide +kernel
theorem dX7_remainder_51 : decode cX7_remainder 51 = .ok (.iadd, 1) := by decide +kernel
theorem dX7_remainder_52 : decode cX7_remainder 52 = .ok (.iload_n 2, 1) := by decide +kernel
theorem dX7_remainder_53 : decode cX7_remainder 53 = .ok (.iadd, 1) := by decide +kernel
theorem dX7_remainder_54 : decode cX7_remainder 54 = .ok (.iaload, 1) := by decide +kernel
theorem dX7_remainder_55 : decode cX7_remainder 55 = .ok (.ireturn, 1) := by decide +kernel
theorem dX7_bound_0 : decode cX7_bound 0 = .ok (.aload_n 0, 1) := by decide +kernel
theorem dX7_bound_1 : decode cX7_bound 1 = .ok (.iconst 0, 1) := by decide +kernel
theorem dX7_bound_2 : decode cX7_bound 2 = .ok (.putfield 79, 3) := by decide +kernel
theorem dX7_bound_5 : decode cX7_bound 5 = .ok (.aload_n 0, 1) := by decide +kernel
theorem dX7_bound_6 : decode cX7_bound 6 = .ok (.iload_n 1, 1) := by decide +kernel
theorem dX7_bound_7 : decode cX7_bound 7 = .ok (.invokevirtual 306, 3) := by decide +kernel
theorem dX7_bound_10 : decode cX7_bound 10 = .ok (.ifCond .ne 25, 3) := by decide +kernel
theorem dX7_bound_13 : decode cX7_bound 13 = .ok (.aload_n 0, 1) := by decide +kernel
theorem dX7_bound_14 : decode cX7_bound 14 = .ok (.iload_n 2, 1) := by decide +kernel
theorem dX7_bound_15 : decode cX7_bound 15 = .ok (.iconst 0, 1) := by decide +kernel
theorem dX7_bound_16 : decode cX7_bound 16 = .ok (.iconst 1, 1) := by decide +kernel
theorem dX7_bound_17 : decode cX7_bound 17 = .ok (.invokestatic 179, 3) := by decide +kernel
theorem dX7_bound_20 : decode cX7_bound 20 = .ok (.ifCond .ne 7, 3) := by decide +kernel
theorem dX7_bound_23 : decode cX7_bound 23 = .ok (.iconst 1, 1) := by decide +kernel
theorem dX7_bound_24 : decode cX7_bound 24 = .ok (.goto 4, 3) := by decide +kernel
theorem dX7_bound_27 : decode cX7_bound 27 = .ok (.iconst 0, 1) := by decide +kernel
theorem dX7_bound_28 : decode cX7_bound 28 = .ok (.iconst 3, 1) := by decide +kernel
theorem dX7_bound_29 : decode cX7_bound 29 = .ok (.invokevirtual 287, 3) := by decide +kernel
theorem dX7_bound_32 : decode cX7_bound 32 = .ok (.ifCond .eq 5, 3) := by decide +kernel
theorem dX7_bound_35 : decode cX7_bound 35 = .ok (.iconst 0, 1) := by decide +kernel
theorem dX7_bound_36 : decode cX7_bound 36 = .ok (.ireturn, 1) := by decide +kernel
theorem dX7_bound_37 : decode cX7_bound 37 = .ok (.aload_n 0, 1) := by decide +kernel
theorem dX7_bound_38 : decode cX7_bound 38 = .ok (.getfield 17, 3) := by decide +kernel
theorem dX7_bound_41 : decode cX7_bound 41 = .ok (.iload_n 1, 1) := by decide +kernel
theorem dX7_bound_42 : decode cX7_bound 42 = .ok (.aload_n 0, 1) := by decide +kernel
theorem dX7_bound_43 : decode cX7_bound 43 = .ok (.getfield 61, 3) := by decide +kernel
theorem dX7_bound_46 : decode cX7_bound 46 = .ok (.invokestatic 226, 3) := by decide +kernel
theorem dX7_bound_49 : decode cX7_bound 49 = .ok (.iload_n 2, 1) := by decide +kernel
theorem dX7_bound_50 : decode cX7_bound 50 = .ok (.ifCond .ne 21, 3) := by decide +kernel
theorem dX7_bound_53 : decode cX7_bound 53 = .ok (.aload_n 0, 1) := by decide +kernel
theorem dX7_bound_54 : decode cX7_bound 54 = .ok (.getfield 61, 3) := by decide +kernel
theorem dX7_bound_57 : decode cX7_bound 57 = .ok (.invokestatic 107, 3) := by decide +kernel
theorem dX7_bound_60 : decode cX7_bound 60 = .ok (.aload_n 0, 1) := by decide +kernel
theorem dX7_bound_61 : decode cX7_bound 61 = .ok (.getfield 61, 3) := by decide +kernel
theorem dX7_bound_64 : decode cX7_bound 64 = .ok (.bipush 10, 2) := by decide +kernel
theorem dX7_bound_66 : decode cX7_bound 66 = .ok (.laload, 1) := by decide +kernel
theorem dX7_bound_67 : decode cX7_bound 67 = .ok (.ladd, 1) := by decide +kernel
theorem dX7_bound_68 : decode cX7_bound 68 = .ok (.goto 18, 3) := by decide +kernel
theorem dX7_bound_71 : decode cX7_bound 71 = .ok (.aload_n 0, 1) := by decide +kernel
theorem dX7_bound_72 : decode cX7_bound 72 = .ok (.getfield 61, 3) := by decide +kernel
theorem dX7_bound_75 : decode cX7_bound 75 = .ok (.invokestatic 113, 3) := by decide +kernel
theorem dX7_bound_78 : decode cX7_bound 78 = .ok (.aload_n 0, 1) := by decide +kernel
theorem dX7_bound_79 : decode cX7_bound 79 = .ok (.getfield 61, 3) := by decide +kernel
theorem dX7_bound_82 : decode cX7_bound 82 = .ok (.bipush 11, 2) := by decide +kernel
theorem dX7_bound_84 : decode cX7_bound 84 = .ok (.laload, 1) := by decide +kernel
theorem dX7_bound_85 : decode cX7_bound 85 = .ok (.ladd, 1) := by decide +kernel
theorem dX7_bound_86 : decode cX7_bound 86 = .ok (.l2i, 1) := by decide +kernel
theorem dX7_bound_87 : decode cX7_bound 87 = .ok (.ireturn, 1) := by decide +kernel
theorem dX7_power_0 : decode cX7_power 0 = .ok (.iload_n 2, 1) := by decide +kernel
theorem dX7_power_1 : decode cX7_power 1 = .ok (.ifCond .ne 7, 3) := by decide +kernel
theorem dX7_power_4 : decode cX7_power 4 = .ok (.lconst 1, 1) := by decide +kernel
theorem dX7_power_5 : decode cX7_power 5 = .ok (.goto 28, 3) := by decide +kernel
theorem dX7_power_8 : decode cX7_power 8 = .ok (.iload_n 2, 1) := by decide +kernel
theorem dX7_power_9 : decode cX7_power 9 = .ok (.iconst 1, 1) := by decide +kernel
theorem dX7_power_10 : decode cX7_power 10 = .ok (.if_icmp .ne 7, 3) := by decide +kernel
theorem dX7_power_13 : decode cX7_power 13 = .ok (.lload_n 0, 1) := by decide +kernel
theorem dX7_power_14 : decode cX7_power 14 = .ok (.goto 19, 3) := by decide +kernel
theorem dX7_power_17 : decode cX7_power 17 = .ok (.iload_n 2, 1) := by decide +kernel
theorem dX7_power_18 : decode cX7_power 18 = .ok (.iconst 2, 1) := by decide +kernel
theorem dX7_power_19 : decode cX7_power 19 = .ok (.if_icmp .ne 9, 3) := by decide +kernel
theorem dX7_power_22 : decode cX7_power 22 = .ok (.lload_n 0, 1) := by decide +kernel
theorem dX7_power_23 : decode cX7_power 23 = .ok (.lload_n 0, 1) := by decide +kernel
theorem dX7_power_24 : decode cX7_power 24 = .ok (.lmul, 1) := by decide +kernel
theorem dX7_power_25 : decode cX7_power 25 = .ok (.goto 8, 3) := by decide +kernel
theorem dX7_power_28 : decode cX7_power 28 = .ok (.lload_n 0, 1) := by decide +kernel
theorem dX7_power_29 : decode cX7_power 29 = .ok (.lload_n 0, 1) := by decide +kernel
theorem dX7_power_30 : decode cX7_power 30 = .ok (.lmul, 1) := by decide +kernel
theorem dX7_power_31 : decode cX7_power 31 = .ok (.lload_n 0, 1) := by decide +kernel
theorem dX7_power_32 : decode cX7_power 32 = .ok (.lmul, 1) := by decide +kernel
theorem dX7_power_33 : decode cX7_power 33 = .ok (.lreturn, 1) := by decide +kernel
theorem dX7_value_0 : decode cX7_value 0 = .ok (.aload_n 0, 1) := by decide +kernel
theorem dX7_value_1 : decode cX7_value 1 = .ok (.iconst 0, 1) := by decide +kernel
theorem dX7_value_2 : decode cX7_value 2 = .ok (.putfield 79, 3) := by decide +kernel
theorem dX7_value_5 : decode cX7_value 5 = .ok (.aload_n 0, 1) := by decide +kernel
theorem dX7_value_6 : decode cX7_value 6 = .ok (.iload_n 1, 1) := by decide +kernel
theorem dX7_value_7 : decode cX7_value 7 = .ok (.invokevirtual 306, 3) := by decide +kernel
theorem dX7_value_10 : decode cX7_value 10 = .ok (.ifCond .ne 52, 3) := by decide +kernel
theorem dX7_value_13 : decode cX7_value 13 = .ok (.aload_n 0, 1) := by decide +kernel
theorem dX7_value_14 : decode cX7_value 14 = .ok (.iload_n 2, 1) := by decide +kernel
theorem dX7_value_15 : decode cX7_value 15 = .ok (.sipush (-1000), 3) := by decide +kernel
theorem dX7_value_18 : decode cX7_value 18 = .ok (.sipush 1000, 3) := by decide +kernel
theorem dX7_value_21 : decode cX7_value 21 = .ok (.invokestatic 179, 3) := by decide +kernel
theorem dX7_value_24 : decode cX7_value 24 = .ok (.ifCond .eq 26, 3) := by decide +kernel
theorem dX7_value_27 : decode cX7_value 27 = .ok (.iload_n 3, 1) := by decide +kernel
theorem dX7_value_28 : decode cX7_value 28 = .ok (.sipush (-1000), 3) := by decide +kernel
theorem dX7_value_31 : decode cX7_value 31 = .ok (.sipush 1000, 3) := by decide +kernel
theorem dX7_value_34 : decode cX7_value 34 = .ok (.invokestatic 179, 3) := by decide +kernel
theorem dX7_value_37 : decode cX7_value 37 = .ok (.ifCond .eq 13, 3) := by decide +kernel
theorem dX7_value_40 : decode cX7_value 40 = .ok (.iload 4, 2) := by decide +kernel
theorem dX7_value_42 : decode cX7_value 42 = .ok (.iconst 0, 1) := by decide +kernel
theorem dX7_value_43 : decode cX7_value 43 = .ok (.iconst 1, 1) := by decide +kernel
theorem dX7_value_44 : decode cX7_value 44 = .ok (.invokestatic 179, 3) := by decide +kernel
theorem dX7_value_47 : decode cX7_value 47 = .ok (.ifCond .ne 7, 3) := by decide +kernel
theorem dX7_value_50 : decode cX7_value 50 = .ok (.iconst 1, 1) := by decide +kernel
theorem dX7_value_51 : decode cX7_value 51 = .ok (.goto 4, 3) := by decide +kernel
theorem dX7_value_54 : decode cX7_value 54 = .ok (.iconst 0, 1) := by decide +kernel
theorem dX7_value_55 : decode cX7_value 55 = .ok (.iconst 3, 1) := by decide +kernel
theorem dX7_value_56 : decode cX7_value 56 = .ok (.invokevirtual 287, 3) := by decide +kernel
theorem dX7_value_59 : decode cX7_value 59 = .ok (.ifCond .eq 5, 3) := by decide +kernel
theorem dX7_value_62 : decode cX7_value 62 = .ok (.iconst 0, 1) := by decide +kernel
theorem dX7_value_63 : decode cX7_value 63 = .ok (.ireturn, 1) := by decide +kernel
theorem dX7_value_64 : decode cX7_value 64 = .ok (.aload_n 0, 1) := by decide +kernel
theorem dX7_value_65 : decode cX7_value 65 = .ok (.getfield 17, 3) := by decide +kernel
theorem dX7_value_68 : decode cX7_value 68 = .ok (.iload_n 1, 1) := by decide +kernel
theorem dX7_value_69 : decode cX7_value 69 = .ok (.aload_n 0, 1) := by decide +kernel
theorem dX7_value_70 : decode cX7_value 70 = .ok (.getfield 61, 3) := by decide +kernel
theorem dX7_value_73 : decode cX7_value 73 = .ok (.invokestatic 226, 3) := by decide +kernel
theorem dX7_value_76 : decode cX7_value 76 = .ok (.lconst 0, 1) := by decide +kernel
theorem dX7_value_77 : decode cX7_value 77 = .ok (.lstore 5, 2) := by decide +kernel
theorem dX7_value_79 : decode cX7_value 79 = .ok (.ldc2_w 116, 3) := by decide +kernel
theorem dX7_value_82 : decode cX7_value 82 = .ok (.iconst 3, 1) := by decide +kernel
theorem dX7_value_83 : decode cX7_value 83 = .ok (.invokestatic 313, 3) := by decide +kernel
theorem dX7_value_86 : decode cX7_value 86 = .ok (.lstore 7, 2) := by decide +kernel
theorem dX7_value_88 : decode cX7_value 88 = .ok (.iconst 0, 1) := by decide +kernel
theorem dX7_value_89 : decode cX7_value 89 = .ok (.istore 9, 2) := by decide +kernel
theorem dX7_value_91 : decode cX7_value 91 = .ok (.iload 9, 2) := by decide +kernel
theorem dX7_value_93 : decode cX7_value 93 = .ok (.bipush 10, 2) := by decide +kernel
theorem dX7_value_95 : decode cX7_value 95 = .ok (.if_icmp .ge 63, 3) := by decide +kernel
theorem dX7_value_98 : decode cX7_value 98 = .ok (.lload 5, 2) := by decide +kernel
theorem dX7_value_100 : decode cX7_value 100 = .ok (.aload_n 0, 1) := by decide +kernel
theorem dX7_value_101 : decode cX7_value 101 = .ok (.getfield 61, 3) := by decide +kernel
theorem dX7_value_104 : decode cX7_value 104 = .ok (.iload 9, 2) := by decide +kernel
theorem dX7_value_106 : decode cX7_value 106 = .ok (.laload, 1) := by decide +kernel
theorem dX7_value_107 : decode cX7_value 107 = .ok (.iload_n 2, 1) := by decide +kernel
theorem dX7_value_108 : decode cX7_value 108 = .ok (.i2l, 1) := by decide +kernel
theorem dX7_value_109 : decode cX7_value 109 = .ok (.iload 9, 2) := by decide +kernel
theorem dX7_value_111 : decode cX7_value 111 = .ok (.invokestatic 93, 3) := by decide +kernel
theorem dX7_value_114 : decode cX7_value 114 = .ok (.invokestatic 313, 3) := by decide +kernel
theorem dX7_value_117 : decode cX7_value 117 = .ok (.lmul, 1) := by decide +kernel
theorem dX7_value_118 : decode cX7_value 118 = .ok (.iload_n 3, 1) := by decide +kernel
theorem dX7_value_119 : decode cX7_value 119 = .ok (.i2l, 1) := by decide +kernel
theorem dX7_value_120 : decode cX7_value 120 = .ok (.iload 9, 2) := by decide +kernel
theorem dX7_value_122 : decode cX7_value 122 = .ok (.invokestatic 97, 3) := by decide +kernel
theorem dX7_value_125 : decode cX7_value 125 = .ok (.invokestatic 313, 3) := by decide +kernel
theorem dX7_value_128 : decode cX7_value 128 = .ok (.lmul, 1) := by decide +kernel
theorem dX7_value_129 : decode cX7_value 129 = .ok (.ldc2_w 116, 3) := by decide +kernel
theorem dX7_value_132 : decode cX7_value 132 = .ok (.iconst 3, 1) := by decide +kernel
theorem dX7_value_133 : decode cX7_value 133 = .ok (.iload 9, 2) := by decide +kernel
theorem dX7_value_135 : decode cX7_value 135 = .ok (.invokestatic 93, 3) := by decide +kernel
theorem dX7_value_138 : decode cX7_value 138 = .ok (.isub, 1) := by decide +kernel
theorem dX7_value_139 : decode cX7_value 139 = .ok (.iload 9, 2) := by decide +kernel
theorem dX7_value_141 : decode cX7_value 141 = .ok (.invokestatic 97, 3) := by decide +kernel
theorem dX7_value_144 : decode cX7_value 144 = .ok (.isub, 1) := by decide +kernel
theorem dX7_value_145 : decode cX7_value 145 = .ok (.invokestatic 313, 3) := by decide +kernel
theorem dX7_value_148 : decode cX7_value 148 = .ok (.lmul, 1) := by decide +kernel
theorem dX7_value_149 : decode cX7_value 149 = .ok (.ladd, 1) := by decide +kernel
theorem dX7_value_150 : decode cX7_value 150 = .ok (.lstore 5, 2) := by decide +kernel
theorem dX7_value_152 : decode cX7_value 152 = .ok (.iinc 9 1, 3) := by decide +kernel
theorem dX7_value_155 : decode cX7_value 155 = .ok (.goto (-64), 3) := by decide +kernel
theorem dX7_value_158 : decode cX7_value 158 = .ok (.iload 4, 2) := by decide +kernel
theorem dX7_value_160 : decode cX7_value 160 = .ok (.ifCond .ne 21, 3) := by decide +kernel
theorem dX7_value_163 : decode cX7_value 163 = .ok (.lload 5, 2) := by decide +kernel
theorem dX7_value_165 : decode cX7_value 165 = .ok (.lload 7, 2) := by decide +kernel
theorem dX7_value_167 : decode cX7_value 167 = .ok (.invokestatic 82, 3) := by decide +kernel
theorem dX7_value_170 : decode cX7_value 170 = .ok (.aload_n 0, 1) := by decide +kernel
theorem dX7_value_171 : decode cX7_value 171 = .ok (.getfield 61, 3) := by decide +kernel
theorem dX7_value_174 : decode cX7_value 174 = .ok (.bipush 10, 2) := by decide +kernel
theorem dX7_value_176 : decode cX7_value 176 = .ok (.laload, 1) := by decide +kernel
theorem dX7_value_177 : decode cX7_value 177 = .ok (.ladd, 1) := by decide +kernel
theorem dX7_value_178 : decode cX7_value 178 = .ok (.goto 18, 3) := by decide +kernel
theorem dX7_value_181 : decode cX7_value 181 = .ok (.lload 5, 2) := by decide +kernel
theorem dX7_value_183 : decode cX7_value 183 = .ok (.lload 7, 2) := by decide +kernel
theorem dX7_value_185 : decode cX7_value 185 = .ok (.invokestatic 144, 3) := by decide +kernel
theorem dX7_value_188 : decode cX7_value 188 = .ok (.aload_n 0, 1) := by decide +kernel
theorem dX7_value_189 : decode cX7_value 189 = .ok (.getfield 61, 3) := by decide +kernel
theorem dX7_value_192 : decode cX7_value 192 = .ok (.bipush 11, 2) := by decide +kernel
theorem dX7_value_194 : decode cX7_value 194 = .ok (.laload, 1) := by decide +kernel
theorem dX7_value_195 : decode cX7_value 195 = .ok (.ladd, 1) := by decide +kernel
theorem dX7_value_196 : decode cX7_value 196 = .ok (.l2i, 1) := by decide +kernel
theorem dX7_value_197 : decode cX7_value 197 = .ok (.ireturn, 1) := by decide +kernel
theorem dX7_degree_0 : decode cX7_degree 0 = .ok (.aload_n 0, 1) := by decide +kernel
theorem dX7_degree_1 : decode cX7_degree 1 = .ok (.iconst 0, 1) := by decide +kernel
theorem dX7_degree_2 : decode cX7_degree 2 = .ok (.putfield 79, 3) := by decide +kernel
theorem dX7_degree_5 : decode cX7_degree 5 = .ok (.aload_n 0, 1) := by decide +kernel
theorem dX7_degree_6 : decode cX7_degree 6 = .ok (.iload_n 1, 1) := by decide +kernel
theorem dX7_degree_7 : decode cX7_degree 7 = .ok (.invokevirtual 306, 3) := by decide +kernel
theorem dX7_degree_10 : decode cX7_degree 10 = .ok (.ifCond .eq 5, 3) := by decide +kernel
theorem dX7_degree_13 : decode cX7_degree 13 = .ok (.iconst 0, 1) := by decide +kernel
theorem dX7_degree_14 : decode cX7_degree 14 = .ok (.ireturn, 1) := by decide +kernel
theorem dX7_degree_15 : decode cX7_degree 15 = .ok (.iconst (-1), 1) := by decide +kernel
theorem dX7_degree_16 : decode cX7_degree 16 = .ok (.istore_n 2, 1) := by decide +kernel
theorem dX7_degree_17 : decode cX7_degree 17 = .ok (.iconst 0, 1) := by decide +kernel
theorem dX7_degree_18 : decode cX7_degree 18 = .ok (.istore_n 3, 1) := by decide +kernel
theorem dX7_degree_19 : decode cX7_degree 19 = .ok (.iload_n 3, 1) := by decide +kernel
theorem dX7_degree_20 : decode cX7_degree 20 = .ok (.bipush 10, 2) := by decide +kernel
theorem dX7_degree_22 : decode cX7_degree 22 = .ok (.if_icmp .ge 48, 3) := by decide +kernel
theorem dX7_degree_25 : decode cX7_degree 25 = .ok (.aload_n 0, 1) := by decide +kernel
theorem dX7_degree_26 : decode cX7_degree 26 = .ok (.getfield 17, 3) := by decide +kernel
theorem dX7_degree_29 : decode cX7_degree 29 = .ok (.iconst 1, 1) := by decide +kernel
theorem dX7_degree_30 : decode cX7_degree 30 = .ok (.bipush 12, 2) := by decide +kernel
theorem dX7_degree_32 : decode cX7_degree 32 = .ok (.iload_n 1, 1) := by decide +kernel
theorem dX7_degree_33 : decode cX7_degree 33 = .ok (.imul, 1) := by decide +kernel
theorem dX7_degree_34 : decode cX7_degree 34 = .ok (.iadd, 1) := by decide +kernel
theorem dX7_degree_35 : decode cX7_degree 35 = .ok (.iload_n 3, 1) := by decide +kernel
theorem dX7_degree_36 : decode cX7_degree 36 = .ok (.iadd, 1) := by decide +kernel
theorem dX7_degree_37 : decode cX7_degree 37 = .ok (.iaload, 1) := by decide +kernel
theorem dX7_degree_38 : decode cX7_degree 38 = .ok (.ifCond .eq 26, 3) := by decide +kernel
theorem dX7_degree_41 : decode cX7_degree 41 = .ok (.iload_n 3, 1) := by decide +kernel
theorem dX7_degree_42 : decode cX7_degree 42 = .ok (.invokestatic 93, 3) := by decide +kernel
theorem dX7_degree_45 : decode cX7_degree 45 = .ok (.iload_n 3, 1) := by decide +kernel
theorem dX7_degree_46 : decode cX7_degree 46 = .ok (.invokestatic 97, 3) := by decide +kernel
theorem dX7_degree_49 : decode cX7_degree 49 = .ok (.iadd, 1) := by decide +kernel
theorem dX7_degree_50 : decode cX7_degree 50 = .ok (.iload_n 2, 1) := by decide +kernel
theorem dX7_degree_51 : decode cX7_degree 51 = .ok (.if_icmp .le 13, 3) := by decide +kernel
theorem dX7_degree_54 : decode cX7_degree 54 = .ok (.iload_n 3, 1) := by decide +kernel
theorem dX7_degree_55 : decode cX7_degree 55 = .ok (.invokestatic 93, 3) := by decide +kernel
theorem dX7_degree_58 : decode cX7_degree 58 = .ok (.iload_n 3, 1) := by decide +kernel
theorem dX7_degree_59 : decode cX7_degree 59 = .ok (.invokestatic 97, 3) := by decide +kernel
theorem dX7_degree_62 : decode cX7_degree 62 = .ok (.iadd, 1) := by decide +kernel
theorem dX7_degree_63 : decode cX7_degree 63 = .ok (.istore_n 2, 1) := by decide +kernel
theorem dX7_degree_64 : decode cX7_degree 64 = .ok (.iinc 3 1, 3) := by decide +kernel
theorem dX7_degree_67 : decode cX7_degree 67 = .ok (.goto (-48), 3) := by decide +kernel
theorem dX7_degree_70 : decode cX7_degree 70 = .ok (.iload_n 2, 1) := by decide +kernel
theorem dX7_degree_71 : decode cX7_degree 71 = .ok (.ireturn, 1) := by decide +kernel
theorem dX7_covers_0 : decode cX7_covers 0 = .ok (.aload_n 0, 1) := by decide +kernel
theorem dX7_covers_1 : decode cX7_covers 1 = .ok (.iconst 0, 1) := by decide +kernel
theorem dX7_covers_2 : decode cX7_covers 2 = .ok (.putfield 79, 3) := by decide +kernel
theorem dX7_covers_5 : decode cX7_covers 5 = .ok (.aload_n 0, 1) := by decide +kernel
theorem dX7_covers_6 : decode cX7_covers 6 = .ok (.iload_n 1, 1) := by decide +kernel
theorem dX7_covers_7 : decode cX7_covers 7 = .ok (.iload_n 2, 1) := by decide +kernel
theorem dX7_covers_8 : decode cX7_covers 8 = .ok (.invokevirtual 316, 3) := by decide +kernel
theorem dX7_covers_11 : decode cX7_covers 11 = .ok (.ifCond .eq 5, 3) := by decide +kernel
theorem dX7_covers_14 : decode cX7_covers 14 = .ok (.iconst 0, 1) := by decide +kernel
theorem dX7_covers_15 : decode cX7_covers 15 = .ok (.ireturn, 1) := by decide +kernel
theorem dX7_covers_16 : decode cX7_covers 16 = .ok (.iconst 0, 1) := by decide +kernel
theorem dX7_covers_17 : decode cX7_covers 17 = .ok (.istore_n 3, 1) := by decide +kernel
theorem dX7_covers_18 : decode cX7_covers 18 = .ok (.iload_n 3, 1) := by decide +kernel
theorem dX7_covers_19 : decode cX7_covers 19 = .ok (.bipush 10, 2) := by decide +kernel
theorem dX7_covers_21 : decode cX7_covers 21 = .ok (.if_icmp .ge 28, 3) := by decide +kernel
theorem dX7_covers_24 : decode cX7_covers 24 = .ok (.aload_n 0, 1) := by decide +kernel
theorem dX7_covers_25 : decode cX7_covers 25 = .ok (.getfield 67, 3) := by decide +kernel
theorem dX7_covers_28 : decode cX7_covers 28 = .ok (.iload_n 3, 1) := by decide +kernel
theorem dX7_covers_29 : decode cX7_covers 29 = .ok (.aload_n 0, 1) := by decide +kernel
theorem dX7_covers_30 : decode cX7_covers 30 = .ok (.getfield 64, 3) := by decide +kernel
theorem dX7_covers_33 : decode cX7_covers 33 = .ok (.iload_n 3, 1) := by decide +kernel
theorem dX7_covers_34 : decode cX7_covers 34 = .ok (.laload, 1) := by decide +kernel
theorem dX7_covers_35 : decode cX7_covers 35 = .ok (.aload_n 0, 1) := by decide +kernel
theorem dX7_covers_36 : decode cX7_covers 36 = .ok (.getfield 61, 3) := by decide +kernel
theorem dX7_covers_39 : decode cX7_covers 39 = .ok (.iload_n 3, 1) := by decide +kernel
theorem dX7_covers_40 : decode cX7_covers 40 = .ok (.laload, 1) := by decide +kernel
theorem dX7_covers_41 : decode cX7_covers 41 = .ok (.lsub, 1) := by decide +kernel
theorem dX7_covers_42 : decode cX7_covers 42 = .ok (.lastore, 1) := by decide +kernel
theorem dX7_covers_43 : decode cX7_covers 43 = .ok (.iinc 3 1, 3) := by decide +kernel
theorem dX7_covers_46 : decode cX7_covers 46 = .ok (.goto (-28), 3) := by decide +kernel
theorem dX7_covers_49 : decode cX7_covers 49 = .ok (.aload_n 0, 1) := by decide +kernel
theorem dX7_covers_50 : decode cX7_covers 50 = .ok (.getfield 67, 3) := by decide +kernel
theorem dX7_covers_53 : decode cX7_covers 53 = .ok (.invokestatic 107, 3) := by decide +kernel
theorem dX7_covers_56 : decode cX7_covers 56 = .ok (.aload_n 0, 1) := by decide +kernel
theorem dX7_covers_57 : decode cX7_covers 57 = .ok (.getfield 64, 3) := by decide +kernel
theorem dX7_covers_60 : decode cX7_covers 60 = .ok (.bipush 10, 2) := by decide +kernel
theorem dX7_covers_62 : decode cX7_covers 62 = .ok (.laload, 1) := by decide +kernel
theorem dX7_covers_63 : decode cX7_covers 63 = .ok (.ladd, 1) := by decide +kernel
theorem dX7_covers_64 : decode cX7_covers 64 = .ok (.aload_n 0, 1) := by decide +kernel
theorem dX7_covers_65 : decode cX7_covers 65 = .ok (.getfield 61, 3) := by decide +kernel
theorem dX7_covers_68 : decode cX7_covers 68 = .ok (.bipush 10, 2) := by decide +kernel
theorem dX7_covers_70 : decode cX7_covers 70 = .ok (.laload, 1) := by decide +kernel
theorem dX7_covers_71 : decode cX7_covers 71 = .ok (.lcmp, 1) := by decide +kernel
theorem dX7_covers_72 : decode cX7_covers 72 = .ok (.ifCond .lt 33, 3) := by decide +kernel
theorem dX7_covers_75 : decode cX7_covers 75 = .ok (.aload_n 0, 1) := by decide +kernel
theorem dX7_covers_76 : decode cX7_covers 76 = .ok (.getfield 67, 3) := by decide +kernel
theorem dX7_covers_79 : decode cX7_covers 79 = .ok (.invokestatic 113, 3) := by decide +kernel
theorem dX7_covers_82 : decode cX7_covers 82 = .ok (.aload_n 0, 1) := by decide +kernel
theorem dX7_covers_83 : decode cX7_covers 83 = .ok (.getfield 64, 3) := by decide +kernel
theorem dX7_covers_86 : decode cX7_covers 86 = .ok (.bipush 11, 2) := by decide +kernel
theorem dX7_covers_88 : decode cX7_covers 88 = .ok (.laload, 1) := by decide +kernel
theorem dX7_covers_89 : decode cX7_covers 89 = .ok (.ladd, 1) := by decide +kernel
theorem dX7_covers_90 : decode cX7_covers 90 = .ok (.aload_n 0, 1) := by decide +kernel
theorem dX7_covers_91 : decode cX7_covers 91 = .ok (.getfield 61, 3) := by decide +kernel
theorem dX7_covers_94 : decode cX7_covers 94 = .ok (.bipush 11, 2) := by decide +kernel
theorem dX7_covers_96 : decode cX7_covers 96 = .ok (.laload, 1) := by decide +kernel
theorem dX7_covers_97 : decode cX7_covers 97 = .ok (.lcmp, 1) := by decide +kernel
theorem dX7_covers_98 : decode cX7_covers 98 = .ok (.ifCond .gt 7, 3) := by decide +kernel
theorem dX7_covers_101 : decode cX7_covers 101 = .ok (.iconst 1, 1) := by decide +kernel
theorem dX7_covers_102 : decode cX7_covers 102 = .ok (.goto 4, 3) := by decide +kernel
theorem dX7_covers_105 : decode cX7_covers 105 = .ok (.iconst 0, 1) := by decide +kernel
theorem dX7_covers_106 : decode cX7_covers 106 = .ok (.ireturn, 1) := by decide +kernel
theorem dX7_noThree_0 : decode cX7_noThree 0 = .ok (.aload_n 0, 1) := by decide +kernel
theorem dX7_noThree_1 : decode cX7_noThree 1 = .ok (.iload_n 1, 1) := by decide +kernel
theorem dX7_noThree_2 : decode cX7_noThree 2 = .ok (.invokevirtual 303, 3) := by decide +kernel
theorem dX7_noThree_5 : decode cX7_noThree 5 = .ok (.ifCond .ne 36, 3) := by decide +kernel
theorem dX7_noThree_8 : decode cX7_noThree 8 = .ok (.aload_n 0, 1) := by decide +kernel
theorem dX7_noThree_9 : decode cX7_noThree 9 = .ok (.iload_n 2, 1) := by decide +kernel
theorem dX7_noThree_10 : decode cX7_noThree 10 = .ok (.invokevirtual 303, 3) := by decide +kernel
theorem dX7_noThree_13 : decode cX7_noThree 13 = .ok (.ifCond .ne 28, 3) := by decide +kernel
theorem dX7_noThree_16 : decode cX7_noThree 16 = .ok (.aload_n 0, 1) := by decide +kernel
theorem dX7_noThree_17 : decode cX7_noThree 17 = .ok (.iload_n 3, 1) := by decide +kernel
theorem dX7_noThree_18 : decode cX7_noThree 18 = .ok (.invokevirtual 303, 3) := by decide +kernel
theorem dX7_noThree_21 : decode cX7_noThree 21 = .ok (.ifCond .ne 20, 3) := by decide +kernel
theorem dX7_noThree_24 : decode cX7_noThree 24 = .ok (.aload_n 0, 1) := by decide +kernel
theorem dX7_noThree_25 : decode cX7_noThree 25 = .ok (.iload_n 1, 1) := by decide +kernel
theorem dX7_noThree_26 : decode cX7_noThree 26 = .ok (.invokevirtual 306, 3) := by decide +kernel
theorem dX7_noThree_29 : decode cX7_noThree 29 = .ok (.ifCond .ne 12, 3) := by decide +kernel
theorem dX7_noThree_32 : decode cX7_noThree 32 = .ok (.aload_n 0, 1) := by decide +kernel
theorem dX7_noThree_33 : decode cX7_noThree 33 = .ok (.iload_n 2, 1) := by decide +kernel
theorem dX7_noThree_34 : decode cX7_noThree 34 = .ok (.iload_n 3, 1) := by decide +kernel
theorem dX7_noThree_35 : decode cX7_noThree 35 = .ok (.invokevirtual 316, 3) := by decide +kernel
theorem dX7_noThree_38 : decode cX7_noThree 38 = .ok (.ifCond .eq 5, 3) := by decide +kernel
theorem dX7_noThree_41 : decode cX7_noThree 41 = .ok (.iconst 1, 1) := by decide +kernel
theorem dX7_noThree_42 : decode cX7_noThree 42 = .ok (.ireturn, 1) := by decide +kernel
theorem dX7_noThree_43 : decode cX7_noThree 43 = .ok (.aload_n 0, 1) := by decide +kernel
theorem dX7_noThree_44 : decode cX7_noThree 44 = .ok (.getfield 17, 3) := by decide +kernel
theorem dX7_noThree_47 : decode cX7_noThree 47 = .ok (.iload_n 1, 1) := by decide +kernel
theorem dX7_noThree_48 : decode cX7_noThree 48 = .ok (.aload_n 0, 1) := by decide +kernel
theorem dX7_noThree_49 : decode cX7_noThree 49 = .ok (.getfield 67, 3) := by decide +kernel
theorem dX7_noThree_52 : decode cX7_noThree 52 = .ok (.invokestatic 226, 3) := by decide +kernel
theorem dX7_noThree_55 : decode cX7_noThree 55 = .ok (.iconst 0, 1) := by decide +kernel
theorem dX7_noThree_56 : decode cX7_noThree 56 = .ok (.ireturn, 1) := by decide +kernel
theorem dX7_reason_0 : decode cX7_reason 0 = .ok (.aload_n 0, 1) := by decide +kernel
theorem dX7_reason_1 : decode cX7_reason 1 = .ok (.iconst 0, 1) := by decide +kernel
theorem dX7_reason_2 : decode cX7_reason 2 = .ok (.putfield 79, 3) := by decide +kernel
theorem dX7_reason_5 : decode cX7_reason 5 = .ok (.aload_n 0, 1) := by decide +kernel
theorem dX7_reason_6 : decode cX7_reason 6 = .ok (.iload_n 1, 1) := by decide +kernel
theorem dX7_reason_7 : decode cX7_reason 7 = .ok (.iload_n 2, 1) := by decide +kernel
theorem dX7_reason_8 : decode cX7_reason 8 = .ok (.iload_n 3, 1) := by decide +kernel
theorem dX7_reason_9 : decode cX7_reason 9 = .ok (.invokevirtual 319, 3) := by decide +kernel
theorem dX7_reason_12 : decode cX7_reason 12 = .ok (.ifCond .eq 7, 3) := by decide +kernel
theorem dX7_reason_15 : decode cX7_reason 15 = .ok (.iconst 0, 1) := by decide +kernel
theorem dX7_reason_16 : decode cX7_reason 16 = .ok (.goto 23, 3) := by decide +kernel
theorem dX7_reason_19 : decode cX7_reason 19 = .ok (.aload_n 0, 1) := by decide +kernel
theorem dX7_reason_20 : decode cX7_reason 20 = .ok (.aload_n 0, 1) := by decide +kernel
theorem dX7_reason_21 : decode cX7_reason 21 = .ok (.getfield 67, 3) := by decide +kernel
theorem dX7_reason_24 : decode cX7_reason 24 = .ok (.aload_n 0, 1) := by decide +kernel
theorem dX7_reason_25 : decode cX7_reason 25 = .ok (.getfield 61, 3) := by decide +kernel
theorem dX7_reason_28 : decode cX7_reason 28 = .ok (.aload_n 0, 1) := by decide +kernel
theorem dX7_reason_29 : decode cX7_reason 29 = .ok (.getfield 64, 3) := by decide +kernel
theorem dX7_reason_32 : decode cX7_reason 32 = .ok (.aload_n 0, 1) := by decide +kernel
theorem dX7_reason_33 : decode cX7_reason 33 = .ok (.getfield 70, 3) := by decide +kernel
theorem dX7_reason_36 : decode cX7_reason 36 = .ok (.invokevirtual 239, 3) := by decide +kernel
theorem dX7_reason_39 : decode cX7_reason 39 = .ok (.ireturn, 1) := by decide +kernel
theorem dX7_remember_0 : decode cX7_remember 0 = .ok (.aload_n 0, 1) := by decide +kernel
theorem dX7_remember_1 : decode cX7_remember 1 = .ok (.getfield 322, 3) := by decide +kernel
theorem dX7_remember_4 : decode cX7_remember 4 = .ok (.bipush 8, 2) := by decide +kernel
theorem dX7_remember_6 : decode cX7_remember 6 = .ok (.if_icmp .ne 44, 3) := by decide +kernel
theorem dX7_remember_9 : decode cX7_remember 9 = .ok (.iconst 1, 1) := by decide +kernel
theorem dX7_remember_10 : decode cX7_remember 10 = .ok (.istore_n 1, 1) := by decide +kernel
theorem dX7_remember_11 : decode cX7_remember 11 = .ok (.iload_n 1, 1) := by decide +kernel
theorem dX7_remember_12 : decode cX7_remember 12 = .ok (.bipush 8, 2) := by decide +kernel
theorem dX7_remember_14 : decode cX7_remember 14 = .ok (.if_icmp .ge 26, 3) := by decide +kernel
theorem dX7_remember_17 : decode cX7_remember 17 = .ok (.aload_n 0, 1) := by decide +kernel
theorem dX7_remember_18 : decode cX7_remember 18 = .ok (.getfield 25, 3) := by decide +kernel
theorem dX7_remember_21 : decode cX7_remember 21 = .ok (.iload_n 1, 1) := by decide +kernel
theorem dX7_remember_22 : decode cX7_remember 22 = .ok (.aaload, 1) := by decide +kernel
theorem dX7_remember_23 : decode cX7_remember 23 = .ok (.aload_n 0, 1) := by decide +kernel
theorem dX7_remember_24 : decode cX7_remember 24 = .ok (.getfield 25, 3) := by decide +kernel
theorem dX7_remember_27 : decode cX7_remember 27 = .ok (.iload_n 1, 1) := by decide +kernel
theorem dX7_remember_28 : decode cX7_remember 28 = .ok (.iconst 1, 1) := by decide +kernel
theorem dX7_remember_29 : decode cX7_remember 29 = .ok (.isub, 1) := by decide +kernel
theorem dX7_remember_30 : decode cX7_remember 30 = .ok (.aaload, 1) := by decide +kernel
theorem dX7_remember_31 : decode cX7_remember 31 = .ok (.invokestatic 299, 3) := by decide +kernel
theorem dX7_remember_34 : decode cX7_remember 34 = .ok (.iinc 1 1, 3) := by decide +kernel
theorem dX7_remember_37 : decode cX7_remember 37 = .ok (.goto (-26), 3) := by decide +kernel
theorem dX7_remember_40 : decode cX7_remember 40 = .ok (.aload_n 0, 1) := by decide +kernel
theorem dX7_remember_41 : decode cX7_remember 41 = .ok (.dup, 1) := by decide +kernel
theorem dX7_remember_42 : decode cX7_remember 42 = .ok (.getfield 322, 3) := by decide +kernel
theorem dX7_remember_45 : decode cX7_remember 45 = .ok (.iconst 1, 1) := by decide +kernel
theorem dX7_remember_46 : decode cX7_remember 46 = .ok (.isub, 1) := by decide +kernel
theorem dX7_remember_47 : decode cX7_remember 47 = .ok (.putfield 322, 3) := by decide +kernel
theorem dX7_remember_50 : decode cX7_remember 50 = .ok (.aload_n 0, 1) := by decide +kernel
theorem dX7_remember_51 : decode cX7_remember 51 = .ok (.getfield 17, 3) := by decide +kernel
theorem dX7_remember_54 : decode cX7_remember 54 = .ok (.aload_n 0, 1) := by decide +kernel
theorem dX7_remember_55 : decode cX7_remember 55 = .ok (.getfield 25, 3) := by decide +kernel
theorem dX7_remember_58 : decode cX7_remember 58 = .ok (.aload_n 0, 1) := by decide +kernel
theorem dX7_remember_59 : decode cX7_remember 59 = .ok (.getfield 322, 3) := by decide +kernel
theorem dX7_remember_62 : decode cX7_remember 62 = .ok (.aaload, 1) := by decide +kernel
theorem dX7_remember_63 : decode cX7_remember 63 = .ok (.invokestatic 299, 3) := by decide +kernel
theorem dX7_remember_66 : decode cX7_remember 66 = .ok (.aload_n 0, 1) := by decide +kernel
theorem dX7_remember_67 : decode cX7_remember 67 = .ok (.dup, 1) := by decide +kernel
theorem dX7_remember_68 : decode cX7_remember 68 = .ok (.getfield 322, 3) := by decide +kernel
theorem dX7_remember_71 : decode cX7_remember 71 = .ok (.iconst 1, 1) := by decide +kernel
theorem dX7_remember_72 : decode cX7_remember 72 = .ok (.iadd, 1) := by decide +kernel
theorem dX7_remember_73 : decode cX7_remember 73 = .ok (.putfield 322, 3) := by decide +kernel
theorem dX7_remember_76 : decode cX7_remember 76 = .ok (.return_, 1) := by decide +kernel
theorem dX7_becomes_0 : decode cX7_becomes 0 = .ok (.aload_n 0, 1) := by decide +kernel
theorem dX7_becomes_1 : decode cX7_becomes 1 = .ok (.invokevirtual 296, 3) := by decide +kernel
theorem dX7_becomes_4 : decode cX7_becomes 4 = .ok (.aload_n 0, 1) := by decide +kernel
theorem dX7_becomes_5 : decode cX7_becomes 5 = .ok (.getfield 70, 3) := by decide +kernel
theorem dX7_becomes_8 : decode cX7_becomes 8 = .ok (.aload_n 0, 1) := by decide +kernel
theorem dX7_becomes_9 : decode cX7_becomes 9 = .ok (.getfield 17, 3) := by decide +kernel
theorem dX7_becomes_12 : decode cX7_becomes 12 = .ok (.iload_n 1, 1) := by decide +kernel
theorem dX7_becomes_13 : decode cX7_becomes 13 = .ok (.invokestatic 283, 3) := by decide +kernel
theorem dX7_becomes_16 : decode cX7_becomes 16 = .ok (.aload_n 0, 1) := by decide +kernel
theorem dX7_becomes_17 : decode cX7_becomes 17 = .ok (.getfield 70, 3) := by decide +kernel
theorem dX7_becomes_20 : decode cX7_becomes 20 = .ok (.bipush 11, 2) := by decide +kernel
theorem dX7_becomes_22 : decode cX7_becomes 22 = .ok (.laload, 1) := by decide +kernel
theorem dX7_becomes_23 : decode cX7_becomes 23 = .ok (.aload_n 0, 1) := by decide +kernel
theorem dX7_becomes_24 : decode cX7_becomes 24 = .ok (.getfield 70, 3) := by decide +kernel
theorem dX7_becomes_27 : decode cX7_becomes 27 = .ok (.bipush 10, 2) := by decide +kernel
theorem dX7_becomes_29 : decode cX7_becomes 29 = .ok (.laload, 1) := by decide +kernel
theorem dX7_becomes_30 : decode cX7_becomes 30 = .ok (.lsub, 1) := by decide +kernel
theorem dX7_becomes_31 : decode cX7_becomes 31 = .ok (.l2i, 1) := by decide +kernel
theorem dX7_becomes_32 : decode cX7_becomes 32 = .ok (.ireturn, 1) := by decide +kernel
theorem dX7_add_0 : decode cX7_add 0 = .ok (.aload_n 0, 1) := by decide +kernel
theorem dX7_add_1 : decode cX7_add 1 = .ok (.iconst 0, 1) := by decide +kernel
theorem dX7_add_2 : decode cX7_add 2 = .ok (.putfield 79, 3) := by decide +kernel
theorem dX7_add_5 : decode cX7_add 5 = .ok (.aload_n 0, 1) := by decide +kernel
theorem dX7_add_6 : decode cX7_add 6 = .ok (.iload_n 1, 1) := by decide +kernel
theorem dX7_add_7 : decode cX7_add 7 = .ok (.invokevirtual 303, 3) := by decide +kernel
theorem dX7_add_10 : decode cX7_add 10 = .ok (.ifCond .ne 44, 3) := by decide +kernel
theorem dX7_add_13 : decode cX7_add 13 = .ok (.aload_n 0, 1) := by decide +kernel
theorem dX7_add_14 : decode cX7_add 14 = .ok (.iload_n 2, 1) := by decide +kernel

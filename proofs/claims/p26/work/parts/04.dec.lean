theorem d_Medium_init_0 : decode b_Medium_init 0 = .ok (.aload_n 0, 1) := by decide +kernel
theorem d_Medium_init_1 : decode b_Medium_init 1 = .ok (.invokespecial 3, 3) := by decide +kernel
theorem d_Medium_init_4 : decode b_Medium_init 4 = .ok (.aload_n 0, 1) := by decide +kernel
theorem d_Medium_init_5 : decode b_Medium_init 5 = .ok (.iconst 4, 1) := by decide +kernel
theorem d_Medium_init_6 : decode b_Medium_init 6 = .ok (.sipush 512, 3) := by decide +kernel
theorem d_Medium_init_9 : decode b_Medium_init 9 = .ok (.iload_n 1, 1) := by decide +kernel
theorem d_Medium_init_10 : decode b_Medium_init 10 = .ok (.invokestatic 9, 3) := by decide +kernel
theorem d_Medium_init_13 : decode b_Medium_init 13 = .ok (.invokestatic 15, 3) := by decide +kernel
theorem d_Medium_init_16 : decode b_Medium_init 16 = .ok (.putfield 18, 3) := by decide +kernel
theorem d_Medium_init_19 : decode b_Medium_init 19 = .ok (.aload_n 0, 1) := by decide +kernel
theorem d_Medium_init_20 : decode b_Medium_init 20 = .ok (.aload_n 0, 1) := by decide +kernel
theorem d_Medium_init_21 : decode b_Medium_init 21 = .ok (.getfield 18, 3) := by decide +kernel
theorem d_Medium_init_24 : decode b_Medium_init 24 = .ok (.bipush 32, 2) := by decide +kernel
theorem d_Medium_init_26 : decode b_Medium_init 26 = .ok (.imul, 1) := by decide +kernel
theorem d_Medium_init_27 : decode b_Medium_init 27 = .ok (.newarray .byte, 2) := by decide +kernel
theorem d_Medium_init_29 : decode b_Medium_init 29 = .ok (.putfield 24, 3) := by decide +kernel
theorem d_Medium_init_32 : decode b_Medium_init 32 = .ok (.aload_n 0, 1) := by decide +kernel
theorem d_Medium_init_33 : decode b_Medium_init 33 = .ok (.iconst (-1), 1) := by decide +kernel
theorem d_Medium_init_34 : decode b_Medium_init 34 = .ok (.putfield 28, 3) := by decide +kernel
theorem d_Medium_init_37 : decode b_Medium_init 37 = .ok (.return_, 1) := by decide +kernel
theorem d_Medium_alter_0 : decode b_Medium_alter 0 = .ok (.aload_n 0, 1) := by decide +kernel
theorem d_Medium_alter_1 : decode b_Medium_alter 1 = .ok (.iload_n 1, 1) := by decide +kernel
theorem d_Medium_alter_2 : decode b_Medium_alter 2 = .ok (.iload_n 2, 1) := by decide +kernel
theorem d_Medium_alter_3 : decode b_Medium_alter 3 = .ok (.invokevirtual 34, 3) := by decide +kernel
theorem d_Medium_alter_6 : decode b_Medium_alter 6 = .ok (.ifCond .eq 20, 3) := by decide +kernel
theorem d_Medium_alter_9 : decode b_Medium_alter 9 = .ok (.aload_n 0, 1) := by decide +kernel
theorem d_Medium_alter_10 : decode b_Medium_alter 10 = .ok (.getfield 24, 3) := by decide +kernel
theorem d_Medium_alter_13 : decode b_Medium_alter 13 = .ok (.iload_n 1, 1) := by decide +kernel
theorem d_Medium_alter_14 : decode b_Medium_alter 14 = .ok (.bipush 32, 2) := by decide +kernel
theorem d_Medium_alter_16 : decode b_Medium_alter 16 = .ok (.imul, 1) := by decide +kernel
theorem d_Medium_alter_17 : decode b_Medium_alter 17 = .ok (.iload_n 2, 1) := by decide +kernel
theorem d_Medium_alter_18 : decode b_Medium_alter 18 = .ok (.iadd, 1) := by decide +kernel
theorem d_Medium_alter_19 : decode b_Medium_alter 19 = .ok (.dup2, 1) := by decide +kernel
theorem d_Medium_alter_20 : decode b_Medium_alter 20 = .ok (.baload, 1) := by decide +kernel
theorem d_Medium_alter_21 : decode b_Medium_alter 21 = .ok (.iload_n 3, 1) := by decide +kernel
theorem d_Medium_alter_22 : decode b_Medium_alter 22 = .ok (.i2b, 1) := by decide +kernel
theorem d_Medium_alter_23 : decode b_Medium_alter 23 = .ok (.ixor, 1) := by decide +kernel
theorem d_Medium_alter_24 : decode b_Medium_alter 24 = .ok (.i2b, 1) := by decide +kernel
theorem d_Medium_alter_25 : decode b_Medium_alter 25 = .ok (.bastore, 1) := by decide +kernel
theorem d_Medium_alter_26 : decode b_Medium_alter 26 = .ok (.return_, 1) := by decide +kernel
theorem d_Medium_at_0 : decode b_Medium_at 0 = .ok (.aload_n 0, 1) := by decide +kernel
theorem d_Medium_at_1 : decode b_Medium_at 1 = .ok (.iload_n 1, 1) := by decide +kernel
theorem d_Medium_at_2 : decode b_Medium_at 2 = .ok (.iload_n 2, 1) := by decide +kernel
theorem d_Medium_at_3 : decode b_Medium_at 3 = .ok (.invokevirtual 34, 3) := by decide +kernel
theorem d_Medium_at_6 : decode b_Medium_at 6 = .ok (.ifCond .eq 21, 3) := by decide +kernel
theorem d_Medium_at_9 : decode b_Medium_at 9 = .ok (.aload_n 0, 1) := by decide +kernel
theorem d_Medium_at_10 : decode b_Medium_at 10 = .ok (.getfield 24, 3) := by decide +kernel
theorem d_Medium_at_13 : decode b_Medium_at 13 = .ok (.iload_n 1, 1) := by decide +kernel
theorem d_Medium_at_14 : decode b_Medium_at 14 = .ok (.bipush 32, 2) := by decide +kernel
theorem d_Medium_at_16 : decode b_Medium_at 16 = .ok (.imul, 1) := by decide +kernel
theorem d_Medium_at_17 : decode b_Medium_at 17 = .ok (.iload_n 2, 1) := by decide +kernel
theorem d_Medium_at_18 : decode b_Medium_at 18 = .ok (.iadd, 1) := by decide +kernel
theorem d_Medium_at_19 : decode b_Medium_at 19 = .ok (.baload, 1) := by decide +kernel
theorem d_Medium_at_20 : decode b_Medium_at 20 = .ok (.sipush 255, 3) := by decide +kernel
theorem d_Medium_at_23 : decode b_Medium_at 23 = .ok (.iand, 1) := by decide +kernel
theorem d_Medium_at_24 : decode b_Medium_at 24 = .ok (.goto 4, 3) := by decide +kernel
theorem d_Medium_at_27 : decode b_Medium_at 27 = .ok (.iconst 0, 1) := by decide +kernel
theorem d_Medium_at_28 : decode b_Medium_at 28 = .ok (.ireturn, 1) := by decide +kernel
theorem d_Medium_digest_0 : decode b_Medium_digest 0 = .ok (.lconst 0, 1) := by decide +kernel
theorem d_Medium_digest_1 : decode b_Medium_digest 1 = .ok (.lstore_n 3, 1) := by decide +kernel
theorem d_Medium_digest_2 : decode b_Medium_digest 2 = .ok (.iload_n 1, 1) := by decide +kernel
theorem d_Medium_digest_3 : decode b_Medium_digest 3 = .ok (.istore 5, 2) := by decide +kernel
theorem d_Medium_digest_5 : decode b_Medium_digest 5 = .ok (.iload 5, 2) := by decide +kernel
theorem d_Medium_digest_7 : decode b_Medium_digest 7 = .ok (.iload_n 1, 1) := by decide +kernel
theorem d_Medium_digest_8 : decode b_Medium_digest 8 = .ok (.iload_n 2, 1) := by decide +kernel
theorem d_Medium_digest_9 : decode b_Medium_digest 9 = .ok (.iadd, 1) := by decide +kernel
theorem d_Medium_digest_10 : decode b_Medium_digest 10 = .ok (.if_icmp .ge 38, 3) := by decide +kernel
theorem d_Medium_digest_13 : decode b_Medium_digest 13 = .ok (.iconst 0, 1) := by decide +kernel
theorem d_Medium_digest_14 : decode b_Medium_digest 14 = .ok (.istore 6, 2) := by decide +kernel
theorem d_Medium_digest_16 : decode b_Medium_digest 16 = .ok (.iload 6, 2) := by decide +kernel
theorem d_Medium_digest_18 : decode b_Medium_digest 18 = .ok (.bipush 32, 2) := by decide +kernel
theorem d_Medium_digest_20 : decode b_Medium_digest 20 = .ok (.if_icmp .ge 22, 3) := by decide +kernel
theorem d_Medium_digest_23 : decode b_Medium_digest 23 = .ok (.lload_n 3, 1) := by decide +kernel
theorem d_Medium_digest_24 : decode b_Medium_digest 24 = .ok (.aload_n 0, 1) := by decide +kernel
theorem d_Medium_digest_25 : decode b_Medium_digest 25 = .ok (.iload 5, 2) := by decide +kernel
theorem d_Medium_digest_27 : decode b_Medium_digest 27 = .ok (.iload 6, 2) := by decide +kernel
theorem d_Medium_digest_29 : decode b_Medium_digest 29 = .ok (.invokevirtual 38, 3) := by decide +kernel
theorem d_Medium_digest_32 : decode b_Medium_digest 32 = .ok (.invokestatic 41, 3) := by decide +kernel
theorem d_Medium_digest_35 : decode b_Medium_digest 35 = .ok (.lstore_n 3, 1) := by decide +kernel
theorem d_Medium_digest_36 : decode b_Medium_digest 36 = .ok (.iinc 6 1, 3) := by decide +kernel
theorem d_Medium_digest_39 : decode b_Medium_digest 39 = .ok (.goto (-23), 3) := by decide +kernel
theorem d_Medium_digest_42 : decode b_Medium_digest 42 = .ok (.iinc 5 1, 3) := by decide +kernel
theorem d_Medium_digest_45 : decode b_Medium_digest 45 = .ok (.goto (-40), 3) := by decide +kernel
theorem d_Medium_digest_48 : decode b_Medium_digest 48 = .ok (.lload_n 3, 1) := by decide +kernel
theorem d_Medium_digest_49 : decode b_Medium_digest 49 = .ok (.lreturn, 1) := by decide +kernel
theorem d_Medium_erase_0 : decode b_Medium_erase 0 = .ok (.iconst 0, 1) := by decide +kernel
theorem d_Medium_erase_1 : decode b_Medium_erase 1 = .ok (.istore_n 2, 1) := by decide +kernel
theorem d_Medium_erase_2 : decode b_Medium_erase 2 = .ok (.iload_n 2, 1) := by decide +kernel
theorem d_Medium_erase_3 : decode b_Medium_erase 3 = .ok (.bipush 32, 2) := by decide +kernel
theorem d_Medium_erase_5 : decode b_Medium_erase 5 = .ok (.if_icmp .ge 21, 3) := by decide +kernel
theorem d_Medium_erase_8 : decode b_Medium_erase 8 = .ok (.aload_n 0, 1) := by decide +kernel
theorem d_Medium_erase_9 : decode b_Medium_erase 9 = .ok (.iload_n 1, 1) := by decide +kernel
theorem d_Medium_erase_10 : decode b_Medium_erase 10 = .ok (.iload_n 2, 1) := by decide +kernel
theorem d_Medium_erase_11 : decode b_Medium_erase 11 = .ok (.iconst 0, 1) := by decide +kernel
theorem d_Medium_erase_12 : decode b_Medium_erase 12 = .ok (.invokevirtual 54, 3) := by decide +kernel
theorem d_Medium_erase_15 : decode b_Medium_erase 15 = .ok (.ifCond .ne 5, 3) := by decide +kernel
theorem d_Medium_erase_18 : decode b_Medium_erase 18 = .ok (.iconst 0, 1) := by decide +kernel
theorem d_Medium_erase_19 : decode b_Medium_erase 19 = .ok (.ireturn, 1) := by decide +kernel
theorem d_Medium_erase_20 : decode b_Medium_erase 20 = .ok (.iinc 2 1, 3) := by decide +kernel
theorem d_Medium_erase_23 : decode b_Medium_erase 23 = .ok (.goto (-21), 3) := by decide +kernel
theorem d_Medium_erase_26 : decode b_Medium_erase 26 = .ok (.iconst 1, 1) := by decide +kernel
theorem d_Medium_erase_27 : decode b_Medium_erase 27 = .ok (.ireturn, 1) := by decide +kernel
theorem d_Medium_has_0 : decode b_Medium_has 0 = .ok (.iload_n 1, 1) := by decide +kernel
theorem d_Medium_has_1 : decode b_Medium_has 1 = .ok (.ifCond .lt 25, 3) := by decide +kernel
theorem d_Medium_has_4 : decode b_Medium_has 4 = .ok (.iload_n 1, 1) := by decide +kernel
theorem d_Medium_has_5 : decode b_Medium_has 5 = .ok (.aload_n 0, 1) := by decide +kernel
theorem d_Medium_has_6 : decode b_Medium_has 6 = .ok (.getfield 18, 3) := by decide +kernel
theorem d_Medium_has_9 : decode b_Medium_has 9 = .ok (.if_icmp .ge 17, 3) := by decide +kernel
theorem d_Medium_has_12 : decode b_Medium_has 12 = .ok (.iload_n 2, 1) := by decide +kernel
theorem d_Medium_has_13 : decode b_Medium_has 13 = .ok (.ifCond .lt 13, 3) := by decide +kernel
theorem d_Medium_has_16 : decode b_Medium_has 16 = .ok (.iload_n 2, 1) := by decide +kernel
theorem d_Medium_has_17 : decode b_Medium_has 17 = .ok (.bipush 32, 2) := by decide +kernel
theorem d_Medium_has_19 : decode b_Medium_has 19 = .ok (.if_icmp .ge 7, 3) := by decide +kernel
theorem d_Medium_has_22 : decode b_Medium_has 22 = .ok (.iconst 1, 1) := by decide +kernel
theorem d_Medium_has_23 : decode b_Medium_has 23 = .ok (.goto 4, 3) := by decide +kernel
theorem d_Medium_has_26 : decode b_Medium_has 26 = .ok (.iconst 0, 1) := by decide +kernel
theorem d_Medium_has_27 : decode b_Medium_has 27 = .ok (.ireturn, 1) := by decide +kernel
theorem d_Medium_isClear_0 : decode b_Medium_isClear 0 = .ok (.iconst 0, 1) := by decide +kernel
theorem d_Medium_isClear_1 : decode b_Medium_isClear 1 = .ok (.istore_n 2, 1) := by decide +kernel
theorem d_Medium_isClear_2 : decode b_Medium_isClear 2 = .ok (.iload_n 2, 1) := by decide +kernel
theorem d_Medium_isClear_3 : decode b_Medium_isClear 3 = .ok (.bipush 32, 2) := by decide +kernel
theorem d_Medium_isClear_5 : decode b_Medium_isClear 5 = .ok (.if_icmp .ge 20, 3) := by decide +kernel
theorem d_Medium_isClear_8 : decode b_Medium_isClear 8 = .ok (.aload_n 0, 1) := by decide +kernel
theorem d_Medium_isClear_9 : decode b_Medium_isClear 9 = .ok (.iload_n 1, 1) := by decide +kernel
theorem d_Medium_isClear_10 : decode b_Medium_isClear 10 = .ok (.iload_n 2, 1) := by decide +kernel
theorem d_Medium_isClear_11 : decode b_Medium_isClear 11 = .ok (.invokevirtual 38, 3) := by decide +kernel
theorem d_Medium_isClear_14 : decode b_Medium_isClear 14 = .ok (.ifCond .eq 5, 3) := by decide +kernel
theorem d_Medium_isClear_17 : decode b_Medium_isClear 17 = .ok (.iconst 0, 1) := by decide +kernel
theorem d_Medium_isClear_18 : decode b_Medium_isClear 18 = .ok (.ireturn, 1) := by decide +kernel
theorem d_Medium_isClear_19 : decode b_Medium_isClear 19 = .ok (.iinc 2 1, 3) := by decide +kernel
theorem d_Medium_isClear_22 : decode b_Medium_isClear 22 = .ok (.goto (-20), 3) := by decide +kernel
theorem d_Medium_isClear_25 : decode b_Medium_isClear 25 = .ok (.iconst 1, 1) := by decide +kernel
theorem d_Medium_isClear_26 : decode b_Medium_isClear 26 = .ok (.ireturn, 1) := by decide +kernel
theorem d_Medium_isSumRight_0 : decode b_Medium_isSumRight 0 = .ok (.lconst 0, 1) := by decide +kernel
theorem d_Medium_isSumRight_1 : decode b_Medium_isSumRight 1 = .ok (.lstore_n 2, 1) := by decide +kernel
theorem d_Medium_isSumRight_2 : decode b_Medium_isSumRight 2 = .ok (.iconst 0, 1) := by decide +kernel
theorem d_Medium_isSumRight_3 : decode b_Medium_isSumRight 3 = .ok (.istore 4, 2) := by decide +kernel
theorem d_Medium_isSumRight_5 : decode b_Medium_isSumRight 5 = .ok (.iload 4, 2) := by decide +kernel
theorem d_Medium_isSumRight_7 : decode b_Medium_isSumRight 7 = .ok (.bipush 24, 2) := by decide +kernel
theorem d_Medium_isSumRight_9 : decode b_Medium_isSumRight 9 = .ok (.if_icmp .ge 21, 3) := by decide +kernel
theorem d_Medium_isSumRight_12 : decode b_Medium_isSumRight 12 = .ok (.lload_n 2, 1) := by decide +kernel
theorem d_Medium_isSumRight_13 : decode b_Medium_isSumRight 13 = .ok (.aload_n 0, 1) := by decide +kernel
theorem d_Medium_isSumRight_14 : decode b_Medium_isSumRight 14 = .ok (.iload_n 1, 1) := by decide +kernel
theorem d_Medium_isSumRight_15 : decode b_Medium_isSumRight 15 = .ok (.iload 4, 2) := by decide +kernel
theorem d_Medium_isSumRight_17 : decode b_Medium_isSumRight 17 = .ok (.invokevirtual 38, 3) := by decide +kernel
theorem d_Medium_isSumRight_20 : decode b_Medium_isSumRight 20 = .ok (.invokestatic 41, 3) := by decide +kernel
theorem d_Medium_isSumRight_23 : decode b_Medium_isSumRight 23 = .ok (.lstore_n 2, 1) := by decide +kernel
theorem d_Medium_isSumRight_24 : decode b_Medium_isSumRight 24 = .ok (.iinc 4 1, 3) := by decide +kernel
theorem d_Medium_isSumRight_27 : decode b_Medium_isSumRight 27 = .ok (.goto (-22), 3) := by decide +kernel
theorem d_Medium_isSumRight_30 : decode b_Medium_isSumRight 30 = .ok (.aload_n 0, 1) := by decide +kernel
theorem d_Medium_isSumRight_31 : decode b_Medium_isSumRight 31 = .ok (.iload_n 1, 1) := by decide +kernel
theorem d_Medium_isSumRight_32 : decode b_Medium_isSumRight 32 = .ok (.bipush 24, 2) := by decide +kernel
theorem d_Medium_isSumRight_34 : decode b_Medium_isSumRight 34 = .ok (.bipush 8, 2) := by decide +kernel
theorem d_Medium_isSumRight_36 : decode b_Medium_isSumRight 36 = .ok (.invokevirtual 45, 3) := by decide +kernel
theorem d_Medium_isSumRight_39 : decode b_Medium_isSumRight 39 = .ok (.lload_n 2, 1) := by decide +kernel
theorem d_Medium_isSumRight_40 : decode b_Medium_isSumRight 40 = .ok (.lcmp, 1) := by decide +kernel
theorem d_Medium_isSumRight_41 : decode b_Medium_isSumRight 41 = .ok (.ifCond .ne 7, 3) := by decide +kernel
theorem d_Medium_isSumRight_44 : decode b_Medium_isSumRight 44 = .ok (.iconst 1, 1) := by decide +kernel
theorem d_Medium_isSumRight_45 : decode b_Medium_isSumRight 45 = .ok (.goto 4, 3) := by decide +kernel
theorem d_Medium_isSumRight_48 : decode b_Medium_isSumRight 48 = .ok (.iconst 0, 1) := by decide +kernel
theorem d_Medium_isSumRight_49 : decode b_Medium_isSumRight 49 = .ok (.ireturn, 1) := by decide +kernel
theorem d_Medium_number_0 : decode b_Medium_number 0 = .ok (.lconst 0, 1) := by decide +kernel
theorem d_Medium_number_1 : decode b_Medium_number 1 = .ok (.lstore 4, 2) := by decide +kernel
theorem d_Medium_number_3 : decode b_Medium_number 3 = .ok (.iconst 0, 1) := by decide +kernel
theorem d_Medium_number_4 : decode b_Medium_number 4 = .ok (.istore 6, 2) := by decide +kernel
theorem d_Medium_number_6 : decode b_Medium_number 6 = .ok (.iload 6, 2) := by decide +kernel
theorem d_Medium_number_8 : decode b_Medium_number 8 = .ok (.iload_n 3, 1) := by decide +kernel
theorem d_Medium_number_9 : decode b_Medium_number 9 = .ok (.if_icmp .ge 27, 3) := by decide +kernel
theorem d_Medium_number_12 : decode b_Medium_number 12 = .ok (.lload 4, 2) := by decide +kernel
theorem d_Medium_number_14 : decode b_Medium_number 14 = .ok (.bipush 8, 2) := by decide +kernel
theorem d_Medium_number_16 : decode b_Medium_number 16 = .ok (.lshl, 1) := by decide +kernel
theorem d_Medium_number_17 : decode b_Medium_number 17 = .ok (.aload_n 0, 1) := by decide +kernel
theorem d_Medium_number_18 : decode b_Medium_number 18 = .ok (.iload_n 1, 1) := by decide +kernel
theorem d_Medium_number_19 : decode b_Medium_number 19 = .ok (.iload_n 2, 1) := by decide +kernel
theorem d_Medium_number_20 : decode b_Medium_number 20 = .ok (.iload 6, 2) := by decide +kernel
theorem d_Medium_number_22 : decode b_Medium_number 22 = .ok (.iadd, 1) := by decide +kernel
theorem d_Medium_number_23 : decode b_Medium_number 23 = .ok (.invokevirtual 38, 3) := by decide +kernel
theorem d_Medium_number_26 : decode b_Medium_number 26 = .ok (.i2l, 1) := by decide +kernel
theorem d_Medium_number_27 : decode b_Medium_number 27 = .ok (.lor, 1) := by decide +kernel
theorem d_Medium_number_28 : decode b_Medium_number 28 = .ok (.lstore 4, 2) := by decide +kernel
theorem d_Medium_number_30 : decode b_Medium_number 30 = .ok (.iinc 6 1, 3) := by decide +kernel
theorem d_Medium_number_33 : decode b_Medium_number 33 = .ok (.goto (-27), 3) := by decide +kernel
theorem d_Medium_number_36 : decode b_Medium_number 36 = .ok (.lload 4, 2) := by decide +kernel
theorem d_Medium_number_38 : decode b_Medium_number 38 = .ok (.lreturn, 1) := by decide +kernel
theorem d_Medium_rows_0 : decode b_Medium_rows 0 = .ok (.aload_n 0, 1) := by decide +kernel
theorem d_Medium_rows_1 : decode b_Medium_rows 1 = .ok (.getfield 18, 3) := by decide +kernel
theorem d_Medium_rows_4 : decode b_Medium_rows 4 = .ok (.ireturn, 1) := by decide +kernel
theorem d_Medium_setPower_0 : decode b_Medium_setPower 0 = .ok (.aload_n 0, 1) := by decide +kernel
theorem d_Medium_setPower_1 : decode b_Medium_setPower 1 = .ok (.iload_n 1, 1) := by decide +kernel
theorem d_Medium_setPower_2 : decode b_Medium_setPower 2 = .ok (.putfield 28, 3) := by decide +kernel
theorem d_Medium_setPower_5 : decode b_Medium_setPower 5 = .ok (.return_, 1) := by decide +kernel
theorem d_Medium_write_0 : decode b_Medium_write 0 = .ok (.iconst 0, 1) := by decide +kernel
theorem d_Medium_write_1 : decode b_Medium_write 1 = .ok (.istore 4, 2) := by decide +kernel
theorem d_Medium_write_3 : decode b_Medium_write 3 = .ok (.iload 4, 2) := by decide +kernel
theorem d_Medium_write_5 : decode b_Medium_write 5 = .ok (.bipush 32, 2) := by decide +kernel
theorem d_Medium_write_7 : decode b_Medium_write 7 = .ok (.if_icmp .ge 29, 3) := by decide +kernel
theorem d_Medium_write_10 : decode b_Medium_write 10 = .ok (.aload_n 0, 1) := by decide +kernel
theorem d_Medium_write_11 : decode b_Medium_write 11 = .ok (.iload_n 1, 1) := by decide +kernel
theorem d_Medium_write_12 : decode b_Medium_write 12 = .ok (.iload 4, 2) := by decide +kernel
theorem d_Medium_write_14 : decode b_Medium_write 14 = .ok (.aload_n 2, 1) := by decide +kernel
theorem d_Medium_write_15 : decode b_Medium_write 15 = .ok (.iload_n 3, 1) := by decide +kernel
theorem d_Medium_write_16 : decode b_Medium_write 16 = .ok (.iload 4, 2) := by decide +kernel
theorem d_Medium_write_18 : decode b_Medium_write 18 = .ok (.iadd, 1) := by decide +kernel
theorem d_Medium_write_19 : decode b_Medium_write 19 = .ok (.invokevirtual 49, 3) := by decide +kernel
theorem d_Medium_write_22 : decode b_Medium_write 22 = .ok (.invokevirtual 54, 3) := by decide +kernel
theorem d_Medium_write_25 : decode b_Medium_write 25 = .ok (.ifCond .ne 5, 3) := by decide +kernel
theorem d_Medium_write_28 : decode b_Medium_write 28 = .ok (.iconst 0, 1) := by decide +kernel
theorem d_Medium_write_29 : decode b_Medium_write 29 = .ok (.ireturn, 1) := by decide +kernel
theorem d_Medium_write_30 : decode b_Medium_write 30 = .ok (.iinc 4 1, 3) := by decide +kernel
theorem d_Medium_write_33 : decode b_Medium_write 33 = .ok (.goto (-30), 3) := by decide +kernel
theorem d_Medium_write_36 : decode b_Medium_write 36 = .ok (.iconst 1, 1) := by decide +kernel
theorem d_Medium_write_37 : decode b_Medium_write 37 = .ok (.ireturn, 1) := by decide +kernel
theorem d_Medium_writeByte_0 : decode b_Medium_writeByte 0 = .ok (.aload_n 0, 1) := by decide +kernel
theorem d_Medium_writeByte_1 : decode b_Medium_writeByte 1 = .ok (.getfield 28, 3) := by decide +kernel
theorem d_Medium_writeByte_4 : decode b_Medium_writeByte 4 = .ok (.ifCond .ne 10, 3) := by decide +kernel
theorem d_Medium_writeByte_7 : decode b_Medium_writeByte 7 = .ok (.aload_n 0, 1) := by decide +kernel
theorem d_Medium_writeByte_8 : decode b_Medium_writeByte 8 = .ok (.iconst (-1), 1) := by decide +kernel
theorem d_Medium_writeByte_9 : decode b_Medium_writeByte 9 = .ok (.putfield 28, 3) := by decide +kernel
theorem d_Medium_writeByte_12 : decode b_Medium_writeByte 12 = .ok (.iconst 0, 1) := by decide +kernel
theorem d_Medium_writeByte_13 : decode b_Medium_writeByte 13 = .ok (.ireturn, 1) := by decide +kernel
theorem d_Medium_writeByte_14 : decode b_Medium_writeByte 14 = .ok (.aload_n 0, 1) := by decide +kernel
theorem d_Medium_writeByte_15 : decode b_Medium_writeByte 15 = .ok (.getfield 28, 3) := by decide +kernel
theorem d_Medium_writeByte_18 : decode b_Medium_writeByte 18 = .ok (.ifCond .le 13, 3) := by decide +kernel
theorem d_Medium_writeByte_21 : decode b_Medium_writeByte 21 = .ok (.aload_n 0, 1) := by decide +kernel
theorem d_Medium_writeByte_22 : decode b_Medium_writeByte 22 = .ok (.dup, 1) := by decide +kernel
theorem d_Medium_writeByte_23 : decode b_Medium_writeByte 23 = .ok (.getfield 28, 3) := by decide +kernel
theorem d_Medium_writeByte_26 : decode b_Medium_writeByte 26 = .ok (.iconst 1, 1) := by decide +kernel
theorem d_Medium_writeByte_27 : decode b_Medium_writeByte 27 = .ok (.isub, 1) := by decide +kernel
theorem d_Medium_writeByte_28 : decode b_Medium_writeByte 28 = .ok (.putfield 28, 3) := by decide +kernel
theorem d_Medium_writeByte_31 : decode b_Medium_writeByte 31 = .ok (.aload_n 0, 1) := by decide +kernel
theorem d_Medium_writeByte_32 : decode b_Medium_writeByte 32 = .ok (.iload_n 1, 1) := by decide +kernel
theorem d_Medium_writeByte_33 : decode b_Medium_writeByte 33 = .ok (.iload_n 2, 1) := by decide +kernel
theorem d_Medium_writeByte_34 : decode b_Medium_writeByte 34 = .ok (.invokevirtual 34, 3) := by decide +kernel
theorem d_Medium_writeByte_37 : decode b_Medium_writeByte 37 = .ok (.ifCond .eq 16, 3) := by decide +kernel
theorem d_Medium_writeByte_40 : decode b_Medium_writeByte 40 = .ok (.aload_n 0, 1) := by decide +kernel
theorem d_Medium_writeByte_41 : decode b_Medium_writeByte 41 = .ok (.getfield 24, 3) := by decide +kernel
theorem d_Medium_writeByte_44 : decode b_Medium_writeByte 44 = .ok (.iload_n 1, 1) := by decide +kernel
theorem d_Medium_writeByte_45 : decode b_Medium_writeByte 45 = .ok (.bipush 32, 2) := by decide +kernel
theorem d_Medium_writeByte_47 : decode b_Medium_writeByte 47 = .ok (.imul, 1) := by decide +kernel
theorem d_Medium_writeByte_48 : decode b_Medium_writeByte 48 = .ok (.iload_n 2, 1) := by decide +kernel
theorem d_Medium_writeByte_49 : decode b_Medium_writeByte 49 = .ok (.iadd, 1) := by decide +kernel
theorem d_Medium_writeByte_50 : decode b_Medium_writeByte 50 = .ok (.iload_n 3, 1) := by decide +kernel
theorem d_Medium_writeByte_51 : decode b_Medium_writeByte 51 = .ok (.i2b, 1) := by decide +kernel
theorem d_Medium_writeByte_52 : decode b_Medium_writeByte 52 = .ok (.bastore, 1) := by decide +kernel
theorem d_Medium_writeByte_53 : decode b_Medium_writeByte 53 = .ok (.aload_n 0, 1) := by decide +kernel
theorem d_Medium_writeByte_54 : decode b_Medium_writeByte 54 = .ok (.dup, 1) := by decide +kernel
theorem d_Medium_writeByte_55 : decode b_Medium_writeByte 55 = .ok (.getfield 31, 3) := by decide +kernel
theorem d_Medium_writeByte_58 : decode b_Medium_writeByte 58 = .ok (.iconst 1, 1) := by decide +kernel
theorem d_Medium_writeByte_59 : decode b_Medium_writeByte 59 = .ok (.iadd, 1) := by decide +kernel
theorem d_Medium_writeByte_60 : decode b_Medium_writeByte 60 = .ok (.putfield 31, 3) := by decide +kernel
theorem d_Medium_writeByte_63 : decode b_Medium_writeByte 63 = .ok (.iconst 1, 1) := by decide +kernel
theorem d_Medium_writeByte_64 : decode b_Medium_writeByte 64 = .ok (.ireturn, 1) := by decide +kernel
theorem d_Medium_written_0 : decode b_Medium_written 0 = .ok (.aload_n 0, 1) := by decide +kernel
theorem d_Medium_written_1 : decode b_Medium_written 1 = .ok (.getfield 31, 3) := by decide +kernel
theorem d_Medium_written_4 : decode b_Medium_written 4 = .ok (.ireturn, 1) := by decide +kernel
theorem d_Bytes_init_0 : decode b_Bytes_init 0 = .ok (.aload_n 0, 1) := by decide +kernel
theorem d_Bytes_init_1 : decode b_Bytes_init 1 = .ok (.invokespecial 1, 3) := by decide +kernel
theorem d_Bytes_init_4 : decode b_Bytes_init 4 = .ok (.aload_n 0, 1) := by decide +kernel
theorem d_Bytes_init_5 : decode b_Bytes_init 5 = .ok (.iconst 0, 1) := by decide +kernel
theorem d_Bytes_init_6 : decode b_Bytes_init 6 = .ok (.iload_n 1, 1) := by decide +kernel
theorem d_Bytes_init_7 : decode b_Bytes_init 7 = .ok (.invokestatic 7, 3) := by decide +kernel
theorem d_Bytes_init_10 : decode b_Bytes_init 10 = .ok (.newarray .byte, 2) := by decide +kernel
theorem d_Bytes_init_12 : decode b_Bytes_init 12 = .ok (.putfield 13, 3) := by decide +kernel
theorem d_Bytes_init_15 : decode b_Bytes_init 15 = .ok (.return_, 1) := by decide +kernel
theorem d_Bytes_add_0 : decode b_Bytes_add 0 = .ok (.aload_n 0, 1) := by decide +kernel
theorem d_Bytes_add_1 : decode b_Bytes_add 1 = .ok (.aload_n 0, 1) := by decide +kernel
theorem d_Bytes_add_2 : decode b_Bytes_add 2 = .ok (.getfield 19, 3) := by decide +kernel
theorem d_Bytes_add_5 : decode b_Bytes_add 5 = .ok (.lload_n 1, 1) := by decide +kernel
theorem d_Bytes_add_6 : decode b_Bytes_add 6 = .ok (.iload_n 3, 1) := by decide +kernel
theorem d_Bytes_add_7 : decode b_Bytes_add 7 = .ok (.invokevirtual 27, 3) := by decide +kernel
theorem d_Bytes_add_10 : decode b_Bytes_add 10 = .ok (.return_, 1) := by decide +kernel
theorem d_Bytes_at_0 : decode b_Bytes_at 0 = .ok (.iload_n 1, 1) := by decide +kernel
theorem d_Bytes_at_1 : decode b_Bytes_at 1 = .ok (.ifCond .lt 33, 3) := by decide +kernel
theorem d_Bytes_at_4 : decode b_Bytes_at 4 = .ok (.iload_n 1, 1) := by decide +kernel
theorem d_Bytes_at_5 : decode b_Bytes_at 5 = .ok (.aload_n 0, 1) := by decide +kernel
theorem d_Bytes_at_6 : decode b_Bytes_at 6 = .ok (.getfield 19, 3) := by decide +kernel
theorem d_Bytes_at_9 : decode b_Bytes_at 9 = .ok (.if_icmp .ge 25, 3) := by decide +kernel
theorem d_Bytes_at_12 : decode b_Bytes_at 12 = .ok (.iload_n 1, 1) := by decide +kernel
theorem d_Bytes_at_13 : decode b_Bytes_at 13 = .ok (.aload_n 0, 1) := by decide +kernel
theorem d_Bytes_at_14 : decode b_Bytes_at 14 = .ok (.getfield 13, 3) := by decide +kernel
theorem d_Bytes_at_17 : decode b_Bytes_at 17 = .ok (.arraylength, 1) := by decide +kernel
theorem d_Bytes_at_18 : decode b_Bytes_at 18 = .ok (.if_icmp .ge 16, 3) := by decide +kernel
theorem d_Bytes_at_21 : decode b_Bytes_at 21 = .ok (.aload_n 0, 1) := by decide +kernel
theorem d_Bytes_at_22 : decode b_Bytes_at 22 = .ok (.getfield 13, 3) := by decide +kernel
theorem d_Bytes_at_25 : decode b_Bytes_at 25 = .ok (.iload_n 1, 1) := by decide +kernel
theorem d_Bytes_at_26 : decode b_Bytes_at 26 = .ok (.baload, 1) := by decide +kernel
theorem d_Bytes_at_27 : decode b_Bytes_at 27 = .ok (.sipush 255, 3) := by decide +kernel
theorem d_Bytes_at_30 : decode b_Bytes_at 30 = .ok (.iand, 1) := by decide +kernel
theorem d_Bytes_at_31 : decode b_Bytes_at 31 = .ok (.goto 4, 3) := by decide +kernel
theorem d_Bytes_at_34 : decode b_Bytes_at 34 = .ok (.iconst 0, 1) := by decide +kernel
theorem d_Bytes_at_35 : decode b_Bytes_at 35 = .ok (.ireturn, 1) := by decide +kernel
theorem d_Bytes_clear_0 : decode b_Bytes_clear 0 = .ok (.iconst 0, 1) := by decide +kernel
theorem d_Bytes_clear_1 : decode b_Bytes_clear 1 = .ok (.istore_n 1, 1) := by decide +kernel
theorem d_Bytes_clear_2 : decode b_Bytes_clear 2 = .ok (.iload_n 1, 1) := by decide +kernel
theorem d_Bytes_clear_3 : decode b_Bytes_clear 3 = .ok (.aload_n 0, 1) := by decide +kernel
theorem d_Bytes_clear_4 : decode b_Bytes_clear 4 = .ok (.getfield 19, 3) := by decide +kernel
theorem d_Bytes_clear_7 : decode b_Bytes_clear 7 = .ok (.if_icmp .ge 25, 3) := by decide +kernel
theorem d_Bytes_clear_10 : decode b_Bytes_clear 10 = .ok (.iload_n 1, 1) := by decide +kernel
theorem d_Bytes_clear_11 : decode b_Bytes_clear 11 = .ok (.aload_n 0, 1) := by decide +kernel
theorem d_Bytes_clear_12 : decode b_Bytes_clear 12 = .ok (.getfield 13, 3) := by decide +kernel
theorem d_Bytes_clear_15 : decode b_Bytes_clear 15 = .ok (.arraylength, 1) := by decide +kernel
theorem d_Bytes_clear_16 : decode b_Bytes_clear 16 = .ok (.if_icmp .ge 16, 3) := by decide +kernel
theorem d_Bytes_clear_19 : decode b_Bytes_clear 19 = .ok (.aload_n 0, 1) := by decide +kernel
theorem d_Bytes_clear_20 : decode b_Bytes_clear 20 = .ok (.getfield 13, 3) := by decide +kernel
theorem d_Bytes_clear_23 : decode b_Bytes_clear 23 = .ok (.iload_n 1, 1) := by decide +kernel
theorem d_Bytes_clear_24 : decode b_Bytes_clear 24 = .ok (.iconst 0, 1) := by decide +kernel
theorem d_Bytes_clear_25 : decode b_Bytes_clear 25 = .ok (.bastore, 1) := by decide +kernel
theorem d_Bytes_clear_26 : decode b_Bytes_clear 26 = .ok (.iinc 1 1, 3) := by decide +kernel
theorem d_Bytes_clear_29 : decode b_Bytes_clear 29 = .ok (.goto (-27), 3) := by decide +kernel
theorem d_Bytes_clear_32 : decode b_Bytes_clear 32 = .ok (.aload_n 0, 1) := by decide +kernel
theorem d_Bytes_clear_33 : decode b_Bytes_clear 33 = .ok (.iconst 0, 1) := by decide +kernel
theorem d_Bytes_clear_34 : decode b_Bytes_clear 34 = .ok (.putfield 19, 3) := by decide +kernel
theorem d_Bytes_clear_37 : decode b_Bytes_clear 37 = .ok (.return_, 1) := by decide +kernel
theorem d_Bytes_digest_0 : decode b_Bytes_digest 0 = .ok (.lconst 0, 1) := by decide +kernel
theorem d_Bytes_digest_1 : decode b_Bytes_digest 1 = .ok (.lstore_n 3, 1) := by decide +kernel
theorem d_Bytes_digest_2 : decode b_Bytes_digest 2 = .ok (.iload_n 1, 1) := by decide +kernel
theorem d_Bytes_digest_3 : decode b_Bytes_digest 3 = .ok (.istore 5, 2) := by decide +kernel
theorem d_Bytes_digest_5 : decode b_Bytes_digest 5 = .ok (.iload 5, 2) := by decide +kernel
theorem d_Bytes_digest_7 : decode b_Bytes_digest 7 = .ok (.iload_n 2, 1) := by decide +kernel
theorem d_Bytes_digest_8 : decode b_Bytes_digest 8 = .ok (.if_icmp .ge 20, 3) := by decide +kernel
theorem d_Bytes_digest_11 : decode b_Bytes_digest 11 = .ok (.lload_n 3, 1) := by decide +kernel
theorem d_Bytes_digest_12 : decode b_Bytes_digest 12 = .ok (.aload_n 0, 1) := by decide +kernel
theorem d_Bytes_digest_13 : decode b_Bytes_digest 13 = .ok (.iload 5, 2) := by decide +kernel
theorem d_Bytes_digest_15 : decode b_Bytes_digest 15 = .ok (.invokevirtual 23, 3) := by decide +kernel
theorem d_Bytes_digest_18 : decode b_Bytes_digest 18 = .ok (.invokestatic 35, 3) := by decide +kernel
theorem d_Bytes_digest_21 : decode b_Bytes_digest 21 = .ok (.lstore_n 3, 1) := by decide +kernel
theorem d_Bytes_digest_22 : decode b_Bytes_digest 22 = .ok (.iinc 5 1, 3) := by decide +kernel
theorem d_Bytes_digest_25 : decode b_Bytes_digest 25 = .ok (.goto (-20), 3) := by decide +kernel
theorem d_Bytes_digest_28 : decode b_Bytes_digest 28 = .ok (.lload_n 3, 1) := by decide +kernel
theorem d_Bytes_digest_29 : decode b_Bytes_digest 29 = .ok (.lreturn, 1) := by decide +kernel
theorem d_Bytes_isSame_0 : decode b_Bytes_isSame 0 = .ok (.aload_n 1, 1) := by decide +kernel
theorem d_Bytes_isSame_1 : decode b_Bytes_isSame 1 = .ok (.ifnull 14, 3) := by decide +kernel
theorem d_Bytes_isSame_4 : decode b_Bytes_isSame 4 = .ok (.aload_n 1, 1) := by decide +kernel
theorem d_Bytes_isSame_5 : decode b_Bytes_isSame 5 = .ok (.getfield 19, 3) := by decide +kernel
theorem d_Bytes_isSame_8 : decode b_Bytes_isSame 8 = .ok (.aload_n 0, 1) := by decide +kernel
theorem d_Bytes_isSame_9 : decode b_Bytes_isSame 9 = .ok (.getfield 19, 3) := by decide +kernel
theorem d_Bytes_isSame_12 : decode b_Bytes_isSame 12 = .ok (.if_icmp .eq 5, 3) := by decide +kernel
theorem d_Bytes_isSame_15 : decode b_Bytes_isSame 15 = .ok (.iconst 0, 1) := by decide +kernel
theorem d_Bytes_isSame_16 : decode b_Bytes_isSame 16 = .ok (.ireturn, 1) := by decide +kernel
theorem d_Bytes_isSame_17 : decode b_Bytes_isSame 17 = .ok (.iconst 0, 1) := by decide +kernel
theorem d_Bytes_isSame_18 : decode b_Bytes_isSame 18 = .ok (.istore_n 2, 1) := by decide +kernel
theorem d_Bytes_isSame_19 : decode b_Bytes_isSame 19 = .ok (.iload_n 2, 1) := by decide +kernel
theorem d_Bytes_isSame_20 : decode b_Bytes_isSame 20 = .ok (.aload_n 0, 1) := by decide +kernel
theorem d_Bytes_isSame_21 : decode b_Bytes_isSame 21 = .ok (.getfield 19, 3) := by decide +kernel
theorem d_Bytes_isSame_24 : decode b_Bytes_isSame 24 = .ok (.if_icmp .ge 24, 3) := by decide +kernel
theorem d_Bytes_isSame_27 : decode b_Bytes_isSame 27 = .ok (.aload_n 0, 1) := by decide +kernel
theorem d_Bytes_isSame_28 : decode b_Bytes_isSame 28 = .ok (.iload_n 2, 1) := by decide +kernel
theorem d_Bytes_isSame_29 : decode b_Bytes_isSame 29 = .ok (.invokevirtual 23, 3) := by decide +kernel
theorem d_Bytes_isSame_32 : decode b_Bytes_isSame 32 = .ok (.aload_n 1, 1) := by decide +kernel
theorem d_Bytes_isSame_33 : decode b_Bytes_isSame 33 = .ok (.iload_n 2, 1) := by decide +kernel
theorem d_Bytes_isSame_34 : decode b_Bytes_isSame 34 = .ok (.invokevirtual 23, 3) := by decide +kernel
theorem d_Bytes_isSame_37 : decode b_Bytes_isSame 37 = .ok (.if_icmp .eq 5, 3) := by decide +kernel
theorem d_Bytes_isSame_40 : decode b_Bytes_isSame 40 = .ok (.iconst 0, 1) := by decide +kernel
theorem d_Bytes_isSame_41 : decode b_Bytes_isSame 41 = .ok (.ireturn, 1) := by decide +kernel
theorem d_Bytes_isSame_42 : decode b_Bytes_isSame 42 = .ok (.iinc 2 1, 3) := by decide +kernel
theorem d_Bytes_isSame_45 : decode b_Bytes_isSame 45 = .ok (.goto (-26), 3) := by decide +kernel
theorem d_Bytes_isSame_48 : decode b_Bytes_isSame 48 = .ok (.iconst 1, 1) := by decide +kernel
theorem d_Bytes_isSame_49 : decode b_Bytes_isSame 49 = .ok (.ireturn, 1) := by decide +kernel
theorem d_Bytes_number_0 : decode b_Bytes_number 0 = .ok (.lconst 0, 1) := by decide +kernel
theorem d_Bytes_number_1 : decode b_Bytes_number 1 = .ok (.lstore_n 3, 1) := by decide +kernel
theorem d_Bytes_number_2 : decode b_Bytes_number 2 = .ok (.iconst 0, 1) := by decide +kernel
theorem d_Bytes_number_3 : decode b_Bytes_number 3 = .ok (.istore 5, 2) := by decide +kernel
theorem d_Bytes_number_5 : decode b_Bytes_number 5 = .ok (.iload 5, 2) := by decide +kernel
theorem d_Bytes_number_7 : decode b_Bytes_number 7 = .ok (.iload_n 2, 1) := by decide +kernel
theorem d_Bytes_number_8 : decode b_Bytes_number 8 = .ok (.if_icmp .ge 24, 3) := by decide +kernel
theorem d_Bytes_number_11 : decode b_Bytes_number 11 = .ok (.lload_n 3, 1) := by decide +kernel
theorem d_Bytes_number_12 : decode b_Bytes_number 12 = .ok (.bipush 8, 2) := by decide +kernel
theorem d_Bytes_number_14 : decode b_Bytes_number 14 = .ok (.lshl, 1) := by decide +kernel
theorem d_Bytes_number_15 : decode b_Bytes_number 15 = .ok (.aload_n 0, 1) := by decide +kernel
theorem d_Bytes_number_16 : decode b_Bytes_number 16 = .ok (.iload_n 1, 1) := by decide +kernel
theorem d_Bytes_number_17 : decode b_Bytes_number 17 = .ok (.iload 5, 2) := by decide +kernel
theorem d_Bytes_number_19 : decode b_Bytes_number 19 = .ok (.iadd, 1) := by decide +kernel
theorem d_Bytes_number_20 : decode b_Bytes_number 20 = .ok (.invokevirtual 23, 3) := by decide +kernel
theorem d_Bytes_number_23 : decode b_Bytes_number 23 = .ok (.i2l, 1) := by decide +kernel
theorem d_Bytes_number_24 : decode b_Bytes_number 24 = .ok (.lor, 1) := by decide +kernel
theorem d_Bytes_number_25 : decode b_Bytes_number 25 = .ok (.lstore_n 3, 1) := by decide +kernel
theorem d_Bytes_number_26 : decode b_Bytes_number 26 = .ok (.iinc 5 1, 3) := by decide +kernel
theorem d_Bytes_number_29 : decode b_Bytes_number 29 = .ok (.goto (-24), 3) := by decide +kernel
theorem d_Bytes_number_32 : decode b_Bytes_number 32 = .ok (.lload_n 3, 1) := by decide +kernel
theorem d_Bytes_number_33 : decode b_Bytes_number 33 = .ok (.lreturn, 1) := by decide +kernel
theorem d_Bytes_put_0 : decode b_Bytes_put 0 = .ok (.iconst 0, 1) := by decide +kernel
theorem d_Bytes_put_1 : decode b_Bytes_put 1 = .ok (.istore 5, 2) := by decide +kernel
theorem d_Bytes_put_3 : decode b_Bytes_put 3 = .ok (.iload 5, 2) := by decide +kernel
theorem d_Bytes_put_5 : decode b_Bytes_put 5 = .ok (.iload 4, 2) := by decide +kernel
theorem d_Bytes_put_7 : decode b_Bytes_put 7 = .ok (.if_icmp .ge 29, 3) := by decide +kernel
theorem d_Bytes_put_10 : decode b_Bytes_put 10 = .ok (.aload_n 0, 1) := by decide +kernel
theorem d_Bytes_put_11 : decode b_Bytes_put 11 = .ok (.iload_n 1, 1) := by decide +kernel
theorem d_Bytes_put_12 : decode b_Bytes_put 12 = .ok (.iload 5, 2) := by decide +kernel
theorem d_Bytes_put_14 : decode b_Bytes_put 14 = .ok (.iadd, 1) := by decide +kernel
theorem d_Bytes_put_15 : decode b_Bytes_put 15 = .ok (.lload_n 2, 1) := by decide +kernel
theorem d_Bytes_put_16 : decode b_Bytes_put 16 = .ok (.bipush 8, 2) := by decide +kernel
theorem d_Bytes_put_18 : decode b_Bytes_put 18 = .ok (.iload 4, 2) := by decide +kernel
theorem d_Bytes_put_20 : decode b_Bytes_put 20 = .ok (.iconst 1, 1) := by decide +kernel
theorem d_Bytes_put_21 : decode b_Bytes_put 21 = .ok (.isub, 1) := by decide +kernel
theorem d_Bytes_put_22 : decode b_Bytes_put 22 = .ok (.iload 5, 2) := by decide +kernel
theorem d_Bytes_put_24 : decode b_Bytes_put 24 = .ok (.isub, 1) := by decide +kernel
theorem d_Bytes_put_25 : decode b_Bytes_put 25 = .ok (.imul, 1) := by decide +kernel
theorem d_Bytes_put_26 : decode b_Bytes_put 26 = .ok (.lushr, 1) := by decide +kernel
theorem d_Bytes_put_27 : decode b_Bytes_put 27 = .ok (.invokevirtual 31, 3) := by decide +kernel
theorem d_Bytes_put_30 : decode b_Bytes_put 30 = .ok (.iinc 5 1, 3) := by decide +kernel
theorem d_Bytes_put_33 : decode b_Bytes_put 33 = .ok (.goto (-30), 3) := by decide +kernel
theorem d_Bytes_put_36 : decode b_Bytes_put 36 = .ok (.return_, 1) := by decide +kernel
theorem d_Bytes_putByte_0 : decode b_Bytes_putByte 0 = .ok (.iload_n 1, 1) := by decide +kernel
theorem d_Bytes_putByte_1 : decode b_Bytes_putByte 1 = .ok (.ifCond .lt 12, 3) := by decide +kernel
theorem d_Bytes_putByte_4 : decode b_Bytes_putByte 4 = .ok (.iload_n 1, 1) := by decide +kernel
theorem d_Bytes_putByte_5 : decode b_Bytes_putByte 5 = .ok (.aload_n 0, 1) := by decide +kernel
theorem d_Bytes_putByte_6 : decode b_Bytes_putByte 6 = .ok (.getfield 13, 3) := by decide +kernel
theorem d_Bytes_putByte_9 : decode b_Bytes_putByte 9 = .ok (.arraylength, 1) := by decide +kernel
theorem d_Bytes_putByte_10 : decode b_Bytes_putByte 10 = .ok (.if_icmp .lt 4, 3) := by decide +kernel
theorem d_Bytes_putByte_13 : decode b_Bytes_putByte 13 = .ok (.return_, 1) := by decide +kernel
theorem d_Bytes_putByte_14 : decode b_Bytes_putByte 14 = .ok (.aload_n 0, 1) := by decide +kernel
theorem d_Bytes_putByte_15 : decode b_Bytes_putByte 15 = .ok (.getfield 13, 3) := by decide +kernel
theorem d_Bytes_putByte_18 : decode b_Bytes_putByte 18 = .ok (.iload_n 1, 1) := by decide +kernel
theorem d_Bytes_putByte_19 : decode b_Bytes_putByte 19 = .ok (.lload_n 2, 1) := by decide +kernel
theorem d_Bytes_putByte_20 : decode b_Bytes_putByte 20 = .ok (.l2i, 1) := by decide +kernel
theorem d_Bytes_putByte_21 : decode b_Bytes_putByte 21 = .ok (.i2b, 1) := by decide +kernel
theorem d_Bytes_putByte_22 : decode b_Bytes_putByte 22 = .ok (.bastore, 1) := by decide +kernel
theorem d_Bytes_putByte_23 : decode b_Bytes_putByte 23 = .ok (.aload_n 0, 1) := by decide +kernel
theorem d_Bytes_putByte_24 : decode b_Bytes_putByte 24 = .ok (.aload_n 0, 1) := by decide +kernel
theorem d_Bytes_putByte_25 : decode b_Bytes_putByte 25 = .ok (.getfield 19, 3) := by decide +kernel
theorem d_Bytes_putByte_28 : decode b_Bytes_putByte 28 = .ok (.iload_n 1, 1) := by decide +kernel
theorem d_Bytes_putByte_29 : decode b_Bytes_putByte 29 = .ok (.iconst 1, 1) := by decide +kernel
theorem d_Bytes_putByte_30 : decode b_Bytes_putByte 30 = .ok (.iadd, 1) := by decide +kernel
theorem d_Bytes_putByte_31 : decode b_Bytes_putByte 31 = .ok (.invokestatic 7, 3) := by decide +kernel
theorem d_Bytes_putByte_34 : decode b_Bytes_putByte 34 = .ok (.putfield 19, 3) := by decide +kernel
theorem d_Bytes_putByte_37 : decode b_Bytes_putByte 37 = .ok (.return_, 1) := by decide +kernel
theorem d_Bytes_size_0 : decode b_Bytes_size 0 = .ok (.aload_n 0, 1) := by decide +kernel
theorem d_Bytes_size_1 : decode b_Bytes_size 1 = .ok (.getfield 19, 3) := by decide +kernel
theorem d_Bytes_size_4 : decode b_Bytes_size 4 = .ok (.ireturn, 1) := by decide +kernel
theorem d_Room_init_0 : decode b_Room_init 0 = .ok (.aload_n 0, 1) := by decide +kernel
theorem d_Room_init_1 : decode b_Room_init 1 = .ok (.invokespecial 3, 3) := by decide +kernel
theorem d_Room_init_4 : decode b_Room_init 4 = .ok (.aload_n 0, 1) := by decide +kernel
theorem d_Room_init_5 : decode b_Room_init 5 = .ok (.iconst 0, 1) := by decide +kernel
theorem d_Room_init_6 : decode b_Room_init 6 = .ok (.iload_n 1, 1) := by decide +kernel
theorem d_Room_init_7 : decode b_Room_init 7 = .ok (.invokestatic 9, 3) := by decide +kernel
theorem d_Room_init_10 : decode b_Room_init 10 = .ok (.newarray .boolean, 2) := by decide +kernel
theorem d_Room_init_12 : decode b_Room_init 12 = .ok (.putfield 15, 3) := by decide +kernel
theorem d_Room_init_15 : decode b_Room_init 15 = .ok (.return_, 1) := by decide +kernel
theorem d_Room_copyFrom_0 : decode b_Room_copyFrom 0 = .ok (.aload_n 1, 1) := by decide +kernel
theorem d_Room_copyFrom_1 : decode b_Room_copyFrom 1 = .ok (.ifnonnull 4, 3) := by decide +kernel
theorem d_Room_copyFrom_5 : decode b_Room_copyFrom 5 = .ok (.iconst 0, 1) := by decide +kernel
theorem d_Room_copyFrom_6 : decode b_Room_copyFrom 6 = .ok (.istore_n 2, 1) := by decide +kernel
theorem d_Room_copyFrom_7 : decode b_Room_copyFrom 7 = .ok (.iload_n 2, 1) := by decide +kernel
theorem d_Room_copyFrom_8 : decode b_Room_copyFrom 8 = .ok (.aload_n 0, 1) := by decide +kernel
theorem d_Room_copyFrom_9 : decode b_Room_copyFrom 9 = .ok (.getfield 15, 3) := by decide +kernel
theorem d_Room_copyFrom_12 : decode b_Room_copyFrom 12 = .ok (.arraylength, 1) := by decide +kernel
theorem d_Room_copyFrom_13 : decode b_Room_copyFrom 13 = .ok (.if_icmp .ge 30, 3) := by decide +kernel
theorem d_Room_copyFrom_16 : decode b_Room_copyFrom 16 = .ok (.iload_n 2, 1) := by decide +kernel
theorem d_Room_copyFrom_17 : decode b_Room_copyFrom 17 = .ok (.aload_n 1, 1) := by decide +kernel
theorem d_Room_copyFrom_18 : decode b_Room_copyFrom 18 = .ok (.getfield 15, 3) := by decide +kernel
theorem d_Room_copyFrom_21 : decode b_Room_copyFrom 21 = .ok (.arraylength, 1) := by decide +kernel
theorem d_Room_copyFrom_22 : decode b_Room_copyFrom 22 = .ok (.if_icmp .ge 21, 3) := by decide +kernel
theorem d_Room_copyFrom_25 : decode b_Room_copyFrom 25 = .ok (.aload_n 0, 1) := by decide +kernel
theorem d_Room_copyFrom_26 : decode b_Room_copyFrom 26 = .ok (.getfield 15, 3) := by decide +kernel
theorem d_Room_copyFrom_29 : decode b_Room_copyFrom 29 = .ok (.iload_n 2, 1) := by decide +kernel
theorem d_Room_copyFrom_30 : decode b_Room_copyFrom 30 = .ok (.aload_n 1, 1) := by decide +kernel
theorem d_Room_copyFrom_31 : decode b_Room_copyFrom 31 = .ok (.getfield 15, 3) := by decide +kernel
theorem d_Room_copyFrom_34 : decode b_Room_copyFrom 34 = .ok (.iload_n 2, 1) := by decide +kernel
theorem d_Room_copyFrom_35 : decode b_Room_copyFrom 35 = .ok (.baload, 1) := by decide +kernel
theorem d_Room_copyFrom_36 : decode b_Room_copyFrom 36 = .ok (.bastore, 1) := by decide +kernel
theorem d_Room_copyFrom_37 : decode b_Room_copyFrom 37 = .ok (.iinc 2 1, 3) := by decide +kernel
theorem d_Room_copyFrom_40 : decode b_Room_copyFrom 40 = .ok (.goto (-33), 3) := by decide +kernel
theorem d_Room_copyFrom_43 : decode b_Room_copyFrom 43 = .ok (.return_, 1) := by decide +kernel
theorem d_Room_countFree_0 : decode b_Room_countFree 0 = .ok (.iconst 0, 1) := by decide +kernel
theorem d_Room_countFree_1 : decode b_Room_countFree 1 = .ok (.istore_n 1, 1) := by decide +kernel
theorem d_Room_countFree_2 : decode b_Room_countFree 2 = .ok (.iconst 2, 1) := by decide +kernel
theorem d_Room_countFree_3 : decode b_Room_countFree 3 = .ok (.istore_n 2, 1) := by decide +kernel
theorem d_Room_countFree_4 : decode b_Room_countFree 4 = .ok (.iload_n 2, 1) := by decide +kernel
theorem d_Room_countFree_5 : decode b_Room_countFree 5 = .ok (.aload_n 0, 1) := by decide +kernel
theorem d_Room_countFree_6 : decode b_Room_countFree 6 = .ok (.getfield 15, 3) := by decide +kernel
theorem d_Room_countFree_9 : decode b_Room_countFree 9 = .ok (.arraylength, 1) := by decide +kernel
theorem d_Room_countFree_10 : decode b_Room_countFree 10 = .ok (.if_icmp .ge 21, 3) := by decide +kernel
theorem d_Room_countFree_13 : decode b_Room_countFree 13 = .ok (.aload_n 0, 1) := by decide +kernel
theorem d_Room_countFree_14 : decode b_Room_countFree 14 = .ok (.getfield 15, 3) := by decide +kernel
theorem d_Room_countFree_17 : decode b_Room_countFree 17 = .ok (.iload_n 2, 1) := by decide +kernel
theorem d_Room_countFree_18 : decode b_Room_countFree 18 = .ok (.baload, 1) := by decide +kernel
theorem d_Room_countFree_19 : decode b_Room_countFree 19 = .ok (.ifCond .ne 6, 3) := by decide +kernel
theorem d_Room_countFree_22 : decode b_Room_countFree 22 = .ok (.iinc 1 1, 3) := by decide +kernel
theorem d_Room_countFree_25 : decode b_Room_countFree 25 = .ok (.iinc 2 1, 3) := by decide +kernel
theorem d_Room_countFree_28 : decode b_Room_countFree 28 = .ok (.goto (-24), 3) := by decide +kernel
theorem d_Room_countFree_31 : decode b_Room_countFree 31 = .ok (.iload_n 1, 1) := by decide +kernel
theorem d_Room_countFree_32 : decode b_Room_countFree 32 = .ok (.ireturn, 1) := by decide +kernel
theorem d_Room_firstRun_0 : decode b_Room_firstRun 0 = .ok (.iconst 0, 1) := by decide +kernel
theorem d_Room_firstRun_1 : decode b_Room_firstRun 1 = .ok (.istore_n 2, 1) := by decide +kernel
theorem d_Room_firstRun_2 : decode b_Room_firstRun 2 = .ok (.iconst 2, 1) := by decide +kernel
theorem d_Room_firstRun_3 : decode b_Room_firstRun 3 = .ok (.istore_n 3, 1) := by decide +kernel
theorem d_Room_firstRun_4 : decode b_Room_firstRun 4 = .ok (.iload_n 3, 1) := by decide +kernel
theorem d_Room_firstRun_5 : decode b_Room_firstRun 5 = .ok (.aload_n 0, 1) := by decide +kernel
theorem d_Room_firstRun_6 : decode b_Room_firstRun 6 = .ok (.getfield 15, 3) := by decide +kernel
theorem d_Room_firstRun_9 : decode b_Room_firstRun 9 = .ok (.arraylength, 1) := by decide +kernel
theorem d_Room_firstRun_10 : decode b_Room_firstRun 10 = .ok (.if_icmp .ge 37, 3) := by decide +kernel
theorem d_Room_firstRun_13 : decode b_Room_firstRun 13 = .ok (.aload_n 0, 1) := by decide +kernel
theorem d_Room_firstRun_14 : decode b_Room_firstRun 14 = .ok (.getfield 15, 3) := by decide +kernel
theorem d_Room_firstRun_17 : decode b_Room_firstRun 17 = .ok (.iload_n 3, 1) := by decide +kernel
theorem d_Room_firstRun_18 : decode b_Room_firstRun 18 = .ok (.baload, 1) := by decide +kernel
theorem d_Room_firstRun_19 : decode b_Room_firstRun 19 = .ok (.ifCond .eq 7, 3) := by decide +kernel
theorem d_Room_firstRun_22 : decode b_Room_firstRun 22 = .ok (.iconst 0, 1) := by decide +kernel
theorem d_Room_firstRun_23 : decode b_Room_firstRun 23 = .ok (.goto 6, 3) := by decide +kernel
theorem d_Room_firstRun_26 : decode b_Room_firstRun 26 = .ok (.iload_n 2, 1) := by decide +kernel
theorem d_Room_firstRun_27 : decode b_Room_firstRun 27 = .ok (.iconst 1, 1) := by decide +kernel
theorem d_Room_firstRun_28 : decode b_Room_firstRun 28 = .ok (.iadd, 1) := by decide +kernel
theorem d_Room_firstRun_29 : decode b_Room_firstRun 29 = .ok (.istore_n 2, 1) := by decide +kernel
theorem d_Room_firstRun_30 : decode b_Room_firstRun 30 = .ok (.iload_n 2, 1) := by decide +kernel
theorem d_Room_firstRun_31 : decode b_Room_firstRun 31 = .ok (.iload_n 1, 1) := by decide +kernel
theorem d_Room_firstRun_32 : decode b_Room_firstRun 32 = .ok (.if_icmp .ne 9, 3) := by decide +kernel
theorem d_Room_firstRun_35 : decode b_Room_firstRun 35 = .ok (.iload_n 3, 1) := by decide +kernel
theorem d_Room_firstRun_36 : decode b_Room_firstRun 36 = .ok (.iload_n 1, 1) := by decide +kernel
theorem d_Room_firstRun_37 : decode b_Room_firstRun 37 = .ok (.isub, 1) := by decide +kernel
theorem d_Room_firstRun_38 : decode b_Room_firstRun 38 = .ok (.iconst 1, 1) := by decide +kernel
theorem d_Room_firstRun_39 : decode b_Room_firstRun 39 = .ok (.iadd, 1) := by decide +kernel
theorem d_Room_firstRun_40 : decode b_Room_firstRun 40 = .ok (.ireturn, 1) := by decide +kernel
theorem d_Room_firstRun_41 : decode b_Room_firstRun 41 = .ok (.iinc 3 1, 3) := by decide +kernel
theorem d_Room_firstRun_44 : decode b_Room_firstRun 44 = .ok (.goto (-40), 3) := by decide +kernel
theorem d_Room_firstRun_47 : decode b_Room_firstRun 47 = .ok (.iconst (-1), 1) := by decide +kernel
theorem d_Room_firstRun_48 : decode b_Room_firstRun 48 = .ok (.ireturn, 1) := by decide +kernel
theorem d_Room_free_0 : decode b_Room_free 0 = .ok (.aload_n 0, 1) := by decide +kernel
theorem d_Room_free_1 : decode b_Room_free 1 = .ok (.iload_n 1, 1) := by decide +kernel
theorem d_Room_free_2 : decode b_Room_free 2 = .ok (.iload_n 2, 1) := by decide +kernel
theorem d_Room_free_3 : decode b_Room_free 3 = .ok (.iconst 0, 1) := by decide +kernel
theorem d_Room_free_4 : decode b_Room_free 4 = .ok (.invokevirtual 21, 3) := by decide +kernel
theorem d_Room_free_7 : decode b_Room_free 7 = .ok (.return_, 1) := by decide +kernel
theorem d_Room_set_0 : decode b_Room_set 0 = .ok (.iconst 0, 1) := by decide +kernel
theorem d_Room_set_1 : decode b_Room_set 1 = .ok (.istore 4, 2) := by decide +kernel
theorem d_Room_set_3 : decode b_Room_set 3 = .ok (.iload 4, 2) := by decide +kernel
theorem d_Room_set_5 : decode b_Room_set 5 = .ok (.iload_n 2, 1) := by decide +kernel
theorem d_Room_set_6 : decode b_Room_set 6 = .ok (.if_icmp .ge 38, 3) := by decide +kernel
theorem d_Room_set_9 : decode b_Room_set 9 = .ok (.iload_n 1, 1) := by decide +kernel
theorem d_Room_set_10 : decode b_Room_set 10 = .ok (.iload 4, 2) := by decide +kernel
theorem d_Room_set_12 : decode b_Room_set 12 = .ok (.iadd, 1) := by decide +kernel
theorem d_Room_set_13 : decode b_Room_set 13 = .ok (.istore 5, 2) := by decide +kernel
theorem d_Room_set_15 : decode b_Room_set 15 = .ok (.iload 5, 2) := by decide +kernel
theorem d_Room_set_17 : decode b_Room_set 17 = .ok (.ifCond .lt 21, 3) := by decide +kernel
theorem d_Room_set_20 : decode b_Room_set 20 = .ok (.iload 5, 2) := by decide +kernel
theorem d_Room_set_22 : decode b_Room_set 22 = .ok (.aload_n 0, 1) := by decide +kernel
theorem d_Room_set_23 : decode b_Room_set 23 = .ok (.getfield 15, 3) := by decide +kernel
theorem d_Room_set_26 : decode b_Room_set 26 = .ok (.arraylength, 1) := by decide +kernel
theorem d_Room_set_27 : decode b_Room_set 27 = .ok (.if_icmp .ge 11, 3) := by decide +kernel
theorem d_Room_set_30 : decode b_Room_set 30 = .ok (.aload_n 0, 1) := by decide +kernel
theorem d_Room_set_31 : decode b_Room_set 31 = .ok (.getfield 15, 3) := by decide +kernel
theorem d_Room_set_34 : decode b_Room_set 34 = .ok (.iload 5, 2) := by decide +kernel
theorem d_Room_set_36 : decode b_Room_set 36 = .ok (.iload_n 3, 1) := by decide +kernel
theorem d_Room_set_37 : decode b_Room_set 37 = .ok (.bastore, 1) := by decide +kernel
theorem d_Room_set_38 : decode b_Room_set 38 = .ok (.iinc 4 1, 3) := by decide +kernel
theorem d_Room_set_41 : decode b_Room_set 41 = .ok (.goto (-38), 3) := by decide +kernel
theorem d_Room_set_44 : decode b_Room_set 44 = .ok (.return_, 1) := by decide +kernel
theorem d_Room_take_0 : decode b_Room_take 0 = .ok (.aload_n 0, 1) := by decide +kernel
theorem d_Room_take_1 : decode b_Room_take 1 = .ok (.iload_n 1, 1) := by decide +kernel
theorem d_Room_take_2 : decode b_Room_take 2 = .ok (.iload_n 2, 1) := by decide +kernel
theorem d_Room_take_3 : decode b_Room_take 3 = .ok (.iconst 1, 1) := by decide +kernel
theorem d_Room_take_4 : decode b_Room_take 4 = .ok (.invokevirtual 21, 3) := by decide +kernel
theorem d_Room_take_7 : decode b_Room_take 7 = .ok (.return_, 1) := by decide +kernel
theorem d_Parts_init_0 : decode b_Parts_init 0 = .ok (.aload_n 0, 1) := by decide +kernel
theorem d_Parts_init_1 : decode b_Parts_init 1 = .ok (.invokespecial 3, 3) := by decide +kernel
theorem d_Parts_init_4 : decode b_Parts_init 4 = .ok (.iconst 0, 1) := by decide +kernel
theorem d_Parts_init_5 : decode b_Parts_init 5 = .ok (.iload_n 1, 1) := by decide +kernel
theorem d_Parts_init_6 : decode b_Parts_init 6 = .ok (.invokestatic 9, 3) := by decide +kernel
theorem d_Parts_init_9 : decode b_Parts_init 9 = .ok (.istore_n 2, 1) := by decide +kernel
theorem d_Parts_init_10 : decode b_Parts_init 10 = .ok (.aload_n 0, 1) := by decide +kernel
theorem d_Parts_init_11 : decode b_Parts_init 11 = .ok (.iload_n 2, 1) := by decide +kernel
theorem d_Parts_init_12 : decode b_Parts_init 12 = .ok (.newarray .int, 2) := by decide +kernel
theorem d_Parts_init_14 : decode b_Parts_init 14 = .ok (.putfield 15, 3) := by decide +kernel
theorem d_Parts_init_17 : decode b_Parts_init 17 = .ok (.aload_n 0, 1) := by decide +kernel
theorem d_Parts_init_18 : decode b_Parts_init 18 = .ok (.iload_n 2, 1) := by decide +kernel
theorem d_Parts_init_19 : decode b_Parts_init 19 = .ok (.newarray .int, 2) := by decide +kernel
theorem d_Parts_init_21 : decode b_Parts_init 21 = .ok (.putfield 21, 3) := by decide +kernel
theorem d_Parts_init_24 : decode b_Parts_init 24 = .ok (.aload_n 0, 1) := by decide +kernel
theorem d_Parts_init_25 : decode b_Parts_init 25 = .ok (.iload_n 2, 1) := by decide +kernel
theorem d_Parts_init_26 : decode b_Parts_init 26 = .ok (.newarray .int, 2) := by decide +kernel
theorem d_Parts_init_28 : decode b_Parts_init 28 = .ok (.putfield 24, 3) := by decide +kernel
theorem d_Parts_init_31 : decode b_Parts_init 31 = .ok (.aload_n 0, 1) := by decide +kernel
theorem d_Parts_init_32 : decode b_Parts_init 32 = .ok (.iload_n 2, 1) := by decide +kernel
theorem d_Parts_init_33 : decode b_Parts_init 33 = .ok (.newarray .int, 2) := by decide +kernel
theorem d_Parts_init_35 : decode b_Parts_init 35 = .ok (.putfield 27, 3) := by decide +kernel
theorem d_Parts_init_38 : decode b_Parts_init 38 = .ok (.aload_n 0, 1) := by decide +kernel
theorem d_Parts_init_39 : decode b_Parts_init 39 = .ok (.iload_n 2, 1) := by decide +kernel
theorem d_Parts_init_40 : decode b_Parts_init 40 = .ok (.newarray .long, 2) := by decide +kernel
theorem d_Parts_init_42 : decode b_Parts_init 42 = .ok (.putfield 30, 3) := by decide +kernel
theorem d_Parts_init_45 : decode b_Parts_init 45 = .ok (.return_, 1) := by decide +kernel
theorem d_Parts_add_0 : decode b_Parts_add 0 = .ok (.aload_n 0, 1) := by decide +kernel
theorem d_Parts_add_1 : decode b_Parts_add 1 = .ok (.getfield 34, 3) := by decide +kernel
theorem d_Parts_add_4 : decode b_Parts_add 4 = .ok (.aload_n 0, 1) := by decide +kernel
theorem d_Parts_add_5 : decode b_Parts_add 5 = .ok (.getfield 15, 3) := by decide +kernel
theorem d_Parts_add_8 : decode b_Parts_add 8 = .ok (.arraylength, 1) := by decide +kernel
theorem d_Parts_add_9 : decode b_Parts_add 9 = .ok (.if_icmp .lt 4, 3) := by decide +kernel
theorem d_Parts_add_12 : decode b_Parts_add 12 = .ok (.return_, 1) := by decide +kernel
theorem d_Parts_add_13 : decode b_Parts_add 13 = .ok (.aload_n 0, 1) := by decide +kernel
theorem d_Parts_add_14 : decode b_Parts_add 14 = .ok (.getfield 15, 3) := by decide +kernel
theorem d_Parts_add_17 : decode b_Parts_add 17 = .ok (.aload_n 0, 1) := by decide +kernel
theorem d_Parts_add_18 : decode b_Parts_add 18 = .ok (.getfield 34, 3) := by decide +kernel
theorem d_Parts_add_21 : decode b_Parts_add 21 = .ok (.iload_n 1, 1) := by decide +kernel
theorem d_Parts_add_22 : decode b_Parts_add 22 = .ok (.invokestatic 38, 3) := by decide +kernel
theorem d_Parts_add_25 : decode b_Parts_add 25 = .ok (.istore 7, 2) := by decide +kernel
theorem d_Parts_add_27 : decode b_Parts_add 27 = .ok (.aload_n 0, 1) := by decide +kernel
theorem d_Parts_add_28 : decode b_Parts_add 28 = .ok (.dup, 1) := by decide +kernel
theorem d_Parts_add_29 : decode b_Parts_add 29 = .ok (.getfield 34, 3) := by decide +kernel
theorem d_Parts_add_32 : decode b_Parts_add 32 = .ok (.iconst 1, 1) := by decide +kernel
theorem d_Parts_add_33 : decode b_Parts_add 33 = .ok (.iadd, 1) := by decide +kernel
theorem d_Parts_add_34 : decode b_Parts_add 34 = .ok (.putfield 34, 3) := by decide +kernel
theorem d_Parts_add_37 : decode b_Parts_add 37 = .ok (.aload_n 0, 1) := by decide +kernel
theorem d_Parts_add_38 : decode b_Parts_add 38 = .ok (.getfield 34, 3) := by decide +kernel
theorem d_Parts_add_41 : decode b_Parts_add 41 = .ok (.iconst 1, 1) := by decide +kernel
theorem d_Parts_add_42 : decode b_Parts_add 42 = .ok (.isub, 1) := by decide +kernel
theorem d_Parts_add_43 : decode b_Parts_add 43 = .ok (.istore 8, 2) := by decide +kernel
theorem d_Parts_add_45 : decode b_Parts_add 45 = .ok (.iload 8, 2) := by decide +kernel
theorem d_Parts_add_47 : decode b_Parts_add 47 = .ok (.iload 7, 2) := by decide +kernel
theorem d_Parts_add_49 : decode b_Parts_add 49 = .ok (.if_icmp .le 19, 3) := by decide +kernel
theorem d_Parts_add_52 : decode b_Parts_add 52 = .ok (.aload_n 0, 1) := by decide +kernel
theorem d_Parts_add_53 : decode b_Parts_add 53 = .ok (.iload 8, 2) := by decide +kernel
theorem d_Parts_add_55 : decode b_Parts_add 55 = .ok (.iconst 1, 1) := by decide +kernel
theorem d_Parts_add_56 : decode b_Parts_add 56 = .ok (.isub, 1) := by decide +kernel
theorem d_Parts_add_57 : decode b_Parts_add 57 = .ok (.iload 8, 2) := by decide +kernel
theorem d_Parts_add_59 : decode b_Parts_add 59 = .ok (.invokevirtual 52, 3) := by decide +kernel
theorem d_Parts_add_62 : decode b_Parts_add 62 = .ok (.iinc 8 (-1), 3) := by decide +kernel
theorem d_Parts_add_65 : decode b_Parts_add 65 = .ok (.goto (-20), 3) := by decide +kernel
theorem d_Parts_add_68 : decode b_Parts_add 68 = .ok (.aload_n 0, 1) := by decide +kernel
theorem d_Parts_add_69 : decode b_Parts_add 69 = .ok (.iload 7, 2) := by decide +kernel
theorem d_Parts_add_71 : decode b_Parts_add 71 = .ok (.invokevirtual 46, 3) := by decide +kernel
theorem d_Parts_add_74 : decode b_Parts_add 74 = .ok (.ifCond .ne 4, 3) := by decide +kernel
theorem d_Parts_add_77 : decode b_Parts_add 77 = .ok (.return_, 1) := by decide +kernel
theorem d_Parts_add_78 : decode b_Parts_add 78 = .ok (.aload_n 0, 1) := by decide +kernel
theorem d_Parts_add_79 : decode b_Parts_add 79 = .ok (.getfield 15, 3) := by decide +kernel
theorem d_Parts_add_82 : decode b_Parts_add 82 = .ok (.iload 7, 2) := by decide +kernel
theorem d_Parts_add_84 : decode b_Parts_add 84 = .ok (.iload_n 1, 1) := by decide +kernel
theorem d_Parts_add_85 : decode b_Parts_add 85 = .ok (.iastore, 1) := by decide +kernel
theorem d_Parts_add_86 : decode b_Parts_add 86 = .ok (.aload_n 0, 1) := by decide +kernel
theorem d_Parts_add_87 : decode b_Parts_add 87 = .ok (.getfield 21, 3) := by decide +kernel
theorem d_Parts_add_90 : decode b_Parts_add 90 = .ok (.iload 7, 2) := by decide +kernel
theorem d_Parts_add_92 : decode b_Parts_add 92 = .ok (.iload_n 2, 1) := by decide +kernel
theorem d_Parts_add_93 : decode b_Parts_add 93 = .ok (.iastore, 1) := by decide +kernel
theorem d_Parts_add_94 : decode b_Parts_add 94 = .ok (.aload_n 0, 1) := by decide +kernel
theorem d_Parts_add_95 : decode b_Parts_add 95 = .ok (.getfield 24, 3) := by decide +kernel
theorem d_Parts_add_98 : decode b_Parts_add 98 = .ok (.iload 7, 2) := by decide +kernel
theorem d_Parts_add_100 : decode b_Parts_add 100 = .ok (.iload_n 3, 1) := by decide +kernel
theorem d_Parts_add_101 : decode b_Parts_add 101 = .ok (.iastore, 1) := by decide +kernel
theorem d_Parts_add_102 : decode b_Parts_add 102 = .ok (.aload_n 0, 1) := by decide +kernel
theorem d_Parts_add_103 : decode b_Parts_add 103 = .ok (.getfield 27, 3) := by decide +kernel
theorem d_Parts_add_106 : decode b_Parts_add 106 = .ok (.iload 7, 2) := by decide +kernel
theorem d_Parts_add_108 : decode b_Parts_add 108 = .ok (.iload 4, 2) := by decide +kernel
theorem d_Parts_add_110 : decode b_Parts_add 110 = .ok (.iastore, 1) := by decide +kernel
theorem d_Parts_add_111 : decode b_Parts_add 111 = .ok (.aload_n 0, 1) := by decide +kernel
theorem d_Parts_add_112 : decode b_Parts_add 112 = .ok (.getfield 30, 3) := by decide +kernel
theorem d_Parts_add_115 : decode b_Parts_add 115 = .ok (.iload 7, 2) := by decide +kernel
theorem d_Parts_add_117 : decode b_Parts_add 117 = .ok (.lload 5, 2) := by decide +kernel
theorem d_Parts_add_119 : decode b_Parts_add 119 = .ok (.lastore, 1) := by decide +kernel
theorem d_Parts_add_120 : decode b_Parts_add 120 = .ok (.return_, 1) := by decide +kernel
theorem d_Parts_find_0 : decode b_Parts_find 0 = .ok (.aload_n 0, 1) := by decide +kernel
theorem d_Parts_find_1 : decode b_Parts_find 1 = .ok (.getfield 15, 3) := by decide +kernel
theorem d_Parts_find_4 : decode b_Parts_find 4 = .ok (.aload_n 0, 1) := by decide +kernel
theorem d_Parts_find_5 : decode b_Parts_find 5 = .ok (.getfield 34, 3) := by decide +kernel
theorem d_Parts_find_8 : decode b_Parts_find 8 = .ok (.iload_n 1, 1) := by decide +kernel
theorem d_Parts_find_9 : decode b_Parts_find 9 = .ok (.invokestatic 38, 3) := by decide +kernel
theorem d_Parts_find_12 : decode b_Parts_find 12 = .ok (.istore_n 2, 1) := by decide +kernel
theorem d_Parts_find_13 : decode b_Parts_find 13 = .ok (.aload_n 0, 1) := by decide +kernel
theorem d_Parts_find_14 : decode b_Parts_find 14 = .ok (.iload_n 2, 1) := by decide +kernel
theorem d_Parts_find_15 : decode b_Parts_find 15 = .ok (.invokevirtual 42, 3) := by decide +kernel
theorem d_Parts_find_18 : decode b_Parts_find 18 = .ok (.iload_n 1, 1) := by decide +kernel
theorem d_Parts_find_19 : decode b_Parts_find 19 = .ok (.if_icmp .ne 15, 3) := by decide +kernel
theorem d_Parts_find_22 : decode b_Parts_find 22 = .ok (.iload_n 2, 1) := by decide +kernel
theorem d_Parts_find_23 : decode b_Parts_find 23 = .ok (.aload_n 0, 1) := by decide +kernel
theorem d_Parts_find_24 : decode b_Parts_find 24 = .ok (.getfield 34, 3) := by decide +kernel
theorem d_Parts_find_27 : decode b_Parts_find 27 = .ok (.if_icmp .ge 7, 3) := by decide +kernel
theorem d_Parts_find_30 : decode b_Parts_find 30 = .ok (.iload_n 2, 1) := by decide +kernel
theorem d_Parts_find_31 : decode b_Parts_find 31 = .ok (.goto 4, 3) := by decide +kernel
theorem d_Parts_find_34 : decode b_Parts_find 34 = .ok (.iconst (-1), 1) := by decide +kernel
theorem d_Parts_find_35 : decode b_Parts_find 35 = .ok (.ireturn, 1) := by decide +kernel
theorem d_Parts_groupAt_0 : decode b_Parts_groupAt 0 = .ok (.aload_n 0, 1) := by decide +kernel
theorem d_Parts_groupAt_1 : decode b_Parts_groupAt 1 = .ok (.iload_n 1, 1) := by decide +kernel
theorem d_Parts_groupAt_2 : decode b_Parts_groupAt 2 = .ok (.invokevirtual 46, 3) := by decide +kernel
theorem d_Parts_groupAt_5 : decode b_Parts_groupAt 5 = .ok (.ifCond .eq 12, 3) := by decide +kernel
theorem d_Parts_groupAt_8 : decode b_Parts_groupAt 8 = .ok (.aload_n 0, 1) := by decide +kernel
theorem d_Parts_groupAt_9 : decode b_Parts_groupAt 9 = .ok (.getfield 21, 3) := by decide +kernel
theorem d_Parts_groupAt_12 : decode b_Parts_groupAt 12 = .ok (.iload_n 1, 1) := by decide +kernel
theorem d_Parts_groupAt_13 : decode b_Parts_groupAt 13 = .ok (.iaload, 1) := by decide +kernel
theorem d_Parts_groupAt_14 : decode b_Parts_groupAt 14 = .ok (.goto 4, 3) := by decide +kernel
theorem d_Parts_groupAt_17 : decode b_Parts_groupAt 17 = .ok (.iconst (-1), 1) := by decide +kernel
theorem d_Parts_groupAt_18 : decode b_Parts_groupAt 18 = .ok (.ireturn, 1) := by decide +kernel
theorem d_Parts_has_0 : decode b_Parts_has 0 = .ok (.iload_n 1, 1) := by decide +kernel
theorem d_Parts_has_1 : decode b_Parts_has 1 = .ok (.ifCond .lt 24, 3) := by decide +kernel
theorem d_Parts_has_4 : decode b_Parts_has 4 = .ok (.iload_n 1, 1) := by decide +kernel
theorem d_Parts_has_5 : decode b_Parts_has 5 = .ok (.aload_n 0, 1) := by decide +kernel
theorem d_Parts_has_6 : decode b_Parts_has 6 = .ok (.getfield 34, 3) := by decide +kernel
theorem d_Parts_has_9 : decode b_Parts_has 9 = .ok (.if_icmp .ge 16, 3) := by decide +kernel
theorem d_Parts_has_12 : decode b_Parts_has 12 = .ok (.iload_n 1, 1) := by decide +kernel
theorem d_Parts_has_13 : decode b_Parts_has 13 = .ok (.aload_n 0, 1) := by decide +kernel
theorem d_Parts_has_14 : decode b_Parts_has 14 = .ok (.getfield 15, 3) := by decide +kernel
theorem d_Parts_has_17 : decode b_Parts_has 17 = .ok (.arraylength, 1) := by decide +kernel
theorem d_Parts_has_18 : decode b_Parts_has 18 = .ok (.if_icmp .ge 7, 3) := by decide +kernel
theorem d_Parts_has_21 : decode b_Parts_has 21 = .ok (.iconst 1, 1) := by decide +kernel
theorem d_Parts_has_22 : decode b_Parts_has 22 = .ok (.goto 4, 3) := by decide +kernel
theorem d_Parts_has_25 : decode b_Parts_has 25 = .ok (.iconst 0, 1) := by decide +kernel
theorem d_Parts_has_26 : decode b_Parts_has 26 = .ok (.ireturn, 1) := by decide +kernel
theorem d_Parts_lengthAt_0 : decode b_Parts_lengthAt 0 = .ok (.aload_n 0, 1) := by decide +kernel
theorem d_Parts_lengthAt_1 : decode b_Parts_lengthAt 1 = .ok (.iload_n 1, 1) := by decide +kernel
theorem d_Parts_lengthAt_2 : decode b_Parts_lengthAt 2 = .ok (.invokevirtual 46, 3) := by decide +kernel
theorem d_Parts_lengthAt_5 : decode b_Parts_lengthAt 5 = .ok (.ifCond .eq 12, 3) := by decide +kernel
theorem d_Parts_lengthAt_8 : decode b_Parts_lengthAt 8 = .ok (.aload_n 0, 1) := by decide +kernel
theorem d_Parts_lengthAt_9 : decode b_Parts_lengthAt 9 = .ok (.getfield 24, 3) := by decide +kernel
theorem d_Parts_lengthAt_12 : decode b_Parts_lengthAt 12 = .ok (.iload_n 1, 1) := by decide +kernel
theorem d_Parts_lengthAt_13 : decode b_Parts_lengthAt 13 = .ok (.iaload, 1) := by decide +kernel
theorem d_Parts_lengthAt_14 : decode b_Parts_lengthAt 14 = .ok (.goto 4, 3) := by decide +kernel
theorem d_Parts_lengthAt_17 : decode b_Parts_lengthAt 17 = .ok (.iconst 0, 1) := by decide +kernel
theorem d_Parts_lengthAt_18 : decode b_Parts_lengthAt 18 = .ok (.ireturn, 1) := by decide +kernel
theorem d_Parts_move_0 : decode b_Parts_move 0 = .ok (.aload_n 0, 1) := by decide +kernel
theorem d_Parts_move_1 : decode b_Parts_move 1 = .ok (.iload_n 1, 1) := by decide +kernel
theorem d_Parts_move_2 : decode b_Parts_move 2 = .ok (.invokevirtual 46, 3) := by decide +kernel
theorem d_Parts_move_5 : decode b_Parts_move 5 = .ok (.ifCond .eq 11, 3) := by decide +kernel
theorem d_Parts_move_8 : decode b_Parts_move 8 = .ok (.aload_n 0, 1) := by decide +kernel
theorem d_Parts_move_9 : decode b_Parts_move 9 = .ok (.iload_n 2, 1) := by decide +kernel
theorem d_Parts_move_10 : decode b_Parts_move 10 = .ok (.invokevirtual 46, 3) := by decide +kernel
theorem d_Parts_move_13 : decode b_Parts_move 13 = .ok (.ifCond .ne 4, 3) := by decide +kernel
theorem d_Parts_move_16 : decode b_Parts_move 16 = .ok (.return_, 1) := by decide +kernel
theorem d_Parts_move_17 : decode b_Parts_move 17 = .ok (.aload_n 0, 1) := by decide +kernel
theorem d_Parts_move_18 : decode b_Parts_move 18 = .ok (.getfield 15, 3) := by decide +kernel
theorem d_Parts_move_21 : decode b_Parts_move 21 = .ok (.iload_n 2, 1) := by decide +kernel
theorem d_Parts_move_22 : decode b_Parts_move 22 = .ok (.aload_n 0, 1) := by decide +kernel
theorem d_Parts_move_23 : decode b_Parts_move 23 = .ok (.getfield 15, 3) := by decide +kernel
theorem d_Parts_move_26 : decode b_Parts_move 26 = .ok (.iload_n 1, 1) := by decide +kernel
theorem d_Parts_move_27 : decode b_Parts_move 27 = .ok (.iaload, 1) := by decide +kernel
theorem d_Parts_move_28 : decode b_Parts_move 28 = .ok (.iastore, 1) := by decide +kernel
theorem d_Parts_move_29 : decode b_Parts_move 29 = .ok (.aload_n 0, 1) := by decide +kernel
theorem d_Parts_move_30 : decode b_Parts_move 30 = .ok (.getfield 21, 3) := by decide +kernel
theorem d_Parts_move_33 : decode b_Parts_move 33 = .ok (.iload_n 2, 1) := by decide +kernel
theorem d_Parts_move_34 : decode b_Parts_move 34 = .ok (.aload_n 0, 1) := by decide +kernel
theorem d_Parts_move_35 : decode b_Parts_move 35 = .ok (.getfield 21, 3) := by decide +kernel
theorem d_Parts_move_38 : decode b_Parts_move 38 = .ok (.iload_n 1, 1) := by decide +kernel
theorem d_Parts_move_39 : decode b_Parts_move 39 = .ok (.iaload, 1) := by decide +kernel
theorem d_Parts_move_40 : decode b_Parts_move 40 = .ok (.iastore, 1) := by decide +kernel
theorem d_Parts_move_41 : decode b_Parts_move 41 = .ok (.aload_n 0, 1) := by decide +kernel
theorem d_Parts_move_42 : decode b_Parts_move 42 = .ok (.getfield 24, 3) := by decide +kernel
theorem d_Parts_move_45 : decode b_Parts_move 45 = .ok (.iload_n 2, 1) := by decide +kernel
theorem d_Parts_move_46 : decode b_Parts_move 46 = .ok (.aload_n 0, 1) := by decide +kernel
theorem d_Parts_move_47 : decode b_Parts_move 47 = .ok (.getfield 24, 3) := by decide +kernel
theorem d_Parts_move_50 : decode b_Parts_move 50 = .ok (.iload_n 1, 1) := by decide +kernel
theorem d_Parts_move_51 : decode b_Parts_move 51 = .ok (.iaload, 1) := by decide +kernel
theorem d_Parts_move_52 : decode b_Parts_move 52 = .ok (.iastore, 1) := by decide +kernel
theorem d_Parts_move_53 : decode b_Parts_move 53 = .ok (.aload_n 0, 1) := by decide +kernel
theorem d_Parts_move_54 : decode b_Parts_move 54 = .ok (.getfield 27, 3) := by decide +kernel
theorem d_Parts_move_57 : decode b_Parts_move 57 = .ok (.iload_n 2, 1) := by decide +kernel
theorem d_Parts_move_58 : decode b_Parts_move 58 = .ok (.aload_n 0, 1) := by decide +kernel
theorem d_Parts_move_59 : decode b_Parts_move 59 = .ok (.getfield 27, 3) := by decide +kernel
theorem d_Parts_move_62 : decode b_Parts_move 62 = .ok (.iload_n 1, 1) := by decide +kernel
theorem d_Parts_move_63 : decode b_Parts_move 63 = .ok (.iaload, 1) := by decide +kernel
theorem d_Parts_move_64 : decode b_Parts_move 64 = .ok (.iastore, 1) := by decide +kernel
theorem d_Parts_move_65 : decode b_Parts_move 65 = .ok (.aload_n 0, 1) := by decide +kernel
theorem d_Parts_move_66 : decode b_Parts_move 66 = .ok (.getfield 30, 3) := by decide +kernel
theorem d_Parts_move_69 : decode b_Parts_move 69 = .ok (.iload_n 2, 1) := by decide +kernel
theorem d_Parts_move_70 : decode b_Parts_move 70 = .ok (.aload_n 0, 1) := by decide +kernel
theorem d_Parts_move_71 : decode b_Parts_move 71 = .ok (.getfield 30, 3) := by decide +kernel
theorem d_Parts_move_74 : decode b_Parts_move 74 = .ok (.iload_n 1, 1) := by decide +kernel
theorem d_Parts_move_75 : decode b_Parts_move 75 = .ok (.laload, 1) := by decide +kernel
theorem d_Parts_move_76 : decode b_Parts_move 76 = .ok (.lastore, 1) := by decide +kernel
theorem d_Parts_move_77 : decode b_Parts_move 77 = .ok (.return_, 1) := by decide +kernel
theorem d_Parts_numberAt_0 : decode b_Parts_numberAt 0 = .ok (.aload_n 0, 1) := by decide +kernel
theorem d_Parts_numberAt_1 : decode b_Parts_numberAt 1 = .ok (.iload_n 1, 1) := by decide +kernel
theorem d_Parts_numberAt_2 : decode b_Parts_numberAt 2 = .ok (.invokevirtual 46, 3) := by decide +kernel
theorem d_Parts_numberAt_5 : decode b_Parts_numberAt 5 = .ok (.ifCond .eq 12, 3) := by decide +kernel
theorem d_Parts_numberAt_8 : decode b_Parts_numberAt 8 = .ok (.aload_n 0, 1) := by decide +kernel
theorem d_Parts_numberAt_9 : decode b_Parts_numberAt 9 = .ok (.getfield 15, 3) := by decide +kernel
theorem d_Parts_numberAt_12 : decode b_Parts_numberAt 12 = .ok (.iload_n 1, 1) := by decide +kernel
theorem d_Parts_numberAt_13 : decode b_Parts_numberAt 13 = .ok (.iaload, 1) := by decide +kernel
theorem d_Parts_numberAt_14 : decode b_Parts_numberAt 14 = .ok (.goto 4, 3) := by decide +kernel
theorem d_Parts_numberAt_17 : decode b_Parts_numberAt 17 = .ok (.iconst (-1), 1) := by decide +kernel
theorem d_Parts_numberAt_18 : decode b_Parts_numberAt 18 = .ok (.ireturn, 1) := by decide +kernel
theorem d_Parts_positionAt_0 : decode b_Parts_positionAt 0 = .ok (.aload_n 0, 1) := by decide +kernel
theorem d_Parts_positionAt_1 : decode b_Parts_positionAt 1 = .ok (.iload_n 1, 1) := by decide +kernel
theorem d_Parts_positionAt_2 : decode b_Parts_positionAt 2 = .ok (.invokevirtual 46, 3) := by decide +kernel
theorem d_Parts_positionAt_5 : decode b_Parts_positionAt 5 = .ok (.ifCond .eq 12, 3) := by decide +kernel
theorem d_Parts_positionAt_8 : decode b_Parts_positionAt 8 = .ok (.aload_n 0, 1) := by decide +kernel
theorem d_Parts_positionAt_9 : decode b_Parts_positionAt 9 = .ok (.getfield 30, 3) := by decide +kernel
theorem d_Parts_positionAt_12 : decode b_Parts_positionAt 12 = .ok (.iload_n 1, 1) := by decide +kernel
theorem d_Parts_positionAt_13 : decode b_Parts_positionAt 13 = .ok (.laload, 1) := by decide +kernel
theorem d_Parts_positionAt_14 : decode b_Parts_positionAt 14 = .ok (.goto 6, 3) := by decide +kernel
theorem d_Parts_positionAt_17 : decode b_Parts_positionAt 17 = .ok (.ldc2_w 50, 3) := by decide +kernel
theorem d_Parts_positionAt_20 : decode b_Parts_positionAt 20 = .ok (.lreturn, 1) := by decide +kernel
theorem d_Parts_rowAt_0 : decode b_Parts_rowAt 0 = .ok (.aload_n 0, 1) := by decide +kernel
theorem d_Parts_rowAt_1 : decode b_Parts_rowAt 1 = .ok (.iload_n 1, 1) := by decide +kernel
theorem d_Parts_rowAt_2 : decode b_Parts_rowAt 2 = .ok (.invokevirtual 46, 3) := by decide +kernel
theorem d_Parts_rowAt_5 : decode b_Parts_rowAt 5 = .ok (.ifCond .eq 12, 3) := by decide +kernel
theorem d_Parts_rowAt_8 : decode b_Parts_rowAt 8 = .ok (.aload_n 0, 1) := by decide +kernel
theorem d_Parts_rowAt_9 : decode b_Parts_rowAt 9 = .ok (.getfield 27, 3) := by decide +kernel
theorem d_Parts_rowAt_12 : decode b_Parts_rowAt 12 = .ok (.iload_n 1, 1) := by decide +kernel
theorem d_Parts_rowAt_13 : decode b_Parts_rowAt 13 = .ok (.iaload, 1) := by decide +kernel
theorem d_Parts_rowAt_14 : decode b_Parts_rowAt 14 = .ok (.goto 4, 3) := by decide +kernel
theorem d_Parts_rowAt_17 : decode b_Parts_rowAt 17 = .ok (.iconst (-1), 1) := by decide +kernel
theorem d_Parts_rowAt_18 : decode b_Parts_rowAt 18 = .ok (.ireturn, 1) := by decide +kernel
theorem d_Parts_shorten_0 : decode b_Parts_shorten 0 = .ok (.aload_n 0, 1) := by decide +kernel
theorem d_Parts_shorten_1 : decode b_Parts_shorten 1 = .ok (.iconst 0, 1) := by decide +kernel
theorem d_Parts_shorten_2 : decode b_Parts_shorten 2 = .ok (.aload_n 0, 1) := by decide +kernel
theorem d_Parts_shorten_3 : decode b_Parts_shorten 3 = .ok (.getfield 34, 3) := by decide +kernel
theorem d_Parts_shorten_6 : decode b_Parts_shorten 6 = .ok (.iload_n 1, 1) := by decide +kernel
theorem d_Parts_shorten_7 : decode b_Parts_shorten 7 = .ok (.invokestatic 56, 3) := by decide +kernel
theorem d_Parts_shorten_10 : decode b_Parts_shorten 10 = .ok (.invokestatic 9, 3) := by decide +kernel
theorem d_Parts_shorten_13 : decode b_Parts_shorten 13 = .ok (.putfield 34, 3) := by decide +kernel
theorem d_Parts_shorten_16 : decode b_Parts_shorten 16 = .ok (.return_, 1) := by decide +kernel
theorem d_Parts_size_0 : decode b_Parts_size 0 = .ok (.aload_n 0, 1) := by decide +kernel
theorem d_Parts_size_1 : decode b_Parts_size 1 = .ok (.getfield 34, 3) := by decide +kernel
theorem d_Parts_size_4 : decode b_Parts_size 4 = .ok (.ireturn, 1) := by decide +kernel
theorem d_Marks_init_0 : decode b_Marks_init 0 = .ok (.aload_n 0, 1) := by decide +kernel
theorem d_Marks_init_1 : decode b_Marks_init 1 = .ok (.invokespecial 3, 3) := by decide +kernel
theorem d_Marks_init_4 : decode b_Marks_init 4 = .ok (.iconst 0, 1) := by decide +kernel
theorem d_Marks_init_5 : decode b_Marks_init 5 = .ok (.iload_n 1, 1) := by decide +kernel
theorem d_Marks_init_6 : decode b_Marks_init 6 = .ok (.invokestatic 9, 3) := by decide +kernel
theorem d_Marks_init_9 : decode b_Marks_init 9 = .ok (.istore_n 2, 1) := by decide +kernel
theorem d_Marks_init_10 : decode b_Marks_init 10 = .ok (.aload_n 0, 1) := by decide +kernel
theorem d_Marks_init_11 : decode b_Marks_init 11 = .ok (.iload_n 2, 1) := by decide +kernel
theorem d_Marks_init_12 : decode b_Marks_init 12 = .ok (.newarray .int, 2) := by decide +kernel
theorem d_Marks_init_14 : decode b_Marks_init 14 = .ok (.putfield 15, 3) := by decide +kernel
theorem d_Marks_init_17 : decode b_Marks_init 17 = .ok (.aload_n 0, 1) := by decide +kernel
theorem d_Marks_init_18 : decode b_Marks_init 18 = .ok (.iload_n 2, 1) := by decide +kernel
theorem d_Marks_init_19 : decode b_Marks_init 19 = .ok (.newarray .int, 2) := by decide +kernel
theorem d_Marks_init_21 : decode b_Marks_init 21 = .ok (.putfield 21, 3) := by decide +kernel
theorem d_Marks_init_24 : decode b_Marks_init 24 = .ok (.aload_n 0, 1) := by decide +kernel
theorem d_Marks_init_25 : decode b_Marks_init 25 = .ok (.iload_n 2, 1) := by decide +kernel
theorem d_Marks_init_26 : decode b_Marks_init 26 = .ok (.newarray .int, 2) := by decide +kernel
theorem d_Marks_init_28 : decode b_Marks_init 28 = .ok (.putfield 24, 3) := by decide +kernel
theorem d_Marks_init_31 : decode b_Marks_init 31 = .ok (.aload_n 0, 1) := by decide +kernel
theorem d_Marks_init_32 : decode b_Marks_init 32 = .ok (.iload_n 2, 1) := by decide +kernel
theorem d_Marks_init_33 : decode b_Marks_init 33 = .ok (.newarray .long, 2) := by decide +kernel
theorem d_Marks_init_35 : decode b_Marks_init 35 = .ok (.putfield 27, 3) := by decide +kernel
theorem d_Marks_init_38 : decode b_Marks_init 38 = .ok (.aload_n 0, 1) := by decide +kernel
theorem d_Marks_init_39 : decode b_Marks_init 39 = .ok (.iload_n 2, 1) := by decide +kernel
theorem d_Marks_init_40 : decode b_Marks_init 40 = .ok (.bipush 12, 2) := by decide +kernel
theorem d_Marks_init_42 : decode b_Marks_init 42 = .ok (.imul, 1) := by decide +kernel
theorem d_Marks_init_43 : decode b_Marks_init 43 = .ok (.newarray .int, 2) := by decide +kernel
theorem d_Marks_init_45 : decode b_Marks_init 45 = .ok (.putfield 31, 3) := by decide +kernel
theorem d_Marks_init_48 : decode b_Marks_init 48 = .ok (.return_, 1) := by decide +kernel
theorem d_Marks_add_0 : decode b_Marks_add 0 = .ok (.aload_n 0, 1) := by decide +kernel
theorem d_Marks_add_1 : decode b_Marks_add 1 = .ok (.getfield 34, 3) := by decide +kernel
theorem d_Marks_add_4 : decode b_Marks_add 4 = .ok (.aload_n 0, 1) := by decide +kernel
theorem d_Marks_add_5 : decode b_Marks_add 5 = .ok (.getfield 15, 3) := by decide +kernel
theorem d_Marks_add_8 : decode b_Marks_add 8 = .ok (.arraylength, 1) := by decide +kernel
theorem d_Marks_add_9 : decode b_Marks_add 9 = .ok (.if_icmp .lt 5, 3) := by decide +kernel
theorem d_Marks_add_12 : decode b_Marks_add 12 = .ok (.iconst (-1), 1) := by decide +kernel
theorem d_Marks_add_13 : decode b_Marks_add 13 = .ok (.ireturn, 1) := by decide +kernel
theorem d_Marks_add_14 : decode b_Marks_add 14 = .ok (.aload_n 0, 1) := by decide +kernel
theorem d_Marks_add_15 : decode b_Marks_add 15 = .ok (.getfield 15, 3) := by decide +kernel
theorem d_Marks_add_18 : decode b_Marks_add 18 = .ok (.aload_n 0, 1) := by decide +kernel
theorem d_Marks_add_19 : decode b_Marks_add 19 = .ok (.getfield 34, 3) := by decide +kernel
theorem d_Marks_add_22 : decode b_Marks_add 22 = .ok (.iload_n 1, 1) := by decide +kernel
theorem d_Marks_add_23 : decode b_Marks_add 23 = .ok (.invokestatic 38, 3) := by decide +kernel
theorem d_Marks_add_26 : decode b_Marks_add 26 = .ok (.istore 6, 2) := by decide +kernel
theorem d_Marks_add_28 : decode b_Marks_add 28 = .ok (.aload_n 0, 1) := by decide +kernel
theorem d_Marks_add_29 : decode b_Marks_add 29 = .ok (.dup, 1) := by decide +kernel
theorem d_Marks_add_30 : decode b_Marks_add 30 = .ok (.getfield 34, 3) := by decide +kernel
theorem d_Marks_add_33 : decode b_Marks_add 33 = .ok (.iconst 1, 1) := by decide +kernel
theorem d_Marks_add_34 : decode b_Marks_add 34 = .ok (.iadd, 1) := by decide +kernel
theorem d_Marks_add_35 : decode b_Marks_add 35 = .ok (.putfield 34, 3) := by decide +kernel
theorem d_Marks_add_38 : decode b_Marks_add 38 = .ok (.aload_n 0, 1) := by decide +kernel
theorem d_Marks_add_39 : decode b_Marks_add 39 = .ok (.getfield 34, 3) := by decide +kernel
theorem d_Marks_add_42 : decode b_Marks_add 42 = .ok (.iconst 1, 1) := by decide +kernel
theorem d_Marks_add_43 : decode b_Marks_add 43 = .ok (.isub, 1) := by decide +kernel
theorem d_Marks_add_44 : decode b_Marks_add 44 = .ok (.istore 7, 2) := by decide +kernel
theorem d_Marks_add_46 : decode b_Marks_add 46 = .ok (.iload 7, 2) := by decide +kernel
theorem d_Marks_add_48 : decode b_Marks_add 48 = .ok (.iload 6, 2) := by decide +kernel
theorem d_Marks_add_50 : decode b_Marks_add 50 = .ok (.if_icmp .le 19, 3) := by decide +kernel
theorem d_Marks_add_53 : decode b_Marks_add 53 = .ok (.aload_n 0, 1) := by decide +kernel
theorem d_Marks_add_54 : decode b_Marks_add 54 = .ok (.iload 7, 2) := by decide +kernel
theorem d_Marks_add_56 : decode b_Marks_add 56 = .ok (.iconst 1, 1) := by decide +kernel
theorem d_Marks_add_57 : decode b_Marks_add 57 = .ok (.isub, 1) := by decide +kernel
theorem d_Marks_add_58 : decode b_Marks_add 58 = .ok (.iload 7, 2) := by decide +kernel
theorem d_Marks_add_60 : decode b_Marks_add 60 = .ok (.invokevirtual 53, 3) := by decide +kernel
theorem d_Marks_add_63 : decode b_Marks_add 63 = .ok (.iinc 7 (-1), 3) := by decide +kernel
theorem d_Marks_add_66 : decode b_Marks_add 66 = .ok (.goto (-20), 3) := by decide +kernel
theorem d_Marks_add_69 : decode b_Marks_add 69 = .ok (.aload_n 0, 1) := by decide +kernel
theorem d_Marks_add_70 : decode b_Marks_add 70 = .ok (.iload 6, 2) := by decide +kernel
theorem d_Marks_add_72 : decode b_Marks_add 72 = .ok (.invokevirtual 46, 3) := by decide +kernel
theorem d_Marks_add_75 : decode b_Marks_add 75 = .ok (.ifCond .ne 5, 3) := by decide +kernel
theorem d_Marks_add_78 : decode b_Marks_add 78 = .ok (.iconst (-1), 1) := by decide +kernel
theorem d_Marks_add_79 : decode b_Marks_add 79 = .ok (.ireturn, 1) := by decide +kernel
theorem d_Marks_add_80 : decode b_Marks_add 80 = .ok (.aload_n 0, 1) := by decide +kernel
theorem d_Marks_add_81 : decode b_Marks_add 81 = .ok (.getfield 15, 3) := by decide +kernel
theorem d_Marks_add_84 : decode b_Marks_add 84 = .ok (.iload 6, 2) := by decide +kernel
theorem d_Marks_add_86 : decode b_Marks_add 86 = .ok (.iload_n 1, 1) := by decide +kernel
theorem d_Marks_add_87 : decode b_Marks_add 87 = .ok (.iastore, 1) := by decide +kernel
theorem d_Marks_add_88 : decode b_Marks_add 88 = .ok (.aload_n 0, 1) := by decide +kernel
theorem d_Marks_add_89 : decode b_Marks_add 89 = .ok (.getfield 21, 3) := by decide +kernel
theorem d_Marks_add_92 : decode b_Marks_add 92 = .ok (.iload 6, 2) := by decide +kernel
theorem d_Marks_add_94 : decode b_Marks_add 94 = .ok (.iconst 0, 1) := by decide +kernel
theorem d_Marks_add_95 : decode b_Marks_add 95 = .ok (.bipush 12, 2) := by decide +kernel
theorem d_Marks_add_97 : decode b_Marks_add 97 = .ok (.iload_n 2, 1) := by decide +kernel
theorem d_Marks_add_98 : decode b_Marks_add 98 = .ok (.invokestatic 57, 3) := by decide +kernel
theorem d_Marks_add_101 : decode b_Marks_add 101 = .ok (.invokestatic 9, 3) := by decide +kernel
theorem d_Marks_add_104 : decode b_Marks_add 104 = .ok (.iastore, 1) := by decide +kernel
theorem d_Marks_add_105 : decode b_Marks_add 105 = .ok (.aload_n 0, 1) := by decide +kernel
theorem d_Marks_add_106 : decode b_Marks_add 106 = .ok (.getfield 24, 3) := by decide +kernel
theorem d_Marks_add_109 : decode b_Marks_add 109 = .ok (.iload 6, 2) := by decide +kernel
theorem d_Marks_add_111 : decode b_Marks_add 111 = .ok (.iload_n 3, 1) := by decide +kernel
theorem d_Marks_add_112 : decode b_Marks_add 112 = .ok (.iastore, 1) := by decide +kernel
theorem d_Marks_add_113 : decode b_Marks_add 113 = .ok (.aload_n 0, 1) := by decide +kernel
theorem d_Marks_add_114 : decode b_Marks_add 114 = .ok (.getfield 27, 3) := by decide +kernel
theorem d_Marks_add_117 : decode b_Marks_add 117 = .ok (.iload 6, 2) := by decide +kernel
theorem d_Marks_add_119 : decode b_Marks_add 119 = .ok (.lload 4, 2) := by decide +kernel
theorem d_Marks_add_121 : decode b_Marks_add 121 = .ok (.lastore, 1) := by decide +kernel
theorem d_Marks_add_122 : decode b_Marks_add 122 = .ok (.iload 6, 2) := by decide +kernel
theorem d_Marks_add_124 : decode b_Marks_add 124 = .ok (.ireturn, 1) := by decide +kernel
theorem d_Marks_countAt_0 : decode b_Marks_countAt 0 = .ok (.aload_n 0, 1) := by decide +kernel
theorem d_Marks_countAt_1 : decode b_Marks_countAt 1 = .ok (.iload_n 1, 1) := by decide +kernel
theorem d_Marks_countAt_2 : decode b_Marks_countAt 2 = .ok (.invokevirtual 46, 3) := by decide +kernel
theorem d_Marks_countAt_5 : decode b_Marks_countAt 5 = .ok (.ifCond .eq 12, 3) := by decide +kernel
theorem d_Marks_countAt_8 : decode b_Marks_countAt 8 = .ok (.aload_n 0, 1) := by decide +kernel
theorem d_Marks_countAt_9 : decode b_Marks_countAt 9 = .ok (.getfield 21, 3) := by decide +kernel
theorem d_Marks_countAt_12 : decode b_Marks_countAt 12 = .ok (.iload_n 1, 1) := by decide +kernel
theorem d_Marks_countAt_13 : decode b_Marks_countAt 13 = .ok (.iaload, 1) := by decide +kernel
theorem d_Marks_countAt_14 : decode b_Marks_countAt 14 = .ok (.goto 4, 3) := by decide +kernel
theorem d_Marks_countAt_17 : decode b_Marks_countAt 17 = .ok (.iconst 0, 1) := by decide +kernel
theorem d_Marks_countAt_18 : decode b_Marks_countAt 18 = .ok (.ireturn, 1) := by decide +kernel
theorem d_Marks_countNaming_0 : decode b_Marks_countNaming 0 = .ok (.iconst 0, 1) := by decide +kernel
theorem d_Marks_countNaming_1 : decode b_Marks_countNaming 1 = .ok (.istore_n 2, 1) := by decide +kernel
theorem d_Marks_countNaming_2 : decode b_Marks_countNaming 2 = .ok (.iconst 0, 1) := by decide +kernel
theorem d_Marks_countNaming_3 : decode b_Marks_countNaming 3 = .ok (.istore_n 3, 1) := by decide +kernel
theorem d_Marks_countNaming_4 : decode b_Marks_countNaming 4 = .ok (.iload_n 3, 1) := by decide +kernel
theorem d_Marks_countNaming_5 : decode b_Marks_countNaming 5 = .ok (.aload_n 0, 1) := by decide +kernel
theorem d_Marks_countNaming_6 : decode b_Marks_countNaming 6 = .ok (.getfield 34, 3) := by decide +kernel
theorem d_Marks_countNaming_9 : decode b_Marks_countNaming 9 = .ok (.if_icmp .ge 21, 3) := by decide +kernel
theorem d_Marks_countNaming_12 : decode b_Marks_countNaming 12 = .ok (.aload_n 0, 1) := by decide +kernel
theorem d_Marks_countNaming_13 : decode b_Marks_countNaming 13 = .ok (.iload_n 3, 1) := by decide +kernel
theorem d_Marks_countNaming_14 : decode b_Marks_countNaming 14 = .ok (.iload_n 1, 1) := by decide +kernel
theorem d_Marks_countNaming_15 : decode b_Marks_countNaming 15 = .ok (.invokevirtual 60, 3) := by decide +kernel
theorem d_Marks_countNaming_18 : decode b_Marks_countNaming 18 = .ok (.ifCond .eq 6, 3) := by decide +kernel
theorem d_Marks_countNaming_21 : decode b_Marks_countNaming 21 = .ok (.iinc 2 1, 3) := by decide +kernel
theorem d_Marks_countNaming_24 : decode b_Marks_countNaming 24 = .ok (.iinc 3 1, 3) := by decide +kernel
theorem d_Marks_countNaming_27 : decode b_Marks_countNaming 27 = .ok (.goto (-23), 3) := by decide +kernel
theorem d_Marks_countNaming_30 : decode b_Marks_countNaming 30 = .ok (.iload_n 2, 1) := by decide +kernel
theorem d_Marks_countNaming_31 : decode b_Marks_countNaming 31 = .ok (.ireturn, 1) := by decide +kernel
theorem d_Marks_digestAt_0 : decode b_Marks_digestAt 0 = .ok (.aload_n 0, 1) := by decide +kernel
theorem d_Marks_digestAt_1 : decode b_Marks_digestAt 1 = .ok (.iload_n 1, 1) := by decide +kernel
theorem d_Marks_digestAt_2 : decode b_Marks_digestAt 2 = .ok (.invokevirtual 46, 3) := by decide +kernel
theorem d_Marks_digestAt_5 : decode b_Marks_digestAt 5 = .ok (.ifCond .eq 12, 3) := by decide +kernel
theorem d_Marks_digestAt_8 : decode b_Marks_digestAt 8 = .ok (.aload_n 0, 1) := by decide +kernel
theorem d_Marks_digestAt_9 : decode b_Marks_digestAt 9 = .ok (.getfield 27, 3) := by decide +kernel
theorem d_Marks_digestAt_12 : decode b_Marks_digestAt 12 = .ok (.iload_n 1, 1) := by decide +kernel
theorem d_Marks_digestAt_13 : decode b_Marks_digestAt 13 = .ok (.laload, 1) := by decide +kernel
theorem d_Marks_digestAt_14 : decode b_Marks_digestAt 14 = .ok (.goto 4, 3) := by decide +kernel
theorem d_Marks_digestAt_17 : decode b_Marks_digestAt 17 = .ok (.lconst 0, 1) := by decide +kernel
theorem d_Marks_digestAt_18 : decode b_Marks_digestAt 18 = .ok (.lreturn, 1) := by decide +kernel
theorem d_Marks_find_0 : decode b_Marks_find 0 = .ok (.aload_n 0, 1) := by decide +kernel
theorem d_Marks_find_1 : decode b_Marks_find 1 = .ok (.getfield 15, 3) := by decide +kernel
theorem d_Marks_find_4 : decode b_Marks_find 4 = .ok (.aload_n 0, 1) := by decide +kernel
theorem d_Marks_find_5 : decode b_Marks_find 5 = .ok (.getfield 34, 3) := by decide +kernel
theorem d_Marks_find_8 : decode b_Marks_find 8 = .ok (.iload_n 1, 1) := by decide +kernel
theorem d_Marks_find_9 : decode b_Marks_find 9 = .ok (.invokestatic 38, 3) := by decide +kernel
theorem d_Marks_find_12 : decode b_Marks_find 12 = .ok (.istore_n 2, 1) := by decide +kernel
theorem d_Marks_find_13 : decode b_Marks_find 13 = .ok (.aload_n 0, 1) := by decide +kernel
theorem d_Marks_find_14 : decode b_Marks_find 14 = .ok (.iload_n 2, 1) := by decide +kernel
theorem d_Marks_find_15 : decode b_Marks_find 15 = .ok (.invokevirtual 42, 3) := by decide +kernel
theorem d_Marks_find_18 : decode b_Marks_find 18 = .ok (.iload_n 1, 1) := by decide +kernel
theorem d_Marks_find_19 : decode b_Marks_find 19 = .ok (.if_icmp .ne 15, 3) := by decide +kernel
theorem d_Marks_find_22 : decode b_Marks_find 22 = .ok (.iload_n 2, 1) := by decide +kernel
theorem d_Marks_find_23 : decode b_Marks_find 23 = .ok (.aload_n 0, 1) := by decide +kernel
theorem d_Marks_find_24 : decode b_Marks_find 24 = .ok (.getfield 34, 3) := by decide +kernel
theorem d_Marks_find_27 : decode b_Marks_find 27 = .ok (.if_icmp .ge 7, 3) := by decide +kernel
theorem d_Marks_find_30 : decode b_Marks_find 30 = .ok (.iload_n 2, 1) := by decide +kernel
theorem d_Marks_find_31 : decode b_Marks_find 31 = .ok (.goto 4, 3) := by decide +kernel
theorem d_Marks_find_34 : decode b_Marks_find 34 = .ok (.iconst (-1), 1) := by decide +kernel
theorem d_Marks_find_35 : decode b_Marks_find 35 = .ok (.ireturn, 1) := by decide +kernel
theorem d_Marks_greatestPart_0 : decode b_Marks_greatestPart 0 = .ok (.iconst 0, 1) := by decide +kernel
theorem d_Marks_greatestPart_1 : decode b_Marks_greatestPart 1 = .ok (.istore_n 1, 1) := by decide +kernel
theorem d_Marks_greatestPart_2 : decode b_Marks_greatestPart 2 = .ok (.iconst 0, 1) := by decide +kernel
theorem d_Marks_greatestPart_3 : decode b_Marks_greatestPart 3 = .ok (.istore_n 2, 1) := by decide +kernel
theorem d_Marks_greatestPart_4 : decode b_Marks_greatestPart 4 = .ok (.iload_n 2, 1) := by decide +kernel
theorem d_Marks_greatestPart_5 : decode b_Marks_greatestPart 5 = .ok (.aload_n 0, 1) := by decide +kernel
theorem d_Marks_greatestPart_6 : decode b_Marks_greatestPart 6 = .ok (.getfield 34, 3) := by decide +kernel
theorem d_Marks_greatestPart_9 : decode b_Marks_greatestPart 9 = .ok (.if_icmp .ge 26, 3) := by decide +kernel
theorem d_Marks_greatestPart_12 : decode b_Marks_greatestPart 12 = .ok (.iload_n 1, 1) := by decide +kernel
theorem d_Marks_greatestPart_13 : decode b_Marks_greatestPart 13 = .ok (.aload_n 0, 1) := by decide +kernel
theorem d_Marks_greatestPart_14 : decode b_Marks_greatestPart 14 = .ok (.iload_n 2, 1) := by decide +kernel
theorem d_Marks_greatestPart_15 : decode b_Marks_greatestPart 15 = .ok (.aload_n 0, 1) := by decide +kernel
theorem d_Marks_greatestPart_16 : decode b_Marks_greatestPart 16 = .ok (.iload_n 2, 1) := by decide +kernel
theorem d_Marks_greatestPart_17 : decode b_Marks_greatestPart 17 = .ok (.invokevirtual 50, 3) := by decide +kernel
theorem d_Marks_greatestPart_20 : decode b_Marks_greatestPart 20 = .ok (.iconst 1, 1) := by decide +kernel
theorem d_Marks_greatestPart_21 : decode b_Marks_greatestPart 21 = .ok (.isub, 1) := by decide +kernel
theorem d_Marks_greatestPart_22 : decode b_Marks_greatestPart 22 = .ok (.invokevirtual 64, 3) := by decide +kernel
theorem d_Marks_greatestPart_25 : decode b_Marks_greatestPart 25 = .ok (.invokestatic 9, 3) := by decide +kernel
theorem d_Marks_greatestPart_28 : decode b_Marks_greatestPart 28 = .ok (.istore_n 1, 1) := by decide +kernel
theorem d_Marks_greatestPart_29 : decode b_Marks_greatestPart 29 = .ok (.iinc 2 1, 3) := by decide +kernel
theorem d_Marks_greatestPart_32 : decode b_Marks_greatestPart 32 = .ok (.goto (-28), 3) := by decide +kernel
theorem d_Marks_greatestPart_35 : decode b_Marks_greatestPart 35 = .ok (.iload_n 1, 1) := by decide +kernel
theorem d_Marks_greatestPart_36 : decode b_Marks_greatestPart 36 = .ok (.ireturn, 1) := by decide +kernel
theorem d_Marks_has_0 : decode b_Marks_has 0 = .ok (.iload_n 1, 1) := by decide +kernel
theorem d_Marks_has_1 : decode b_Marks_has 1 = .ok (.ifCond .lt 24, 3) := by decide +kernel
theorem d_Marks_has_4 : decode b_Marks_has 4 = .ok (.iload_n 1, 1) := by decide +kernel
theorem d_Marks_has_5 : decode b_Marks_has 5 = .ok (.aload_n 0, 1) := by decide +kernel
theorem d_Marks_has_6 : decode b_Marks_has 6 = .ok (.getfield 34, 3) := by decide +kernel
theorem d_Marks_has_9 : decode b_Marks_has 9 = .ok (.if_icmp .ge 16, 3) := by decide +kernel
theorem d_Marks_has_12 : decode b_Marks_has 12 = .ok (.iload_n 1, 1) := by decide +kernel
theorem d_Marks_has_13 : decode b_Marks_has 13 = .ok (.aload_n 0, 1) := by decide +kernel
theorem d_Marks_has_14 : decode b_Marks_has 14 = .ok (.getfield 15, 3) := by decide +kernel
theorem d_Marks_has_17 : decode b_Marks_has 17 = .ok (.arraylength, 1) := by decide +kernel
theorem d_Marks_has_18 : decode b_Marks_has 18 = .ok (.if_icmp .ge 7, 3) := by decide +kernel
theorem d_Marks_has_21 : decode b_Marks_has 21 = .ok (.iconst 1, 1) := by decide +kernel
theorem d_Marks_has_22 : decode b_Marks_has 22 = .ok (.goto 4, 3) := by decide +kernel
theorem d_Marks_has_25 : decode b_Marks_has 25 = .ok (.iconst 0, 1) := by decide +kernel
theorem d_Marks_has_26 : decode b_Marks_has 26 = .ok (.ireturn, 1) := by decide +kernel
theorem d_Marks_isNaming_0 : decode b_Marks_isNaming 0 = .ok (.iconst 0, 1) := by decide +kernel
theorem d_Marks_isNaming_1 : decode b_Marks_isNaming 1 = .ok (.istore_n 3, 1) := by decide +kernel
theorem d_Marks_isNaming_2 : decode b_Marks_isNaming 2 = .ok (.iload_n 3, 1) := by decide +kernel
theorem d_Marks_isNaming_3 : decode b_Marks_isNaming 3 = .ok (.aload_n 0, 1) := by decide +kernel
theorem d_Marks_isNaming_4 : decode b_Marks_isNaming 4 = .ok (.iload_n 1, 1) := by decide +kernel
theorem d_Marks_isNaming_5 : decode b_Marks_isNaming 5 = .ok (.invokevirtual 50, 3) := by decide +kernel
theorem d_Marks_isNaming_8 : decode b_Marks_isNaming 8 = .ok (.if_icmp .ge 21, 3) := by decide +kernel
theorem d_Marks_isNaming_11 : decode b_Marks_isNaming 11 = .ok (.aload_n 0, 1) := by decide +kernel
theorem d_Marks_isNaming_12 : decode b_Marks_isNaming 12 = .ok (.iload_n 1, 1) := by decide +kernel
theorem d_Marks_isNaming_13 : decode b_Marks_isNaming 13 = .ok (.iload_n 3, 1) := by decide +kernel
theorem d_Marks_isNaming_14 : decode b_Marks_isNaming 14 = .ok (.invokevirtual 64, 3) := by decide +kernel
theorem d_Marks_isNaming_17 : decode b_Marks_isNaming 17 = .ok (.iload_n 2, 1) := by decide +kernel
theorem d_Marks_isNaming_18 : decode b_Marks_isNaming 18 = .ok (.if_icmp .ne 5, 3) := by decide +kernel
theorem d_Marks_isNaming_21 : decode b_Marks_isNaming 21 = .ok (.iconst 1, 1) := by decide +kernel
theorem d_Marks_isNaming_22 : decode b_Marks_isNaming 22 = .ok (.ireturn, 1) := by decide +kernel
theorem d_Marks_isNaming_23 : decode b_Marks_isNaming 23 = .ok (.iinc 3 1, 3) := by decide +kernel
theorem d_Marks_isNaming_26 : decode b_Marks_isNaming 26 = .ok (.goto (-24), 3) := by decide +kernel
theorem d_Marks_isNaming_29 : decode b_Marks_isNaming 29 = .ok (.iconst 0, 1) := by decide +kernel
theorem d_Marks_isNaming_30 : decode b_Marks_isNaming 30 = .ok (.ireturn, 1) := by decide +kernel
theorem d_Marks_move_0 : decode b_Marks_move 0 = .ok (.aload_n 0, 1) := by decide +kernel
theorem d_Marks_move_1 : decode b_Marks_move 1 = .ok (.iload_n 1, 1) := by decide +kernel
theorem d_Marks_move_2 : decode b_Marks_move 2 = .ok (.invokevirtual 46, 3) := by decide +kernel
theorem d_Marks_move_5 : decode b_Marks_move 5 = .ok (.ifCond .eq 11, 3) := by decide +kernel
theorem d_Marks_move_8 : decode b_Marks_move 8 = .ok (.aload_n 0, 1) := by decide +kernel
theorem d_Marks_move_9 : decode b_Marks_move 9 = .ok (.iload_n 2, 1) := by decide +kernel
theorem d_Marks_move_10 : decode b_Marks_move 10 = .ok (.invokevirtual 46, 3) := by decide +kernel
theorem d_Marks_move_13 : decode b_Marks_move 13 = .ok (.ifCond .ne 4, 3) := by decide +kernel
theorem d_Marks_move_16 : decode b_Marks_move 16 = .ok (.return_, 1) := by decide +kernel
theorem d_Marks_move_17 : decode b_Marks_move 17 = .ok (.aload_n 0, 1) := by decide +kernel
theorem d_Marks_move_18 : decode b_Marks_move 18 = .ok (.getfield 15, 3) := by decide +kernel
theorem d_Marks_move_21 : decode b_Marks_move 21 = .ok (.iload_n 2, 1) := by decide +kernel
theorem d_Marks_move_22 : decode b_Marks_move 22 = .ok (.aload_n 0, 1) := by decide +kernel
theorem d_Marks_move_23 : decode b_Marks_move 23 = .ok (.getfield 15, 3) := by decide +kernel
theorem d_Marks_move_26 : decode b_Marks_move 26 = .ok (.iload_n 1, 1) := by decide +kernel
theorem d_Marks_move_27 : decode b_Marks_move 27 = .ok (.iaload, 1) := by decide +kernel
theorem d_Marks_move_28 : decode b_Marks_move 28 = .ok (.iastore, 1) := by decide +kernel
theorem d_Marks_move_29 : decode b_Marks_move 29 = .ok (.aload_n 0, 1) := by decide +kernel
theorem d_Marks_move_30 : decode b_Marks_move 30 = .ok (.getfield 21, 3) := by decide +kernel
theorem d_Marks_move_33 : decode b_Marks_move 33 = .ok (.iload_n 2, 1) := by decide +kernel
theorem d_Marks_move_34 : decode b_Marks_move 34 = .ok (.aload_n 0, 1) := by decide +kernel
theorem d_Marks_move_35 : decode b_Marks_move 35 = .ok (.getfield 21, 3) := by decide +kernel
theorem d_Marks_move_38 : decode b_Marks_move 38 = .ok (.iload_n 1, 1) := by decide +kernel
theorem d_Marks_move_39 : decode b_Marks_move 39 = .ok (.iaload, 1) := by decide +kernel
theorem d_Marks_move_40 : decode b_Marks_move 40 = .ok (.iastore, 1) := by decide +kernel
theorem d_Marks_move_41 : decode b_Marks_move 41 = .ok (.aload_n 0, 1) := by decide +kernel
theorem d_Marks_move_42 : decode b_Marks_move 42 = .ok (.getfield 24, 3) := by decide +kernel
theorem d_Marks_move_45 : decode b_Marks_move 45 = .ok (.iload_n 2, 1) := by decide +kernel
theorem d_Marks_move_46 : decode b_Marks_move 46 = .ok (.aload_n 0, 1) := by decide +kernel
theorem d_Marks_move_47 : decode b_Marks_move 47 = .ok (.getfield 24, 3) := by decide +kernel
theorem d_Marks_move_50 : decode b_Marks_move 50 = .ok (.iload_n 1, 1) := by decide +kernel
theorem d_Marks_move_51 : decode b_Marks_move 51 = .ok (.iaload, 1) := by decide +kernel
theorem d_Marks_move_52 : decode b_Marks_move 52 = .ok (.iastore, 1) := by decide +kernel
theorem d_Marks_move_53 : decode b_Marks_move 53 = .ok (.aload_n 0, 1) := by decide +kernel
theorem d_Marks_move_54 : decode b_Marks_move 54 = .ok (.getfield 27, 3) := by decide +kernel
theorem d_Marks_move_57 : decode b_Marks_move 57 = .ok (.iload_n 2, 1) := by decide +kernel
theorem d_Marks_move_58 : decode b_Marks_move 58 = .ok (.aload_n 0, 1) := by decide +kernel
theorem d_Marks_move_59 : decode b_Marks_move 59 = .ok (.getfield 27, 3) := by decide +kernel
theorem d_Marks_move_62 : decode b_Marks_move 62 = .ok (.iload_n 1, 1) := by decide +kernel
theorem d_Marks_move_63 : decode b_Marks_move 63 = .ok (.laload, 1) := by decide +kernel
theorem d_Marks_move_64 : decode b_Marks_move 64 = .ok (.lastore, 1) := by decide +kernel
theorem d_Marks_move_65 : decode b_Marks_move 65 = .ok (.iconst 0, 1) := by decide +kernel
theorem d_Marks_move_66 : decode b_Marks_move 66 = .ok (.istore_n 3, 1) := by decide +kernel
theorem d_Marks_move_67 : decode b_Marks_move 67 = .ok (.iload_n 3, 1) := by decide +kernel
theorem d_Marks_move_68 : decode b_Marks_move 68 = .ok (.aload_n 0, 1) := by decide +kernel
theorem d_Marks_move_69 : decode b_Marks_move 69 = .ok (.getfield 21, 3) := by decide +kernel
theorem d_Marks_move_72 : decode b_Marks_move 72 = .ok (.iload_n 1, 1) := by decide +kernel
theorem d_Marks_move_73 : decode b_Marks_move 73 = .ok (.iaload, 1) := by decide +kernel
theorem d_Marks_move_74 : decode b_Marks_move 74 = .ok (.if_icmp .ge 31, 3) := by decide +kernel
theorem d_Marks_move_77 : decode b_Marks_move 77 = .ok (.aload_n 0, 1) := by decide +kernel
theorem d_Marks_move_78 : decode b_Marks_move 78 = .ok (.getfield 31, 3) := by decide +kernel
theorem d_Marks_move_81 : decode b_Marks_move 81 = .ok (.iload_n 2, 1) := by decide +kernel
theorem d_Marks_move_82 : decode b_Marks_move 82 = .ok (.bipush 12, 2) := by decide +kernel
theorem d_Marks_move_84 : decode b_Marks_move 84 = .ok (.imul, 1) := by decide +kernel
theorem d_Marks_move_85 : decode b_Marks_move 85 = .ok (.iload_n 3, 1) := by decide +kernel
theorem d_Marks_move_86 : decode b_Marks_move 86 = .ok (.iadd, 1) := by decide +kernel
theorem d_Marks_move_87 : decode b_Marks_move 87 = .ok (.aload_n 0, 1) := by decide +kernel
theorem d_Marks_move_88 : decode b_Marks_move 88 = .ok (.getfield 31, 3) := by decide +kernel
theorem d_Marks_move_91 : decode b_Marks_move 91 = .ok (.iload_n 1, 1) := by decide +kernel
theorem d_Marks_move_92 : decode b_Marks_move 92 = .ok (.bipush 12, 2) := by decide +kernel
theorem d_Marks_move_94 : decode b_Marks_move 94 = .ok (.imul, 1) := by decide +kernel
theorem d_Marks_move_95 : decode b_Marks_move 95 = .ok (.iload_n 3, 1) := by decide +kernel
theorem d_Marks_move_96 : decode b_Marks_move 96 = .ok (.iadd, 1) := by decide +kernel
theorem d_Marks_move_97 : decode b_Marks_move 97 = .ok (.iaload, 1) := by decide +kernel
theorem d_Marks_move_98 : decode b_Marks_move 98 = .ok (.iastore, 1) := by decide +kernel
theorem d_Marks_move_99 : decode b_Marks_move 99 = .ok (.iinc 3 1, 3) := by decide +kernel
theorem d_Marks_move_102 : decode b_Marks_move 102 = .ok (.goto (-35), 3) := by decide +kernel
theorem d_Marks_move_105 : decode b_Marks_move 105 = .ok (.return_, 1) := by decide +kernel
theorem d_Marks_numberAt_0 : decode b_Marks_numberAt 0 = .ok (.aload_n 0, 1) := by decide +kernel
theorem d_Marks_numberAt_1 : decode b_Marks_numberAt 1 = .ok (.iload_n 1, 1) := by decide +kernel
theorem d_Marks_numberAt_2 : decode b_Marks_numberAt 2 = .ok (.invokevirtual 46, 3) := by decide +kernel
theorem d_Marks_numberAt_5 : decode b_Marks_numberAt 5 = .ok (.ifCond .eq 12, 3) := by decide +kernel
theorem d_Marks_numberAt_8 : decode b_Marks_numberAt 8 = .ok (.aload_n 0, 1) := by decide +kernel
theorem d_Marks_numberAt_9 : decode b_Marks_numberAt 9 = .ok (.getfield 15, 3) := by decide +kernel
theorem d_Marks_numberAt_12 : decode b_Marks_numberAt 12 = .ok (.iload_n 1, 1) := by decide +kernel
theorem d_Marks_numberAt_13 : decode b_Marks_numberAt 13 = .ok (.iaload, 1) := by decide +kernel
theorem d_Marks_numberAt_14 : decode b_Marks_numberAt 14 = .ok (.goto 4, 3) := by decide +kernel
theorem d_Marks_numberAt_17 : decode b_Marks_numberAt 17 = .ok (.iconst (-1), 1) := by decide +kernel
theorem d_Marks_numberAt_18 : decode b_Marks_numberAt 18 = .ok (.ireturn, 1) := by decide +kernel
theorem d_Marks_partAt_0 : decode b_Marks_partAt 0 = .ok (.iload_n 2, 1) := by decide +kernel
theorem d_Marks_partAt_1 : decode b_Marks_partAt 1 = .ok (.ifCond .lt 26, 3) := by decide +kernel
theorem d_Marks_partAt_4 : decode b_Marks_partAt 4 = .ok (.iload_n 2, 1) := by decide +kernel
theorem d_Marks_partAt_5 : decode b_Marks_partAt 5 = .ok (.aload_n 0, 1) := by decide +kernel
theorem d_Marks_partAt_6 : decode b_Marks_partAt 6 = .ok (.iload_n 1, 1) := by decide +kernel
theorem d_Marks_partAt_7 : decode b_Marks_partAt 7 = .ok (.invokevirtual 50, 3) := by decide +kernel
theorem d_Marks_partAt_10 : decode b_Marks_partAt 10 = .ok (.if_icmp .ge 17, 3) := by decide +kernel
theorem d_Marks_partAt_13 : decode b_Marks_partAt 13 = .ok (.aload_n 0, 1) := by decide +kernel
theorem d_Marks_partAt_14 : decode b_Marks_partAt 14 = .ok (.getfield 31, 3) := by decide +kernel
theorem d_Marks_partAt_17 : decode b_Marks_partAt 17 = .ok (.iload_n 1, 1) := by decide +kernel
theorem d_Marks_partAt_18 : decode b_Marks_partAt 18 = .ok (.bipush 12, 2) := by decide +kernel
theorem d_Marks_partAt_20 : decode b_Marks_partAt 20 = .ok (.imul, 1) := by decide +kernel
theorem d_Marks_partAt_21 : decode b_Marks_partAt 21 = .ok (.iload_n 2, 1) := by decide +kernel
theorem d_Marks_partAt_22 : decode b_Marks_partAt 22 = .ok (.iadd, 1) := by decide +kernel
theorem d_Marks_partAt_23 : decode b_Marks_partAt 23 = .ok (.iaload, 1) := by decide +kernel
theorem d_Marks_partAt_24 : decode b_Marks_partAt 24 = .ok (.goto 4, 3) := by decide +kernel
theorem d_Marks_partAt_27 : decode b_Marks_partAt 27 = .ok (.iconst (-1), 1) := by decide +kernel
theorem d_Marks_partAt_28 : decode b_Marks_partAt 28 = .ok (.ireturn, 1) := by decide +kernel
theorem d_Marks_remove_0 : decode b_Marks_remove 0 = .ok (.aload_n 0, 1) := by decide +kernel
theorem d_Marks_remove_1 : decode b_Marks_remove 1 = .ok (.iload_n 1, 1) := by decide +kernel
theorem d_Marks_remove_2 : decode b_Marks_remove 2 = .ok (.invokevirtual 46, 3) := by decide +kernel
theorem d_Marks_remove_5 : decode b_Marks_remove 5 = .ok (.ifCond .ne 4, 3) := by decide +kernel
theorem d_Marks_remove_8 : decode b_Marks_remove 8 = .ok (.return_, 1) := by decide +kernel
theorem d_Marks_remove_9 : decode b_Marks_remove 9 = .ok (.iload_n 1, 1) := by decide +kernel
theorem d_Marks_remove_10 : decode b_Marks_remove 10 = .ok (.iconst 1, 1) := by decide +kernel
theorem d_Marks_remove_11 : decode b_Marks_remove 11 = .ok (.iadd, 1) := by decide +kernel
theorem d_Marks_remove_12 : decode b_Marks_remove 12 = .ok (.istore_n 2, 1) := by decide +kernel
theorem d_Marks_remove_13 : decode b_Marks_remove 13 = .ok (.iload_n 2, 1) := by decide +kernel
theorem d_Marks_remove_14 : decode b_Marks_remove 14 = .ok (.aload_n 0, 1) := by decide +kernel
theorem d_Marks_remove_15 : decode b_Marks_remove 15 = .ok (.getfield 34, 3) := by decide +kernel
theorem d_Marks_remove_18 : decode b_Marks_remove 18 = .ok (.if_icmp .ge 17, 3) := by decide +kernel
theorem d_Marks_remove_21 : decode b_Marks_remove 21 = .ok (.aload_n 0, 1) := by decide +kernel
theorem d_Marks_remove_22 : decode b_Marks_remove 22 = .ok (.iload_n 2, 1) := by decide +kernel
theorem d_Marks_remove_23 : decode b_Marks_remove 23 = .ok (.iload_n 2, 1) := by decide +kernel
theorem d_Marks_remove_24 : decode b_Marks_remove 24 = .ok (.iconst 1, 1) := by decide +kernel
theorem d_Marks_remove_25 : decode b_Marks_remove 25 = .ok (.isub, 1) := by decide +kernel
theorem d_Marks_remove_26 : decode b_Marks_remove 26 = .ok (.invokevirtual 53, 3) := by decide +kernel
theorem d_Marks_remove_29 : decode b_Marks_remove 29 = .ok (.iinc 2 1, 3) := by decide +kernel
theorem d_Marks_remove_32 : decode b_Marks_remove 32 = .ok (.goto (-19), 3) := by decide +kernel
theorem d_Marks_remove_35 : decode b_Marks_remove 35 = .ok (.aload_n 0, 1) := by decide +kernel
theorem d_Marks_remove_36 : decode b_Marks_remove 36 = .ok (.dup, 1) := by decide +kernel
theorem d_Marks_remove_37 : decode b_Marks_remove 37 = .ok (.getfield 34, 3) := by decide +kernel
theorem d_Marks_remove_40 : decode b_Marks_remove 40 = .ok (.iconst 1, 1) := by decide +kernel
theorem d_Marks_remove_41 : decode b_Marks_remove 41 = .ok (.isub, 1) := by decide +kernel
theorem d_Marks_remove_42 : decode b_Marks_remove 42 = .ok (.putfield 34, 3) := by decide +kernel
theorem d_Marks_remove_45 : decode b_Marks_remove 45 = .ok (.return_, 1) := by decide +kernel
theorem d_Marks_removeFirst_0 : decode b_Marks_removeFirst 0 = .ok (.iload_n 1, 1) := by decide +kernel
theorem d_Marks_removeFirst_1 : decode b_Marks_removeFirst 1 = .ok (.ifCond .gt 4, 3) := by decide +kernel
theorem d_Marks_removeFirst_4 : decode b_Marks_removeFirst 4 = .ok (.return_, 1) := by decide +kernel
theorem d_Marks_removeFirst_5 : decode b_Marks_removeFirst 5 = .ok (.iload_n 1, 1) := by decide +kernel
theorem d_Marks_removeFirst_6 : decode b_Marks_removeFirst 6 = .ok (.istore_n 2, 1) := by decide +kernel
theorem d_Marks_removeFirst_7 : decode b_Marks_removeFirst 7 = .ok (.iload_n 2, 1) := by decide +kernel
theorem d_Marks_removeFirst_8 : decode b_Marks_removeFirst 8 = .ok (.aload_n 0, 1) := by decide +kernel
theorem d_Marks_removeFirst_9 : decode b_Marks_removeFirst 9 = .ok (.getfield 34, 3) := by decide +kernel
theorem d_Marks_removeFirst_12 : decode b_Marks_removeFirst 12 = .ok (.if_icmp .ge 17, 3) := by decide +kernel
theorem d_Marks_removeFirst_15 : decode b_Marks_removeFirst 15 = .ok (.aload_n 0, 1) := by decide +kernel
theorem d_Marks_removeFirst_16 : decode b_Marks_removeFirst 16 = .ok (.iload_n 2, 1) := by decide +kernel
theorem d_Marks_removeFirst_17 : decode b_Marks_removeFirst 17 = .ok (.iload_n 2, 1) := by decide +kernel
theorem d_Marks_removeFirst_18 : decode b_Marks_removeFirst 18 = .ok (.iload_n 1, 1) := by decide +kernel
theorem d_Marks_removeFirst_19 : decode b_Marks_removeFirst 19 = .ok (.isub, 1) := by decide +kernel
theorem d_Marks_removeFirst_20 : decode b_Marks_removeFirst 20 = .ok (.invokevirtual 53, 3) := by decide +kernel
theorem d_Marks_removeFirst_23 : decode b_Marks_removeFirst 23 = .ok (.iinc 2 1, 3) := by decide +kernel
theorem d_Marks_removeFirst_26 : decode b_Marks_removeFirst 26 = .ok (.goto (-19), 3) := by decide +kernel
theorem d_Marks_removeFirst_29 : decode b_Marks_removeFirst 29 = .ok (.aload_n 0, 1) := by decide +kernel
theorem d_Marks_removeFirst_30 : decode b_Marks_removeFirst 30 = .ok (.iconst 0, 1) := by decide +kernel
theorem d_Marks_removeFirst_31 : decode b_Marks_removeFirst 31 = .ok (.aload_n 0, 1) := by decide +kernel
theorem d_Marks_removeFirst_32 : decode b_Marks_removeFirst 32 = .ok (.getfield 34, 3) := by decide +kernel
theorem d_Marks_removeFirst_35 : decode b_Marks_removeFirst 35 = .ok (.iload_n 1, 1) := by decide +kernel
theorem d_Marks_removeFirst_36 : decode b_Marks_removeFirst 36 = .ok (.isub, 1) := by decide +kernel
theorem d_Marks_removeFirst_37 : decode b_Marks_removeFirst 37 = .ok (.invokestatic 9, 3) := by decide +kernel
theorem d_Marks_removeFirst_40 : decode b_Marks_removeFirst 40 = .ok (.putfield 34, 3) := by decide +kernel
theorem d_Marks_removeFirst_43 : decode b_Marks_removeFirst 43 = .ok (.return_, 1) := by decide +kernel
theorem d_Marks_rowAt_0 : decode b_Marks_rowAt 0 = .ok (.aload_n 0, 1) := by decide +kernel
theorem d_Marks_rowAt_1 : decode b_Marks_rowAt 1 = .ok (.iload_n 1, 1) := by decide +kernel
theorem d_Marks_rowAt_2 : decode b_Marks_rowAt 2 = .ok (.invokevirtual 46, 3) := by decide +kernel
theorem d_Marks_rowAt_5 : decode b_Marks_rowAt 5 = .ok (.ifCond .eq 12, 3) := by decide +kernel
theorem d_Marks_rowAt_8 : decode b_Marks_rowAt 8 = .ok (.aload_n 0, 1) := by decide +kernel
theorem d_Marks_rowAt_9 : decode b_Marks_rowAt 9 = .ok (.getfield 24, 3) := by decide +kernel
theorem d_Marks_rowAt_12 : decode b_Marks_rowAt 12 = .ok (.iload_n 1, 1) := by decide +kernel
theorem d_Marks_rowAt_13 : decode b_Marks_rowAt 13 = .ok (.iaload, 1) := by decide +kernel
theorem d_Marks_rowAt_14 : decode b_Marks_rowAt 14 = .ok (.goto 4, 3) := by decide +kernel
theorem d_Marks_rowAt_17 : decode b_Marks_rowAt 17 = .ok (.iconst (-1), 1) := by decide +kernel
theorem d_Marks_rowAt_18 : decode b_Marks_rowAt 18 = .ok (.ireturn, 1) := by decide +kernel
theorem d_Marks_setPart_0 : decode b_Marks_setPart 0 = .ok (.iload_n 2, 1) := by decide +kernel
theorem d_Marks_setPart_1 : decode b_Marks_setPart 1 = .ok (.ifCond .lt 24, 3) := by decide +kernel
theorem d_Marks_setPart_4 : decode b_Marks_setPart 4 = .ok (.iload_n 2, 1) := by decide +kernel
theorem d_Marks_setPart_5 : decode b_Marks_setPart 5 = .ok (.aload_n 0, 1) := by decide +kernel
theorem d_Marks_setPart_6 : decode b_Marks_setPart 6 = .ok (.iload_n 1, 1) := by decide +kernel
theorem d_Marks_setPart_7 : decode b_Marks_setPart 7 = .ok (.invokevirtual 50, 3) := by decide +kernel
theorem d_Marks_setPart_10 : decode b_Marks_setPart 10 = .ok (.if_icmp .ge 15, 3) := by decide +kernel
theorem d_Marks_setPart_13 : decode b_Marks_setPart 13 = .ok (.aload_n 0, 1) := by decide +kernel
theorem d_Marks_setPart_14 : decode b_Marks_setPart 14 = .ok (.getfield 31, 3) := by decide +kernel
theorem d_Marks_setPart_17 : decode b_Marks_setPart 17 = .ok (.iload_n 1, 1) := by decide +kernel
theorem d_Marks_setPart_18 : decode b_Marks_setPart 18 = .ok (.bipush 12, 2) := by decide +kernel
theorem d_Marks_setPart_20 : decode b_Marks_setPart 20 = .ok (.imul, 1) := by decide +kernel
theorem d_Marks_setPart_21 : decode b_Marks_setPart 21 = .ok (.iload_n 2, 1) := by decide +kernel
theorem d_Marks_setPart_22 : decode b_Marks_setPart 22 = .ok (.iadd, 1) := by decide +kernel
theorem d_Marks_setPart_23 : decode b_Marks_setPart 23 = .ok (.iload_n 3, 1) := by decide +kernel
theorem d_Marks_setPart_24 : decode b_Marks_setPart 24 = .ok (.iastore, 1) := by decide +kernel
theorem d_Marks_setPart_25 : decode b_Marks_setPart 25 = .ok (.return_, 1) := by decide +kernel
theorem d_Marks_size_0 : decode b_Marks_size 0 = .ok (.aload_n 0, 1) := by decide +kernel
theorem d_Marks_size_1 : decode b_Marks_size 1 = .ok (.getfield 34, 3) := by decide +kernel
theorem d_Marks_size_4 : decode b_Marks_size 4 = .ok (.ireturn, 1) := by decide +kernel

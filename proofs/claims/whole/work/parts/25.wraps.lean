theorem dL_make_0 : decode cL_make 0 = .ok (.aload 4, 2) := by decide +kernel
theorem dL_make_2 : decode cL_make 2 = .ok (.iconst 0, 1) := by decide +kernel
theorem dL_make_3 : decode cL_make 3 = .ok (.aload_n 0, 1) := by decide +kernel
theorem dL_make_4 : decode cL_make 4 = .ok (.iload_n 1, 1) := by decide +kernel
theorem dL_make_5 : decode cL_make 5 = .ok (.iload_n 2, 1) := by decide +kernel
theorem dL_make_6 : decode cL_make 6 = .ok (.iload_n 3, 1) := by decide +kernel
theorem dL_make_7 : decode cL_make 7 = .ok (.invokevirtual 7, 3) := by decide +kernel
theorem dL_make_10 : decode cL_make 10 = .ok (.i2l, 1) := by decide +kernel
theorem dL_make_11 : decode cL_make 11 = .ok (.lastore, 1) := by decide +kernel
theorem dL_make_12 : decode cL_make 12 = .ok (.goto 15, 3) := by decide +kernel
theorem dL_make_15 : decode cL_make 15 = .ok (.astore 5, 2) := by decide +kernel
theorem dL_make_17 : decode cL_make 17 = .ok (.iconst 1, 1) := by decide +kernel
theorem dL_make_18 : decode cL_make 18 = .ok (.ireturn, 1) := by decide +kernel
theorem dL_make_19 : decode cL_make 19 = .ok (.astore 5, 2) := by decide +kernel
theorem dL_make_21 : decode cL_make 21 = .ok (.iconst 2, 1) := by decide +kernel
theorem dL_make_22 : decode cL_make 22 = .ok (.ireturn, 1) := by decide +kernel
theorem dL_make_23 : decode cL_make 23 = .ok (.astore 5, 2) := by decide +kernel
theorem dL_make_25 : decode cL_make 25 = .ok (.iconst 3, 1) := by decide +kernel
theorem dL_make_26 : decode cL_make 26 = .ok (.ireturn, 1) := by decide +kernel
theorem dL_make_27 : decode cL_make 27 = .ok (.iconst 0, 1) := by decide +kernel
theorem dL_make_28 : decode cL_make 28 = .ok (.ireturn, 1) := by decide +kernel
theorem dL_snap_0 : decode cL_snap 0 = .ok (.aload_n 3, 1) := by decide +kernel
theorem dL_snap_1 : decode cL_snap 1 = .ok (.iconst 0, 1) := by decide +kernel
theorem dL_snap_2 : decode cL_snap 2 = .ok (.aload_n 0, 1) := by decide +kernel
theorem dL_snap_3 : decode cL_snap 3 = .ok (.iload_n 1, 1) := by decide +kernel
theorem dL_snap_4 : decode cL_snap 4 = .ok (.iload_n 2, 1) := by decide +kernel
theorem dL_snap_5 : decode cL_snap 5 = .ok (.invokevirtual 19, 3) := by decide +kernel
theorem dL_snap_8 : decode cL_snap 8 = .ok (.i2l, 1) := by decide +kernel
theorem dL_snap_9 : decode cL_snap 9 = .ok (.lastore, 1) := by decide +kernel
theorem dL_snap_10 : decode cL_snap 10 = .ok (.goto 11, 3) := by decide +kernel
theorem dL_snap_13 : decode cL_snap 13 = .ok (.astore 4, 2) := by decide +kernel
theorem dL_snap_15 : decode cL_snap 15 = .ok (.iconst 1, 1) := by decide +kernel
theorem dL_snap_16 : decode cL_snap 16 = .ok (.ireturn, 1) := by decide +kernel
theorem dL_snap_17 : decode cL_snap 17 = .ok (.astore 4, 2) := by decide +kernel
theorem dL_snap_19 : decode cL_snap 19 = .ok (.iconst 2, 1) := by decide +kernel
theorem dL_snap_20 : decode cL_snap 20 = .ok (.ireturn, 1) := by decide +kernel
theorem dL_snap_21 : decode cL_snap 21 = .ok (.iconst 0, 1) := by decide +kernel
theorem dL_snap_22 : decode cL_snap 22 = .ok (.ireturn, 1) := by decide +kernel
theorem dL_drop_0 : decode cL_drop 0 = .ok (.aload_n 2, 1) := by decide +kernel
theorem dL_drop_1 : decode cL_drop 1 = .ok (.iconst 0, 1) := by decide +kernel
theorem dL_drop_2 : decode cL_drop 2 = .ok (.aload_n 0, 1) := by decide +kernel
theorem dL_drop_3 : decode cL_drop 3 = .ok (.iload_n 1, 1) := by decide +kernel
theorem dL_drop_4 : decode cL_drop 4 = .ok (.invokevirtual 23, 3) := by decide +kernel
theorem dL_drop_7 : decode cL_drop 7 = .ok (.i2l, 1) := by decide +kernel
theorem dL_drop_8 : decode cL_drop 8 = .ok (.lastore, 1) := by decide +kernel
theorem dL_drop_9 : decode cL_drop 9 = .ok (.goto 6, 3) := by decide +kernel
theorem dL_drop_12 : decode cL_drop 12 = .ok (.astore_n 3, 1) := by decide +kernel
theorem dL_drop_13 : decode cL_drop 13 = .ok (.iconst 1, 1) := by decide +kernel
theorem dL_drop_14 : decode cL_drop 14 = .ok (.ireturn, 1) := by decide +kernel
theorem dL_drop_15 : decode cL_drop 15 = .ok (.iconst 0, 1) := by decide +kernel
theorem dL_drop_16 : decode cL_drop 16 = .ok (.ireturn, 1) := by decide +kernel
theorem dL_resize_0 : decode cL_resize 0 = .ok (.aload_n 3, 1) := by decide +kernel
theorem dL_resize_1 : decode cL_resize 1 = .ok (.iconst 0, 1) := by decide +kernel
theorem dL_resize_2 : decode cL_resize 2 = .ok (.aload_n 0, 1) := by decide +kernel
theorem dL_resize_3 : decode cL_resize 3 = .ok (.iload_n 1, 1) := by decide +kernel
theorem dL_resize_4 : decode cL_resize 4 = .ok (.iload_n 2, 1) := by decide +kernel
theorem dL_resize_5 : decode cL_resize 5 = .ok (.invokevirtual 27, 3) := by decide +kernel
theorem dL_resize_8 : decode cL_resize 8 = .ok (.i2l, 1) := by decide +kernel
theorem dL_resize_9 : decode cL_resize 9 = .ok (.lastore, 1) := by decide +kernel
theorem dL_resize_10 : decode cL_resize 10 = .ok (.goto 15, 3) := by decide +kernel
theorem dL_resize_13 : decode cL_resize 13 = .ok (.astore 4, 2) := by decide +kernel
theorem dL_resize_15 : decode cL_resize 15 = .ok (.iconst 1, 1) := by decide +kernel
theorem dL_resize_16 : decode cL_resize 16 = .ok (.ireturn, 1) := by decide +kernel
theorem dL_resize_17 : decode cL_resize 17 = .ok (.astore 4, 2) := by decide +kernel
theorem dL_resize_19 : decode cL_resize 19 = .ok (.iconst 2, 1) := by decide +kernel
theorem dL_resize_20 : decode cL_resize 20 = .ok (.ireturn, 1) := by decide +kernel
theorem dL_resize_21 : decode cL_resize 21 = .ok (.astore 4, 2) := by decide +kernel
theorem dL_resize_23 : decode cL_resize 23 = .ok (.iconst 3, 1) := by decide +kernel
theorem dL_resize_24 : decode cL_resize 24 = .ok (.ireturn, 1) := by decide +kernel
theorem dL_resize_25 : decode cL_resize 25 = .ok (.iconst 0, 1) := by decide +kernel
theorem dL_resize_26 : decode cL_resize 26 = .ok (.ireturn, 1) := by decide +kernel
theorem dL_write_0 : decode cL_write 0 = .ok (.aload 4, 2) := by decide +kernel
theorem dL_write_2 : decode cL_write 2 = .ok (.iconst 0, 1) := by decide +kernel
theorem dL_write_3 : decode cL_write 3 = .ok (.aload_n 0, 1) := by decide +kernel
theorem dL_write_4 : decode cL_write 4 = .ok (.iload_n 1, 1) := by decide +kernel
theorem dL_write_5 : decode cL_write 5 = .ok (.iload_n 2, 1) := by decide +kernel
theorem dL_write_6 : decode cL_write 6 = .ok (.iload_n 3, 1) := by decide +kernel
theorem dL_write_7 : decode cL_write 7 = .ok (.invokevirtual 30, 3) := by decide +kernel
theorem dL_write_10 : decode cL_write 10 = .ok (.i2l, 1) := by decide +kernel
theorem dL_write_11 : decode cL_write 11 = .ok (.lastore, 1) := by decide +kernel
theorem dL_write_12 : decode cL_write 12 = .ok (.goto 7, 3) := by decide +kernel
theorem dL_write_15 : decode cL_write 15 = .ok (.astore 5, 2) := by decide +kernel
theorem dL_write_17 : decode cL_write 17 = .ok (.iconst 1, 1) := by decide +kernel
theorem dL_write_18 : decode cL_write 18 = .ok (.ireturn, 1) := by decide +kernel
theorem dL_write_19 : decode cL_write 19 = .ok (.iconst 0, 1) := by decide +kernel
theorem dL_write_20 : decode cL_write 20 = .ok (.ireturn, 1) := by decide +kernel
theorem dL_read_0 : decode cL_read 0 = .ok (.aload_n 3, 1) := by decide +kernel
theorem dL_read_1 : decode cL_read 1 = .ok (.iconst 0, 1) := by decide +kernel
theorem dL_read_2 : decode cL_read 2 = .ok (.aload_n 0, 1) := by decide +kernel
theorem dL_read_3 : decode cL_read 3 = .ok (.iload_n 1, 1) := by decide +kernel
theorem dL_read_4 : decode cL_read 4 = .ok (.iload_n 2, 1) := by decide +kernel
theorem dL_read_5 : decode cL_read 5 = .ok (.invokevirtual 34, 3) := by decide +kernel
theorem dL_read_8 : decode cL_read 8 = .ok (.i2l, 1) := by decide +kernel
theorem dL_read_9 : decode cL_read 9 = .ok (.lastore, 1) := by decide +kernel
theorem dL_read_10 : decode cL_read 10 = .ok (.goto 7, 3) := by decide +kernel
theorem dL_read_13 : decode cL_read 13 = .ok (.astore 4, 2) := by decide +kernel
theorem dL_read_15 : decode cL_read 15 = .ok (.iconst 1, 1) := by decide +kernel
theorem dL_read_16 : decode cL_read 16 = .ok (.ireturn, 1) := by decide +kernel
theorem dL_read_17 : decode cL_read 17 = .ok (.iconst 0, 1) := by decide +kernel
theorem dL_read_18 : decode cL_read 18 = .ok (.ireturn, 1) := by decide +kernel
theorem dL_discard_0 : decode cL_discard 0 = .ok (.aload 4, 2) := by decide +kernel
theorem dL_discard_2 : decode cL_discard 2 = .ok (.iconst 0, 1) := by decide +kernel
theorem dL_discard_3 : decode cL_discard 3 = .ok (.aload_n 0, 1) := by decide +kernel
theorem dL_discard_4 : decode cL_discard 4 = .ok (.iload_n 1, 1) := by decide +kernel
theorem dL_discard_5 : decode cL_discard 5 = .ok (.iload_n 2, 1) := by decide +kernel
theorem dL_discard_6 : decode cL_discard 6 = .ok (.iload_n 3, 1) := by decide +kernel
theorem dL_discard_7 : decode cL_discard 7 = .ok (.invokevirtual 37, 3) := by decide +kernel
theorem dL_discard_10 : decode cL_discard 10 = .ok (.i2l, 1) := by decide +kernel
theorem dL_discard_11 : decode cL_discard 11 = .ok (.lastore, 1) := by decide +kernel
theorem dL_discard_12 : decode cL_discard 12 = .ok (.goto 11, 3) := by decide +kernel
theorem dL_discard_15 : decode cL_discard 15 = .ok (.astore 5, 2) := by decide +kernel
theorem dL_discard_17 : decode cL_discard 17 = .ok (.iconst 1, 1) := by decide +kernel
theorem dL_discard_18 : decode cL_discard 18 = .ok (.ireturn, 1) := by decide +kernel
theorem dL_discard_19 : decode cL_discard 19 = .ok (.astore 5, 2) := by decide +kernel
theorem dL_discard_21 : decode cL_discard 21 = .ok (.iconst 2, 1) := by decide +kernel
theorem dL_discard_22 : decode cL_discard 22 = .ok (.ireturn, 1) := by decide +kernel
theorem dL_discard_23 : decode cL_discard 23 = .ok (.iconst 0, 1) := by decide +kernel
theorem dL_discard_24 : decode cL_discard 24 = .ok (.ireturn, 1) := by decide +kernel
theorem dL_grow_0 : decode cL_grow 0 = .ok (.aload_n 2, 1) := by decide +kernel
theorem dL_grow_1 : decode cL_grow 1 = .ok (.iconst 0, 1) := by decide +kernel
theorem dL_grow_2 : decode cL_grow 2 = .ok (.aload_n 0, 1) := by decide +kernel
theorem dL_grow_3 : decode cL_grow 3 = .ok (.iload_n 1, 1) := by decide +kernel
theorem dL_grow_4 : decode cL_grow 4 = .ok (.invokevirtual 40, 3) := by decide +kernel
theorem dL_grow_7 : decode cL_grow 7 = .ok (.i2l, 1) := by decide +kernel
theorem dL_grow_8 : decode cL_grow 8 = .ok (.lastore, 1) := by decide +kernel
theorem dL_grow_9 : decode cL_grow 9 = .ok (.goto 6, 3) := by decide +kernel
theorem dL_grow_12 : decode cL_grow 12 = .ok (.astore_n 3, 1) := by decide +kernel
theorem dL_grow_13 : decode cL_grow 13 = .ok (.iconst 1, 1) := by decide +kernel
theorem dL_grow_14 : decode cL_grow 14 = .ok (.ireturn, 1) := by decide +kernel
theorem dL_grow_15 : decode cL_grow 15 = .ok (.iconst 0, 1) := by decide +kernel
theorem dL_grow_16 : decode cL_grow 16 = .ok (.ireturn, 1) := by decide +kernel
theorem dL_shrink_0 : decode cL_shrink 0 = .ok (.aload_n 2, 1) := by decide +kernel
theorem dL_shrink_1 : decode cL_shrink 1 = .ok (.iconst 0, 1) := by decide +kernel
theorem dL_shrink_2 : decode cL_shrink 2 = .ok (.aload_n 0, 1) := by decide +kernel
theorem dL_shrink_3 : decode cL_shrink 3 = .ok (.iload_n 1, 1) := by decide +kernel
theorem dL_shrink_4 : decode cL_shrink 4 = .ok (.invokevirtual 43, 3) := by decide +kernel
theorem dL_shrink_7 : decode cL_shrink 7 = .ok (.i2l, 1) := by decide +kernel
theorem dL_shrink_8 : decode cL_shrink 8 = .ok (.lastore, 1) := by decide +kernel
theorem dL_shrink_9 : decode cL_shrink 9 = .ok (.goto 6, 3) := by decide +kernel
theorem dL_shrink_12 : decode cL_shrink 12 = .ok (.astore_n 3, 1) := by decide +kernel
theorem dL_shrink_13 : decode cL_shrink 13 = .ok (.iconst 1, 1) := by decide +kernel
theorem dL_shrink_14 : decode cL_shrink 14 = .ok (.ireturn, 1) := by decide +kernel
theorem dL_shrink_15 : decode cL_shrink 15 = .ok (.iconst 0, 1) := by decide +kernel
theorem dL_shrink_16 : decode cL_shrink 16 = .ok (.ireturn, 1) := by decide +kernel
theorem dL_back_0 : decode cL_back 0 = .ok (.aload_n 3, 1) := by decide +kernel
theorem dL_back_1 : decode cL_back 1 = .ok (.iconst 0, 1) := by decide +kernel
theorem dL_back_2 : decode cL_back 2 = .ok (.aload_n 0, 1) := by decide +kernel
theorem dL_back_3 : decode cL_back 3 = .ok (.iload_n 1, 1) := by decide +kernel
theorem dL_back_4 : decode cL_back 4 = .ok (.iload_n 2, 1) := by decide +kernel
theorem dL_back_5 : decode cL_back 5 = .ok (.invokevirtual 46, 3) := by decide +kernel
theorem dL_back_8 : decode cL_back 8 = .ok (.i2l, 1) := by decide +kernel
theorem dL_back_9 : decode cL_back 9 = .ok (.lastore, 1) := by decide +kernel
theorem dL_back_10 : decode cL_back 10 = .ok (.goto 11, 3) := by decide +kernel
theorem dL_back_13 : decode cL_back 13 = .ok (.astore 4, 2) := by decide +kernel
theorem dL_back_15 : decode cL_back 15 = .ok (.iconst 1, 1) := by decide +kernel
theorem dL_back_16 : decode cL_back 16 = .ok (.ireturn, 1) := by decide +kernel
theorem dL_back_17 : decode cL_back 17 = .ok (.astore 4, 2) := by decide +kernel
theorem dL_back_19 : decode cL_back 19 = .ok (.iconst 2, 1) := by decide +kernel
theorem dL_back_20 : decode cL_back 20 = .ok (.ireturn, 1) := by decide +kernel
theorem dL_back_21 : decode cL_back 21 = .ok (.iconst 0, 1) := by decide +kernel
theorem dL_back_22 : decode cL_back 22 = .ok (.ireturn, 1) := by decide +kernel
theorem dL_quota_0 : decode cL_quota 0 = .ok (.aload_n 3, 1) := by decide +kernel
theorem dL_quota_1 : decode cL_quota 1 = .ok (.iconst 0, 1) := by decide +kernel
theorem dL_quota_2 : decode cL_quota 2 = .ok (.aload_n 0, 1) := by decide +kernel
theorem dL_quota_3 : decode cL_quota 3 = .ok (.iload_n 1, 1) := by decide +kernel
theorem dL_quota_4 : decode cL_quota 4 = .ok (.iload_n 2, 1) := by decide +kernel
theorem dL_quota_5 : decode cL_quota 5 = .ok (.invokevirtual 49, 3) := by decide +kernel
theorem dL_quota_8 : decode cL_quota 8 = .ok (.i2l, 1) := by decide +kernel
theorem dL_quota_9 : decode cL_quota 9 = .ok (.lastore, 1) := by decide +kernel
theorem dL_quota_10 : decode cL_quota 10 = .ok (.goto 11, 3) := by decide +kernel
theorem dL_quota_13 : decode cL_quota 13 = .ok (.astore 4, 2) := by decide +kernel
theorem dL_quota_15 : decode cL_quota 15 = .ok (.iconst 1, 1) := by decide +kernel
theorem dL_quota_16 : decode cL_quota 16 = .ok (.ireturn, 1) := by decide +kernel
theorem dL_quota_17 : decode cL_quota 17 = .ok (.astore 4, 2) := by decide +kernel
theorem dL_quota_19 : decode cL_quota 19 = .ok (.iconst 2, 1) := by decide +kernel
theorem dL_quota_20 : decode cL_quota 20 = .ok (.ireturn, 1) := by decide +kernel
theorem dL_quota_21 : decode cL_quota 21 = .ok (.iconst 0, 1) := by decide +kernel
theorem dL_quota_22 : decode cL_quota 22 = .ok (.ireturn, 1) := by decide +kernel
theorem dL_marked_0 : decode cL_marked 0 = .ok (.aload_n 2, 1) := by decide +kernel
theorem dL_marked_1 : decode cL_marked 1 = .ok (.iconst 0, 1) := by decide +kernel
theorem dL_marked_2 : decode cL_marked 2 = .ok (.aload_n 0, 1) := by decide +kernel
theorem dL_marked_3 : decode cL_marked 3 = .ok (.iload_n 1, 1) := by decide +kernel
theorem dL_marked_4 : decode cL_marked 4 = .ok (.invokevirtual 52, 3) := by decide +kernel
theorem dL_marked_7 : decode cL_marked 7 = .ok (.i2l, 1) := by decide +kernel
theorem dL_marked_8 : decode cL_marked 8 = .ok (.lastore, 1) := by decide +kernel
theorem dL_marked_9 : decode cL_marked 9 = .ok (.goto 6, 3) := by decide +kernel
theorem dL_marked_12 : decode cL_marked 12 = .ok (.astore_n 3, 1) := by decide +kernel
theorem dL_marked_13 : decode cL_marked 13 = .ok (.iconst 1, 1) := by decide +kernel
theorem dL_marked_14 : decode cL_marked 14 = .ok (.ireturn, 1) := by decide +kernel
theorem dL_marked_15 : decode cL_marked 15 = .ok (.iconst 0, 1) := by decide +kernel
theorem dL_marked_16 : decode cL_marked 16 = .ok (.ireturn, 1) := by decide +kernel
theorem dL_cut_0 : decode cL_cut 0 = .ok (.aload_n 2, 1) := by decide +kernel
theorem dL_cut_1 : decode cL_cut 1 = .ok (.iconst 0, 1) := by decide +kernel
theorem dL_cut_2 : decode cL_cut 2 = .ok (.aload_n 0, 1) := by decide +kernel
theorem dL_cut_3 : decode cL_cut 3 = .ok (.iload_n 1, 1) := by decide +kernel
theorem dL_cut_4 : decode cL_cut 4 = .ok (.invokevirtual 55, 3) := by decide +kernel
theorem dL_cut_7 : decode cL_cut 7 = .ok (.i2l, 1) := by decide +kernel
theorem dL_cut_8 : decode cL_cut 8 = .ok (.lastore, 1) := by decide +kernel
theorem dL_cut_9 : decode cL_cut 9 = .ok (.goto 6, 3) := by decide +kernel
theorem dL_cut_12 : decode cL_cut 12 = .ok (.astore_n 3, 1) := by decide +kernel
theorem dL_cut_13 : decode cL_cut 13 = .ok (.iconst 1, 1) := by decide +kernel
theorem dL_cut_14 : decode cL_cut 14 = .ok (.ireturn, 1) := by decide +kernel
theorem dL_cut_15 : decode cL_cut 15 = .ok (.iconst 0, 1) := by decide +kernel
theorem dL_cut_16 : decode cL_cut 16 = .ok (.ireturn, 1) := by decide +kernel
theorem dL_hold_0 : decode cL_hold 0 = .ok (.aload_n 1, 1) := by decide +kernel
theorem dL_hold_1 : decode cL_hold 1 = .ok (.iconst 0, 1) := by decide +kernel
theorem dL_hold_2 : decode cL_hold 2 = .ok (.aload_n 0, 1) := by decide +kernel
theorem dL_hold_3 : decode cL_hold 3 = .ok (.invokevirtual 58, 3) := by decide +kernel
theorem dL_hold_6 : decode cL_hold 6 = .ok (.i2l, 1) := by decide +kernel
theorem dL_hold_7 : decode cL_hold 7 = .ok (.lastore, 1) := by decide +kernel
theorem dL_hold_8 : decode cL_hold 8 = .ok (.goto 6, 3) := by decide +kernel
theorem dL_hold_11 : decode cL_hold 11 = .ok (.astore_n 2, 1) := by decide +kernel
theorem dL_hold_12 : decode cL_hold 12 = .ok (.iconst 1, 1) := by decide +kernel
theorem dL_hold_13 : decode cL_hold 13 = .ok (.ireturn, 1) := by decide +kernel
theorem dL_hold_14 : decode cL_hold 14 = .ok (.iconst 0, 1) := by decide +kernel
theorem dL_hold_15 : decode cL_hold 15 = .ok (.ireturn, 1) := by decide +kernel
theorem dL_patience_0 : decode cL_patience 0 = .ok (.aload_n 2, 1) := by decide +kernel
theorem dL_patience_1 : decode cL_patience 1 = .ok (.iconst 0, 1) := by decide +kernel
theorem dL_patience_2 : decode cL_patience 2 = .ok (.aload_n 0, 1) := by decide +kernel
theorem dL_patience_3 : decode cL_patience 3 = .ok (.iload_n 1, 1) := by decide +kernel
theorem dL_patience_4 : decode cL_patience 4 = .ok (.invokevirtual 62, 3) := by decide +kernel
theorem dL_patience_7 : decode cL_patience 7 = .ok (.i2l, 1) := by decide +kernel
theorem dL_patience_8 : decode cL_patience 8 = .ok (.lastore, 1) := by decide +kernel
theorem dL_patience_9 : decode cL_patience 9 = .ok (.goto 6, 3) := by decide +kernel
theorem dL_patience_12 : decode cL_patience 12 = .ok (.astore_n 3, 1) := by decide +kernel
theorem dL_patience_13 : decode cL_patience 13 = .ok (.iconst 1, 1) := by decide +kernel
theorem dL_patience_14 : decode cL_patience 14 = .ok (.ireturn, 1) := by decide +kernel
theorem dL_patience_15 : decode cL_patience 15 = .ok (.iconst 0, 1) := by decide +kernel
theorem dL_patience_16 : decode cL_patience 16 = .ok (.ireturn, 1) := by decide +kernel
theorem dL_alarm_0 : decode cL_alarm 0 = .ok (.aload_n 2, 1) := by decide +kernel
theorem dL_alarm_1 : decode cL_alarm 1 = .ok (.iconst 0, 1) := by decide +kernel
theorem dL_alarm_2 : decode cL_alarm 2 = .ok (.aload_n 0, 1) := by decide +kernel
theorem dL_alarm_3 : decode cL_alarm 3 = .ok (.iload_n 1, 1) := by decide +kernel
theorem dL_alarm_4 : decode cL_alarm 4 = .ok (.invokevirtual 65, 3) := by decide +kernel
theorem dL_alarm_7 : decode cL_alarm 7 = .ok (.i2l, 1) := by decide +kernel
theorem dL_alarm_8 : decode cL_alarm 8 = .ok (.lastore, 1) := by decide +kernel
theorem dL_alarm_9 : decode cL_alarm 9 = .ok (.goto 6, 3) := by decide +kernel
theorem dL_alarm_12 : decode cL_alarm 12 = .ok (.astore_n 3, 1) := by decide +kernel
theorem dL_alarm_13 : decode cL_alarm 13 = .ok (.iconst 1, 1) := by decide +kernel
theorem dL_alarm_14 : decode cL_alarm 14 = .ok (.ireturn, 1) := by decide +kernel
theorem dL_alarm_15 : decode cL_alarm 15 = .ok (.iconst 0, 1) := by decide +kernel
theorem dL_alarm_16 : decode cL_alarm 16 = .ok (.ireturn, 1) := by decide +kernel
theorem dL_tick_0 : decode cL_tick 0 = .ok (.aload_n 2, 1) := by decide +kernel
theorem dL_tick_1 : decode cL_tick 1 = .ok (.iconst 0, 1) := by decide +kernel
theorem dL_tick_2 : decode cL_tick 2 = .ok (.aload_n 0, 1) := by decide +kernel
theorem dL_tick_3 : decode cL_tick 3 = .ok (.iload_n 1, 1) := by decide +kernel
theorem dL_tick_4 : decode cL_tick 4 = .ok (.invokevirtual 68, 3) := by decide +kernel
theorem dL_tick_7 : decode cL_tick 7 = .ok (.i2l, 1) := by decide +kernel
theorem dL_tick_8 : decode cL_tick 8 = .ok (.lastore, 1) := by decide +kernel
theorem dL_tick_9 : decode cL_tick 9 = .ok (.goto 6, 3) := by decide +kernel
theorem dL_tick_12 : decode cL_tick 12 = .ok (.astore_n 3, 1) := by decide +kernel
theorem dL_tick_13 : decode cL_tick 13 = .ok (.iconst 1, 1) := by decide +kernel
theorem dL_tick_14 : decode cL_tick 14 = .ok (.ireturn, 1) := by decide +kernel
theorem dL_tick_15 : decode cL_tick 15 = .ok (.iconst 0, 1) := by decide +kernel
theorem dL_tick_16 : decode cL_tick 16 = .ok (.ireturn, 1) := by decide +kernel
theorem dL_map_0 : decode cL_map 0 = .ok (.aload 4, 2) := by decide +kernel
theorem dL_map_2 : decode cL_map 2 = .ok (.iconst 0, 1) := by decide +kernel
theorem dL_map_3 : decode cL_map 3 = .ok (.aload_n 0, 1) := by decide +kernel
theorem dL_map_4 : decode cL_map 4 = .ok (.iload_n 1, 1) := by decide +kernel
theorem dL_map_5 : decode cL_map 5 = .ok (.iload_n 2, 1) := by decide +kernel
theorem dL_map_6 : decode cL_map 6 = .ok (.iload_n 3, 1) := by decide +kernel
theorem dL_map_7 : decode cL_map 7 = .ok (.invokevirtual 71, 3) := by decide +kernel
theorem dL_map_10 : decode cL_map 10 = .ok (.i2l, 1) := by decide +kernel
theorem dL_map_11 : decode cL_map 11 = .ok (.lastore, 1) := by decide +kernel
theorem dL_map_12 : decode cL_map 12 = .ok (.goto 11, 3) := by decide +kernel
theorem dL_map_15 : decode cL_map 15 = .ok (.astore 5, 2) := by decide +kernel
theorem dL_map_17 : decode cL_map 17 = .ok (.iconst 1, 1) := by decide +kernel
theorem dL_map_18 : decode cL_map 18 = .ok (.ireturn, 1) := by decide +kernel
theorem dL_map_19 : decode cL_map 19 = .ok (.astore 5, 2) := by decide +kernel
theorem dL_map_21 : decode cL_map 21 = .ok (.iconst 2, 1) := by decide +kernel
theorem dL_map_22 : decode cL_map 22 = .ok (.ireturn, 1) := by decide +kernel
theorem dL_map_23 : decode cL_map 23 = .ok (.iconst 0, 1) := by decide +kernel
theorem dL_map_24 : decode cL_map 24 = .ok (.ireturn, 1) := by decide +kernel
theorem dL_volume_0 : decode cL_volume 0 = .ok (.aload_n 3, 1) := by decide +kernel
theorem dL_volume_1 : decode cL_volume 1 = .ok (.iconst 0, 1) := by decide +kernel
theorem dL_volume_2 : decode cL_volume 2 = .ok (.aload_n 0, 1) := by decide +kernel
theorem dL_volume_3 : decode cL_volume 3 = .ok (.iload_n 1, 1) := by decide +kernel
theorem dL_volume_4 : decode cL_volume 4 = .ok (.iload_n 2, 1) := by decide +kernel
theorem dL_volume_5 : decode cL_volume 5 = .ok (.invokevirtual 74, 3) := by decide +kernel
theorem dL_volume_8 : decode cL_volume 8 = .ok (.i2l, 1) := by decide +kernel
theorem dL_volume_9 : decode cL_volume 9 = .ok (.lastore, 1) := by decide +kernel
theorem dL_volume_10 : decode cL_volume 10 = .ok (.goto 7, 3) := by decide +kernel
theorem dL_volume_13 : decode cL_volume 13 = .ok (.astore 4, 2) := by decide +kernel
theorem dL_volume_15 : decode cL_volume 15 = .ok (.iconst 1, 1) := by decide +kernel
theorem dL_volume_16 : decode cL_volume 16 = .ok (.ireturn, 1) := by decide +kernel
theorem dL_volume_17 : decode cL_volume 17 = .ok (.iconst 0, 1) := by decide +kernel
theorem dL_volume_18 : decode cL_volume 18 = .ok (.ireturn, 1) := by decide +kernel
theorem dL_differ_0 : decode cL_differ 0 = .ok (.aload 4, 2) := by decide +kernel
theorem dL_differ_2 : decode cL_differ 2 = .ok (.iconst 0, 1) := by decide +kernel
theorem dL_differ_3 : decode cL_differ 3 = .ok (.aload_n 0, 1) := by decide +kernel
theorem dL_differ_4 : decode cL_differ 4 = .ok (.iload_n 1, 1) := by decide +kernel
theorem dL_differ_5 : decode cL_differ 5 = .ok (.iload_n 2, 1) := by decide +kernel
theorem dL_differ_6 : decode cL_differ 6 = .ok (.iload_n 3, 1) := by decide +kernel
theorem dL_differ_7 : decode cL_differ 7 = .ok (.invokevirtual 77, 3) := by decide +kernel
theorem dL_differ_10 : decode cL_differ 10 = .ok (.i2l, 1) := by decide +kernel
theorem dL_differ_11 : decode cL_differ 11 = .ok (.lastore, 1) := by decide +kernel
theorem dL_differ_12 : decode cL_differ 12 = .ok (.goto 7, 3) := by decide +kernel
theorem dL_differ_15 : decode cL_differ 15 = .ok (.astore 5, 2) := by decide +kernel
theorem dL_differ_17 : decode cL_differ 17 = .ok (.iconst 1, 1) := by decide +kernel
theorem dL_differ_18 : decode cL_differ 18 = .ok (.ireturn, 1) := by decide +kernel
theorem dL_differ_19 : decode cL_differ 19 = .ok (.iconst 0, 1) := by decide +kernel
theorem dL_differ_20 : decode cL_differ 20 = .ok (.ireturn, 1) := by decide +kernel
theorem dL_users_0 : decode cL_users 0 = .ok (.aload_n 2, 1) := by decide +kernel
theorem dL_users_1 : decode cL_users 1 = .ok (.iconst 0, 1) := by decide +kernel
theorem dL_users_2 : decode cL_users 2 = .ok (.aload_n 0, 1) := by decide +kernel
theorem dL_users_3 : decode cL_users 3 = .ok (.iload_n 1, 1) := by decide +kernel
theorem dL_users_4 : decode cL_users 4 = .ok (.invokevirtual 80, 3) := by decide +kernel
theorem dL_users_7 : decode cL_users 7 = .ok (.i2l, 1) := by decide +kernel
theorem dL_users_8 : decode cL_users 8 = .ok (.lastore, 1) := by decide +kernel
theorem dL_users_9 : decode cL_users 9 = .ok (.goto 6, 3) := by decide +kernel
theorem dL_users_12 : decode cL_users 12 = .ok (.astore_n 3, 1) := by decide +kernel
theorem dL_users_13 : decode cL_users 13 = .ok (.iconst 1, 1) := by decide +kernel
theorem dL_users_14 : decode cL_users 14 = .ok (.ireturn, 1) := by decide +kernel
theorem dL_users_15 : decode cL_users 15 = .ok (.iconst 0, 1) := by decide +kernel
theorem dL_users_16 : decode cL_users 16 = .ok (.ireturn, 1) := by decide +kernel
theorem dL_user_0 : decode cL_user 0 = .ok (.aload_n 3, 1) := by decide +kernel
theorem dL_user_1 : decode cL_user 1 = .ok (.iconst 0, 1) := by decide +kernel
theorem dL_user_2 : decode cL_user 2 = .ok (.aload_n 0, 1) := by decide +kernel
theorem dL_user_3 : decode cL_user 3 = .ok (.iload_n 1, 1) := by decide +kernel
theorem dL_user_4 : decode cL_user 4 = .ok (.iload_n 2, 1) := by decide +kernel
theorem dL_user_5 : decode cL_user 5 = .ok (.invokevirtual 83, 3) := by decide +kernel
theorem dL_user_8 : decode cL_user 8 = .ok (.i2l, 1) := by decide +kernel
theorem dL_user_9 : decode cL_user 9 = .ok (.lastore, 1) := by decide +kernel
theorem dL_user_10 : decode cL_user 10 = .ok (.goto 7, 3) := by decide +kernel
theorem dL_user_13 : decode cL_user 13 = .ok (.astore 4, 2) := by decide +kernel
theorem dL_user_15 : decode cL_user 15 = .ok (.iconst 1, 1) := by decide +kernel
theorem dL_user_16 : decode cL_user 16 = .ok (.ireturn, 1) := by decide +kernel
theorem dL_user_17 : decode cL_user 17 = .ok (.iconst 0, 1) := by decide +kernel
theorem dL_user_18 : decode cL_user 18 = .ok (.ireturn, 1) := by decide +kernel
theorem dL_told_0 : decode cL_told 0 = .ok (.aload_n 2, 1) := by decide +kernel
theorem dL_told_1 : decode cL_told 1 = .ok (.iconst 0, 1) := by decide +kernel
theorem dL_told_2 : decode cL_told 2 = .ok (.aload_n 0, 1) := by decide +kernel
theorem dL_told_3 : decode cL_told 3 = .ok (.iload_n 1, 1) := by decide +kernel
theorem dL_told_4 : decode cL_told 4 = .ok (.invokevirtual 86, 3) := by decide +kernel
theorem dL_told_7 : decode cL_told 7 = .ok (.i2l, 1) := by decide +kernel
theorem dL_told_8 : decode cL_told 8 = .ok (.lastore, 1) := by decide +kernel
theorem dL_told_9 : decode cL_told 9 = .ok (.goto 6, 3) := by decide +kernel
theorem dL_told_12 : decode cL_told 12 = .ok (.astore_n 3, 1) := by decide +kernel
theorem dL_told_13 : decode cL_told 13 = .ok (.iconst 1, 1) := by decide +kernel
theorem dL_told_14 : decode cL_told 14 = .ok (.ireturn, 1) := by decide +kernel
theorem dL_told_15 : decode cL_told 15 = .ok (.iconst 0, 1) := by decide +kernel
theorem dL_told_16 : decode cL_told 16 = .ok (.ireturn, 1) := by decide +kernel
/-! the law's own calls: what the class answers or throws, told by a number -/
/-- a call that ends with a number, whatever the class did -/
def HW (l : Launch) (D : DD) (n0 : Nat) (y : MethodName) (cc : ByteArray) (maxL : Nat) (hh : List (Nat × Nat × Nat × Nat)) (av : List Value) (σ : ST) (k : Int32) (σ' : ST) : Prop :=
  vx_Met l y (Cond.codeWith y cc maxL (some .int) hh :: tb) (rmx 9 300) (va_Pc av (PcW D n0 127 σ)) (QcM D n0 127 (some (.int k)) σ') (fun _ _ _ => False) 1 6 (fun q => n0 ≤ q)
theorem HW.of {l : Launch} {D : DD} {n0 : Nat} {y : MethodName} {cc : ByteArray} {maxL : Nat} {hh : List (Nat × Nat × Nat × Nat)} {av : List Value} {σ σ' : ST} {k : Int32} (hy : plainName y.cls = true) (hc : ∀ x ∈ av, x.category = 1) (hn : av.length ≤ maxL)
    (body : ∀ (p : Program) (e : Env) (s : State) (m : MethodId) (args : Array Value) (below : List Frame) (meth : Method) (c : Code) (Q : State → Prop), Cx p l s m args meth c D n0 y.cls cc maxL → KX D n0 s s.heap → c.exceptionTable.toList = tableOf hh →
      (∀ (pc : Nat) (ls : List (Option Value)), decode cc pc = .ok (.ireturn, 1) → ZZ p l e (rmx 9 300) s m args below meth c D n0 127 maxL 1 6 Q σ' pc ls [.int k]) →
      ZZ p l e (rmx 9 300) s m args below meth c D n0 127 maxL 0 0 Q σ 0 (ent av maxL) []) : HW l D n0 y cc maxL hh av σ k σ' := by
  refine vx_ofWH (cc := cc) (maxL := maxL) (ret := some .int) (hh := hh) hy rfl ?_
  intro p e s m args below meth c s₁ B hml hv
  obtain ⟨rfl, hP, hK, hn0⟩ := hv
  have hts := atoms_spec (ws := Cond.codeWith y cc maxL (some .int) hh :: tb) B.pre
  have hC : Cx p l s m av.toArray meth c D n0 y.cls cc maxL := ⟨B.exec, B.bytes, hml, findClass_of_methodNamed B.named, fun w hw => hts w (List.mem_cons_of_mem _ hw), hK.1, hn0, B.notSynchronized⟩
  have htab : c.exceptionTable.toList = tableOf hh := vx_table (x := y) B (hts _ List.mem_cons_self)
  rw [lg_entry_eq]
  refine body p e s m _ below meth c _ hC hK htab ?_ s.heap [] _ hP va_S.rf (ent_lh hc hn)
  intro pc ls hd H locs lsA hP2 hS hl
  exact vx_ret (W.zret hC.1 hC.2.1 B.returns rfl (fun t ht hW => ⟨⟨rfl, by rw [ht]; exact hP2⟩, hS.F ht⟩) hS.2.2 hd hC.2.2.2.2.2.2.2)
section CATCH
variable {p : Program} {l : Launch} {e : Env} {R : Room} {s : State} {m : MethodId} {args : Array Value} {below : List Frame} {meth : Method} {c : Code} {D : DD} {n0 nL cells slots : Nat} {Q : State → Prop} {own : String} {cc : ByteArray} {σ : ST} {pc : Nat} {ls : List (Option Value)} {st : List Value} {E : String}
theorem z_catch (C : Cx p l s m args meth c D n0 own cc nL) (K : KX D n0 s s.heap) (pre : List (Nat × Nat × Nat × Nat)) (x : Nat × Nat × Nat × Nat) (suf : List (Nat × Nat × Nat × Nat)) (htab : c.exceptionTable.toList = tableOf (pre ++ x :: suf)) (hE : E ∈ excs)
    (hpass : ∀ z ∈ pre, z.2.2.2 ≠ 0 ∧ ∃ nm : String, Cond.classLink own z.2.2.2 nm ∈ tb ∧ (E, nm) ∈ nocs) (hx1 : x.1 ≤ pc) (hx2 : pc < x.2.1) (h0 : x.2.2.2 ≠ 0) (hlink : Cond.classLink own x.2.2.2 E ∈ tb)
    (kk : ∀ q9, ZZ p l e R s m args below meth c D n0 127 nL cells slots Q σ x.2.2.1 ls [.ref q9]) {H : Heap} {locs : List Loc} {lsA : Array Slot} {q9 : Addr} {ce : Cell} (hP : va_P D.1 vwCl (wl D n0 127 σ) H) (hS : va_S (fun q => n0 ≤ q) s.heap H locs) (hl : lh lsA nL ls) (h1 : H[q9]? = some ce) (h2 : ce.vm = .none) (h3 : s.vm.findClass E = some ce.cls) :
    vx_W p l e R s m args below meth c H locs cells slots Q (F0 m pc lsA st) q9 := by
  refine vx_catch (own := own) (name := E) (E := E) C.2.2.2.1 (tableOf pre) ⟨x.1, x.2.1, x.2.2.1, x.2.2.2⟩ (tableOf suf) (htab.trans (by simp [tableOf])) (fun z hz => ?_) (by simp [covers, hx1, hx2]) h0 (C.2.2.2.2.1 _ hlink) (va_any rfl (K.2.2.1 E hE)) h1 h2 h3 (kk q9 H locs lsA hP hS hl)
  unfold tableOf at hz
  obtain ⟨w, hw, rfl⟩ := List.mem_map.mp hz
  obtain ⟨b1, nm, b2, b3⟩ := hpass w hw
  exact Or.inr ⟨b1, nm, C.2.2.2.2.1 _ b2, K.2.2.2.2.1 _ b3⟩
end CATCH
theorem lk_IO : Cond.classLink RL 13 cIO ∈ tb := tbm 367 (by decide +kernel) rfl
theorem lk_IA : Cond.classLink RL 15 cIA ∈ tb := tbm 368 (by decide +kernel) rfl
theorem lk_IS : Cond.classLink RL 17 cIS ∈ tb := tbm 369 (by decide +kernel) rfl
set_option maxHeartbeats 4000000 in
set_option maxRecDepth 100000 in
theorem w_make_ok (l : Launch) (D : DD) (n0 : Nat) (κ μ : KH) (o : Int64) (p0 p1 p2 : Int32) (f w : Nat) (hf : f ≤ 8) (hw : w ≤ 250) (κ1 : KH) (r : Int32) (hM : HM l D n0 yX4_make cX4_make 5 (some .int) f w [.ref (n0 + 0), .int p0, .int p1, .int p2] (κ, μ, o) (some (.int r)) (κ1, μ, o)) : HW l D n0 yL_make cL_make 6 [(0, 12, 15, 13), (0, 12, 19, 15), (0, 12, 23, 17)] [.ref (n0 + 0), .int p0, .int p1, .int p2, .ref (n0 + 126)] (κ, μ, o) 0 (κ1, μ, r.toInt64) := by
  refine HW.of (by decide) (by simp [Value.category]) (by simp) ?_
  intro pp ee ss mm aa bb me cd Q C K htab hret
  show ZZ pp l ee (rmx 9 300) ss mm aa bb me cd D n0 127 6 0 0 Q _ 0 [some (.ref (n0 + 0)), some (.int p0), some (.int p1), some (.int p2), some (.ref (n0 + 126)), none] []
  refine z_aload C rfl dL_make_0 ?_
  refine z_iconst (v := 0) C (by decide +kernel) dL_make_2 ?_
  refine z_aload_n C rfl dL_make_3 ?_
  refine z_iload_n C rfl dL_make_4 ?_
  refine z_iload_n C rfl dL_make_5 ?_
  refine z_iload_n C rfl dL_make_6 ?_
  refine z_callV (As := [.int p0, .int p1, .int p2]) (r := (some (.int r))) (σ1 := (κ1, μ, o)) (st := [.int 0, .ref (n0 + 126)]) (st1 := .int r :: [.int 0, .ref (n0 + 126)]) C K ok_L_7 hM enc_0 (by decide) rfl rfl ⟨by show f + 1 ≤ 9; omega, by show 8 + (5 + 11) + w ≤ 300; omega⟩ ⟨Nat.zero_le _, Nat.zero_le _⟩ (by simp [Value.category]) dL_make_7 rfl rfl ?_
  refine z_i2l C dL_make_10 ?_
  refine z_last C (by decide) dL_make_11 ?_
  refine z_goto (tgt := 27) C dL_make_12 (by decide) ?_
  refine z_iconst (v := 0) C (by decide +kernel) dL_make_27 ?_
  refine z_widen (k := 1) (n := 6) (by decide) (by decide) ?_
  exact hret _ _ dL_make_28
set_option maxHeartbeats 4000000 in
set_option maxRecDepth 100000 in
theorem w_make_cIO (l : Launch) (D : DD) (n0 : Nat) (κ μ : KH) (o : Int64) (p0 p1 p2 : Int32) (f w : Nat) (hf : f ≤ 8) (hw : w ≤ 250) (hM : HT l D n0 yX4_make cX4_make 5 (some .int) f w [.ref (n0 + 0), .int p0, .int p1, .int p2] (κ, μ, o) cIO) : HW l D n0 yL_make cL_make 6 [(0, 12, 15, 13), (0, 12, 19, 15), (0, 12, 23, 17)] [.ref (n0 + 0), .int p0, .int p1, .int p2, .ref (n0 + 126)] (κ, μ, o) 1 (κ, μ, o) := by
  refine HW.of (by decide) (by simp [Value.category]) (by simp) ?_
  intro pp ee ss mm aa bb me cd Q C K htab hret
  show ZZ pp l ee (rmx 9 300) ss mm aa bb me cd D n0 127 6 0 0 Q _ 0 [some (.ref (n0 + 0)), some (.int p0), some (.int p1), some (.int p2), some (.ref (n0 + 126)), none] []
  refine z_aload C rfl dL_make_0 ?_
  refine z_iconst (v := 0) C (by decide +kernel) dL_make_2 ?_
  refine z_aload_n C rfl dL_make_3 ?_
  refine z_iload_n C rfl dL_make_4 ?_
  refine z_iload_n C rfl dL_make_5 ?_
  refine z_iload_n C rfl dL_make_6 ?_
  refine z_callVT (As := [.int p0, .int p1, .int p2]) (E := cIO) (st := [.int 0, .ref (n0 + 126)]) C K ok_L_7 hM enc_0 (by decide) rfl rfl ⟨by show f + 1 ≤ 9; omega, by show 8 + (5 + 11) + w ≤ 300; omega⟩ ⟨Nat.le_refl _, Nat.le_refl _⟩ (by simp [Value.category]) dL_make_7 rfl ?_
  refine fun H locs lsA q9 ce hP hS hl h1 h2 h3 => z_catch C K [] (0, 12, 15, 13) [(0, 12, 19, 15), (0, 12, 23, 17)] htab (by decide +kernel) (fun z hz => absurd hz List.not_mem_nil) (by decide) (by decide) (by decide) lk_IO (fun q9 => ?_) hP hS hl h1 h2 h3
  refine z_astore (ls' := [some (.ref (n0 + 0)), some (.int p0), some (.int p1), some (.int p2), some (.ref (n0 + 126)), some (.ref q9)]) C (by decide) rfl dL_make_15 ?_
  refine z_iconst (v := 1) C (by decide +kernel) dL_make_17 ?_
  exact hret _ _ dL_make_18
set_option maxHeartbeats 4000000 in
set_option maxRecDepth 100000 in
theorem w_make_cIA (l : Launch) (D : DD) (n0 : Nat) (κ μ : KH) (o : Int64) (p0 p1 p2 : Int32) (f w : Nat) (hf : f ≤ 8) (hw : w ≤ 250) (hM : HT l D n0 yX4_make cX4_make 5 (some .int) f w [.ref (n0 + 0), .int p0, .int p1, .int p2] (κ, μ, o) cIA) : HW l D n0 yL_make cL_make 6 [(0, 12, 15, 13), (0, 12, 19, 15), (0, 12, 23, 17)] [.ref (n0 + 0), .int p0, .int p1, .int p2, .ref (n0 + 126)] (κ, μ, o) 2 (κ, μ, o) := by
  refine HW.of (by decide) (by simp [Value.category]) (by simp) ?_
  intro pp ee ss mm aa bb me cd Q C K htab hret
  show ZZ pp l ee (rmx 9 300) ss mm aa bb me cd D n0 127 6 0 0 Q _ 0 [some (.ref (n0 + 0)), some (.int p0), some (.int p1), some (.int p2), some (.ref (n0 + 126)), none] []
  refine z_aload C rfl dL_make_0 ?_
  refine z_iconst (v := 0) C (by decide +kernel) dL_make_2 ?_
  refine z_aload_n C rfl dL_make_3 ?_
  refine z_iload_n C rfl dL_make_4 ?_
  refine z_iload_n C rfl dL_make_5 ?_
  refine z_iload_n C rfl dL_make_6 ?_
  refine z_callVT (As := [.int p0, .int p1, .int p2]) (E := cIA) (st := [.int 0, .ref (n0 + 126)]) C K ok_L_7 hM enc_0 (by decide) rfl rfl ⟨by show f + 1 ≤ 9; omega, by show 8 + (5 + 11) + w ≤ 300; omega⟩ ⟨Nat.le_refl _, Nat.le_refl _⟩ (by simp [Value.category]) dL_make_7 rfl ?_
  refine fun H locs lsA q9 ce hP hS hl h1 h2 h3 => z_catch C K [(0, 12, 15, 13)] (0, 12, 19, 15) [(0, 12, 23, 17)] htab (by decide +kernel) (fun z hz => by simp only [List.mem_cons, List.not_mem_nil, or_false] at hz; subst hz; exact ⟨by decide, cIO, lk_IO, by decide +kernel⟩) (by decide) (by decide) (by decide) lk_IA (fun q9 => ?_) hP hS hl h1 h2 h3
  refine z_astore (ls' := [some (.ref (n0 + 0)), some (.int p0), some (.int p1), some (.int p2), some (.ref (n0 + 126)), some (.ref q9)]) C (by decide) rfl dL_make_19 ?_
  refine z_iconst (v := 2) C (by decide +kernel) dL_make_21 ?_
  exact hret _ _ dL_make_22
set_option maxHeartbeats 4000000 in
set_option maxRecDepth 100000 in
theorem w_make_cIS (l : Launch) (D : DD) (n0 : Nat) (κ μ : KH) (o : Int64) (p0 p1 p2 : Int32) (f w : Nat) (hf : f ≤ 8) (hw : w ≤ 250) (hM : HT l D n0 yX4_make cX4_make 5 (some .int) f w [.ref (n0 + 0), .int p0, .int p1, .int p2] (κ, μ, o) cIS) : HW l D n0 yL_make cL_make 6 [(0, 12, 15, 13), (0, 12, 19, 15), (0, 12, 23, 17)] [.ref (n0 + 0), .int p0, .int p1, .int p2, .ref (n0 + 126)] (κ, μ, o) 3 (κ, μ, o) := by
  refine HW.of (by decide) (by simp [Value.category]) (by simp) ?_
  intro pp ee ss mm aa bb me cd Q C K htab hret
  show ZZ pp l ee (rmx 9 300) ss mm aa bb me cd D n0 127 6 0 0 Q _ 0 [some (.ref (n0 + 0)), some (.int p0), some (.int p1), some (.int p2), some (.ref (n0 + 126)), none] []
  refine z_aload C rfl dL_make_0 ?_
  refine z_iconst (v := 0) C (by decide +kernel) dL_make_2 ?_
  refine z_aload_n C rfl dL_make_3 ?_
  refine z_iload_n C rfl dL_make_4 ?_
  refine z_iload_n C rfl dL_make_5 ?_
  refine z_iload_n C rfl dL_make_6 ?_
  refine z_callVT (As := [.int p0, .int p1, .int p2]) (E := cIS) (st := [.int 0, .ref (n0 + 126)]) C K ok_L_7 hM enc_0 (by decide) rfl rfl ⟨by show f + 1 ≤ 9; omega, by show 8 + (5 + 11) + w ≤ 300; omega⟩ ⟨Nat.le_refl _, Nat.le_refl _⟩ (by simp [Value.category]) dL_make_7 rfl ?_
  refine fun H locs lsA q9 ce hP hS hl h1 h2 h3 => z_catch C K [(0, 12, 15, 13), (0, 12, 19, 15)] (0, 12, 23, 17) [] htab (by decide +kernel) (fun z hz => by simp only [List.mem_cons, List.not_mem_nil, or_false] at hz; rcases hz with rfl | rfl; exact ⟨by decide, cIO, lk_IO, by decide +kernel⟩; exact ⟨by decide, cIA, lk_IA, by decide +kernel⟩) (by decide) (by decide) (by decide) lk_IS (fun q9 => ?_) hP hS hl h1 h2 h3
  refine z_astore (ls' := [some (.ref (n0 + 0)), some (.int p0), some (.int p1), some (.int p2), some (.ref (n0 + 126)), some (.ref q9)]) C (by decide) rfl dL_make_23 ?_
  refine z_iconst (v := 3) C (by decide +kernel) dL_make_25 ?_
  exact hret _ _ dL_make_26
set_option maxHeartbeats 4000000 in
set_option maxRecDepth 100000 in
theorem w_snap_ok (l : Launch) (D : DD) (n0 : Nat) (κ μ : KH) (o : Int64) (p0 p1 : Int32) (f w : Nat) (hf : f ≤ 8) (hw : w ≤ 250) (κ1 : KH) (r : Int32) (hM : HM l D n0 yX4_snap cX4_snap 6 (some .int) f w [.ref (n0 + 0), .int p0, .int p1] (κ, μ, o) (some (.int r)) (κ1, μ, o)) : HW l D n0 yL_snap cL_snap 5 [(0, 10, 13, 13), (0, 10, 17, 17)] [.ref (n0 + 0), .int p0, .int p1, .ref (n0 + 126)] (κ, μ, o) 0 (κ1, μ, r.toInt64) := by
  refine HW.of (by decide) (by simp [Value.category]) (by simp) ?_
  intro pp ee ss mm aa bb me cd Q C K htab hret
  show ZZ pp l ee (rmx 9 300) ss mm aa bb me cd D n0 127 5 0 0 Q _ 0 [some (.ref (n0 + 0)), some (.int p0), some (.int p1), some (.ref (n0 + 126)), none] []
  refine z_aload_n C rfl dL_snap_0 ?_
  refine z_iconst (v := 0) C (by decide +kernel) dL_snap_1 ?_
  refine z_aload_n C rfl dL_snap_2 ?_
  refine z_iload_n C rfl dL_snap_3 ?_
  refine z_iload_n C rfl dL_snap_4 ?_
  refine z_callV (As := [.int p0, .int p1]) (r := (some (.int r))) (σ1 := (κ1, μ, o)) (st := [.int 0, .ref (n0 + 126)]) (st1 := .int r :: [.int 0, .ref (n0 + 126)]) C K ok_L_19 hM enc_0 (by decide) rfl rfl ⟨by show f + 1 ≤ 9; omega, by show 8 + (6 + 11) + w ≤ 300; omega⟩ ⟨Nat.zero_le _, Nat.zero_le _⟩ (by simp [Value.category]) dL_snap_5 rfl rfl ?_
  refine z_i2l C dL_snap_8 ?_
  refine z_last C (by decide) dL_snap_9 ?_
  refine z_goto (tgt := 21) C dL_snap_10 (by decide) ?_
  refine z_iconst (v := 0) C (by decide +kernel) dL_snap_21 ?_
  refine z_widen (k := 1) (n := 6) (by decide) (by decide) ?_
  exact hret _ _ dL_snap_22
set_option maxHeartbeats 4000000 in
set_option maxRecDepth 100000 in
theorem w_snap_cIO (l : Launch) (D : DD) (n0 : Nat) (κ μ : KH) (o : Int64) (p0 p1 : Int32) (f w : Nat) (hf : f ≤ 8) (hw : w ≤ 250) (hM : HT l D n0 yX4_snap cX4_snap 6 (some .int) f w [.ref (n0 + 0), .int p0, .int p1] (κ, μ, o) cIO) : HW l D n0 yL_snap cL_snap 5 [(0, 10, 13, 13), (0, 10, 17, 17)] [.ref (n0 + 0), .int p0, .int p1, .ref (n0 + 126)] (κ, μ, o) 1 (κ, μ, o) := by
  refine HW.of (by decide) (by simp [Value.category]) (by simp) ?_
  intro pp ee ss mm aa bb me cd Q C K htab hret
  show ZZ pp l ee (rmx 9 300) ss mm aa bb me cd D n0 127 5 0 0 Q _ 0 [some (.ref (n0 + 0)), some (.int p0), some (.int p1), some (.ref (n0 + 126)), none] []
  refine z_aload_n C rfl dL_snap_0 ?_
  refine z_iconst (v := 0) C (by decide +kernel) dL_snap_1 ?_
  refine z_aload_n C rfl dL_snap_2 ?_
  refine z_iload_n C rfl dL_snap_3 ?_
  refine z_iload_n C rfl dL_snap_4 ?_
  refine z_callVT (As := [.int p0, .int p1]) (E := cIO) (st := [.int 0, .ref (n0 + 126)]) C K ok_L_19 hM enc_0 (by decide) rfl rfl ⟨by show f + 1 ≤ 9; omega, by show 8 + (6 + 11) + w ≤ 300; omega⟩ ⟨Nat.le_refl _, Nat.le_refl _⟩ (by simp [Value.category]) dL_snap_5 rfl ?_
  refine fun H locs lsA q9 ce hP hS hl h1 h2 h3 => z_catch C K [] (0, 10, 13, 13) [(0, 10, 17, 17)] htab (by decide +kernel) (fun z hz => absurd hz List.not_mem_nil) (by decide) (by decide) (by decide) lk_IO (fun q9 => ?_) hP hS hl h1 h2 h3
  refine z_astore (ls' := [some (.ref (n0 + 0)), some (.int p0), some (.int p1), some (.ref (n0 + 126)), some (.ref q9)]) C (by decide) rfl dL_snap_13 ?_
  refine z_iconst (v := 1) C (by decide +kernel) dL_snap_15 ?_
  exact hret _ _ dL_snap_16
set_option maxHeartbeats 4000000 in
set_option maxRecDepth 100000 in
theorem w_snap_cIS (l : Launch) (D : DD) (n0 : Nat) (κ μ : KH) (o : Int64) (p0 p1 : Int32) (f w : Nat) (hf : f ≤ 8) (hw : w ≤ 250) (hM : HT l D n0 yX4_snap cX4_snap 6 (some .int) f w [.ref (n0 + 0), .int p0, .int p1] (κ, μ, o) cIS) : HW l D n0 yL_snap cL_snap 5 [(0, 10, 13, 13), (0, 10, 17, 17)] [.ref (n0 + 0), .int p0, .int p1, .ref (n0 + 126)] (κ, μ, o) 2 (κ, μ, o) := by
  refine HW.of (by decide) (by simp [Value.category]) (by simp) ?_
  intro pp ee ss mm aa bb me cd Q C K htab hret
  show ZZ pp l ee (rmx 9 300) ss mm aa bb me cd D n0 127 5 0 0 Q _ 0 [some (.ref (n0 + 0)), some (.int p0), some (.int p1), some (.ref (n0 + 126)), none] []
  refine z_aload_n C rfl dL_snap_0 ?_
  refine z_iconst (v := 0) C (by decide +kernel) dL_snap_1 ?_
  refine z_aload_n C rfl dL_snap_2 ?_
  refine z_iload_n C rfl dL_snap_3 ?_
  refine z_iload_n C rfl dL_snap_4 ?_
  refine z_callVT (As := [.int p0, .int p1]) (E := cIS) (st := [.int 0, .ref (n0 + 126)]) C K ok_L_19 hM enc_0 (by decide) rfl rfl ⟨by show f + 1 ≤ 9; omega, by show 8 + (6 + 11) + w ≤ 300; omega⟩ ⟨Nat.le_refl _, Nat.le_refl _⟩ (by simp [Value.category]) dL_snap_5 rfl ?_
  refine fun H locs lsA q9 ce hP hS hl h1 h2 h3 => z_catch C K [(0, 10, 13, 13)] (0, 10, 17, 17) [] htab (by decide +kernel) (fun z hz => by simp only [List.mem_cons, List.not_mem_nil, or_false] at hz; subst hz; exact ⟨by decide, cIO, lk_IO, by decide +kernel⟩) (by decide) (by decide) (by decide) lk_IS (fun q9 => ?_) hP hS hl h1 h2 h3
  refine z_astore (ls' := [some (.ref (n0 + 0)), some (.int p0), some (.int p1), some (.ref (n0 + 126)), some (.ref q9)]) C (by decide) rfl dL_snap_17 ?_
  refine z_iconst (v := 2) C (by decide +kernel) dL_snap_19 ?_
  exact hret _ _ dL_snap_20
set_option maxHeartbeats 4000000 in
set_option maxRecDepth 100000 in
theorem w_drop_ok (l : Launch) (D : DD) (n0 : Nat) (κ μ : KH) (o : Int64) (p0 : Int32) (f w : Nat) (hf : f ≤ 8) (hw : w ≤ 250) (κ1 : KH) (r : Int32) (hM : HM l D n0 yX4_drop cX4_drop 4 (some .int) f w [.ref (n0 + 0), .int p0] (κ, μ, o) (some (.int r)) (κ1, μ, o)) : HW l D n0 yL_drop cL_drop 4 [(0, 9, 12, 13)] [.ref (n0 + 0), .int p0, .ref (n0 + 126)] (κ, μ, o) 0 (κ1, μ, r.toInt64) := by
  refine HW.of (by decide) (by simp [Value.category]) (by simp) ?_
  intro pp ee ss mm aa bb me cd Q C K htab hret
  show ZZ pp l ee (rmx 9 300) ss mm aa bb me cd D n0 127 4 0 0 Q _ 0 [some (.ref (n0 + 0)), some (.int p0), some (.ref (n0 + 126)), none] []
  refine z_aload_n C rfl dL_drop_0 ?_
  refine z_iconst (v := 0) C (by decide +kernel) dL_drop_1 ?_
  refine z_aload_n C rfl dL_drop_2 ?_
  refine z_iload_n C rfl dL_drop_3 ?_
  refine z_callV (As := [.int p0]) (r := (some (.int r))) (σ1 := (κ1, μ, o)) (st := [.int 0, .ref (n0 + 126)]) (st1 := .int r :: [.int 0, .ref (n0 + 126)]) C K ok_L_23 hM enc_0 (by decide) rfl rfl ⟨by show f + 1 ≤ 9; omega, by show 8 + (4 + 11) + w ≤ 300; omega⟩ ⟨Nat.zero_le _, Nat.zero_le _⟩ (by simp [Value.category]) dL_drop_4 rfl rfl ?_
  refine z_i2l C dL_drop_7 ?_
  refine z_last C (by decide) dL_drop_8 ?_
  refine z_goto (tgt := 15) C dL_drop_9 (by decide) ?_
  refine z_iconst (v := 0) C (by decide +kernel) dL_drop_15 ?_
  refine z_widen (k := 1) (n := 6) (by decide) (by decide) ?_
  exact hret _ _ dL_drop_16
set_option maxHeartbeats 4000000 in
set_option maxRecDepth 100000 in
theorem w_drop_cIO (l : Launch) (D : DD) (n0 : Nat) (κ μ : KH) (o : Int64) (p0 : Int32) (f w : Nat) (hf : f ≤ 8) (hw : w ≤ 250) (hM : HT l D n0 yX4_drop cX4_drop 4 (some .int) f w [.ref (n0 + 0), .int p0] (κ, μ, o) cIO) : HW l D n0 yL_drop cL_drop 4 [(0, 9, 12, 13)] [.ref (n0 + 0), .int p0, .ref (n0 + 126)] (κ, μ, o) 1 (κ, μ, o) := by
  refine HW.of (by decide) (by simp [Value.category]) (by simp) ?_
  intro pp ee ss mm aa bb me cd Q C K htab hret
  show ZZ pp l ee (rmx 9 300) ss mm aa bb me cd D n0 127 4 0 0 Q _ 0 [some (.ref (n0 + 0)), some (.int p0), some (.ref (n0 + 126)), none] []
  refine z_aload_n C rfl dL_drop_0 ?_
  refine z_iconst (v := 0) C (by decide +kernel) dL_drop_1 ?_
  refine z_aload_n C rfl dL_drop_2 ?_
  refine z_iload_n C rfl dL_drop_3 ?_
  refine z_callVT (As := [.int p0]) (E := cIO) (st := [.int 0, .ref (n0 + 126)]) C K ok_L_23 hM enc_0 (by decide) rfl rfl ⟨by show f + 1 ≤ 9; omega, by show 8 + (4 + 11) + w ≤ 300; omega⟩ ⟨Nat.le_refl _, Nat.le_refl _⟩ (by simp [Value.category]) dL_drop_4 rfl ?_
  refine fun H locs lsA q9 ce hP hS hl h1 h2 h3 => z_catch C K [] (0, 9, 12, 13) [] htab (by decide +kernel) (fun z hz => absurd hz List.not_mem_nil) (by decide) (by decide) (by decide) lk_IO (fun q9 => ?_) hP hS hl h1 h2 h3
  refine z_astore_n (ls' := [some (.ref (n0 + 0)), some (.int p0), some (.ref (n0 + 126)), some (.ref q9)]) C (by decide) rfl dL_drop_12 ?_
  refine z_iconst (v := 1) C (by decide +kernel) dL_drop_13 ?_
  exact hret _ _ dL_drop_14
set_option maxHeartbeats 4000000 in
set_option maxRecDepth 100000 in
theorem w_resize_ok (l : Launch) (D : DD) (n0 : Nat) (κ μ : KH) (o : Int64) (p0 p1 : Int32) (f w : Nat) (hf : f ≤ 8) (hw : w ≤ 250) (κ1 : KH) (r : Int32) (hM : HM l D n0 yX4_resize cX4_resize 5 (some .int) f w [.ref (n0 + 0), .int p0, .int p1] (κ, μ, o) (some (.int r)) (κ1, μ, o)) : HW l D n0 yL_resize cL_resize 5 [(0, 10, 13, 13), (0, 10, 17, 15), (0, 10, 21, 17)] [.ref (n0 + 0), .int p0, .int p1, .ref (n0 + 126)] (κ, μ, o) 0 (κ1, μ, r.toInt64) := by
  refine HW.of (by decide) (by simp [Value.category]) (by simp) ?_
  intro pp ee ss mm aa bb me cd Q C K htab hret
  show ZZ pp l ee (rmx 9 300) ss mm aa bb me cd D n0 127 5 0 0 Q _ 0 [some (.ref (n0 + 0)), some (.int p0), some (.int p1), some (.ref (n0 + 126)), none] []
  refine z_aload_n C rfl dL_resize_0 ?_
  refine z_iconst (v := 0) C (by decide +kernel) dL_resize_1 ?_
  refine z_aload_n C rfl dL_resize_2 ?_
  refine z_iload_n C rfl dL_resize_3 ?_
  refine z_iload_n C rfl dL_resize_4 ?_
  refine z_callV (As := [.int p0, .int p1]) (r := (some (.int r))) (σ1 := (κ1, μ, o)) (st := [.int 0, .ref (n0 + 126)]) (st1 := .int r :: [.int 0, .ref (n0 + 126)]) C K ok_L_27 hM enc_0 (by decide) rfl rfl ⟨by show f + 1 ≤ 9; omega, by show 8 + (5 + 11) + w ≤ 300; omega⟩ ⟨Nat.zero_le _, Nat.zero_le _⟩ (by simp [Value.category]) dL_resize_5 rfl rfl ?_
  refine z_i2l C dL_resize_8 ?_
  refine z_last C (by decide) dL_resize_9 ?_
  refine z_goto (tgt := 25) C dL_resize_10 (by decide) ?_
  refine z_iconst (v := 0) C (by decide +kernel) dL_resize_25 ?_
  refine z_widen (k := 1) (n := 6) (by decide) (by decide) ?_
  exact hret _ _ dL_resize_26
set_option maxHeartbeats 4000000 in
set_option maxRecDepth 100000 in
theorem w_resize_cIO (l : Launch) (D : DD) (n0 : Nat) (κ μ : KH) (o : Int64) (p0 p1 : Int32) (f w : Nat) (hf : f ≤ 8) (hw : w ≤ 250) (hM : HT l D n0 yX4_resize cX4_resize 5 (some .int) f w [.ref (n0 + 0), .int p0, .int p1] (κ, μ, o) cIO) : HW l D n0 yL_resize cL_resize 5 [(0, 10, 13, 13), (0, 10, 17, 15), (0, 10, 21, 17)] [.ref (n0 + 0), .int p0, .int p1, .ref (n0 + 126)] (κ, μ, o) 1 (κ, μ, o) := by
  refine HW.of (by decide) (by simp [Value.category]) (by simp) ?_
  intro pp ee ss mm aa bb me cd Q C K htab hret
  show ZZ pp l ee (rmx 9 300) ss mm aa bb me cd D n0 127 5 0 0 Q _ 0 [some (.ref (n0 + 0)), some (.int p0), some (.int p1), some (.ref (n0 + 126)), none] []
  refine z_aload_n C rfl dL_resize_0 ?_
  refine z_iconst (v := 0) C (by decide +kernel) dL_resize_1 ?_
  refine z_aload_n C rfl dL_resize_2 ?_
  refine z_iload_n C rfl dL_resize_3 ?_
  refine z_iload_n C rfl dL_resize_4 ?_
  refine z_callVT (As := [.int p0, .int p1]) (E := cIO) (st := [.int 0, .ref (n0 + 126)]) C K ok_L_27 hM enc_0 (by decide) rfl rfl ⟨by show f + 1 ≤ 9; omega, by show 8 + (5 + 11) + w ≤ 300; omega⟩ ⟨Nat.le_refl _, Nat.le_refl _⟩ (by simp [Value.category]) dL_resize_5 rfl ?_
  refine fun H locs lsA q9 ce hP hS hl h1 h2 h3 => z_catch C K [] (0, 10, 13, 13) [(0, 10, 17, 15), (0, 10, 21, 17)] htab (by decide +kernel) (fun z hz => absurd hz List.not_mem_nil) (by decide) (by decide) (by decide) lk_IO (fun q9 => ?_) hP hS hl h1 h2 h3
  refine z_astore (ls' := [some (.ref (n0 + 0)), some (.int p0), some (.int p1), some (.ref (n0 + 126)), some (.ref q9)]) C (by decide) rfl dL_resize_13 ?_
  refine z_iconst (v := 1) C (by decide +kernel) dL_resize_15 ?_
  exact hret _ _ dL_resize_16
set_option maxHeartbeats 4000000 in
set_option maxRecDepth 100000 in
theorem w_resize_cIA (l : Launch) (D : DD) (n0 : Nat) (κ μ : KH) (o : Int64) (p0 p1 : Int32) (f w : Nat) (hf : f ≤ 8) (hw : w ≤ 250) (hM : HT l D n0 yX4_resize cX4_resize 5 (some .int) f w [.ref (n0 + 0), .int p0, .int p1] (κ, μ, o) cIA) : HW l D n0 yL_resize cL_resize 5 [(0, 10, 13, 13), (0, 10, 17, 15), (0, 10, 21, 17)] [.ref (n0 + 0), .int p0, .int p1, .ref (n0 + 126)] (κ, μ, o) 2 (κ, μ, o) := by
  refine HW.of (by decide) (by simp [Value.category]) (by simp) ?_
  intro pp ee ss mm aa bb me cd Q C K htab hret
  show ZZ pp l ee (rmx 9 300) ss mm aa bb me cd D n0 127 5 0 0 Q _ 0 [some (.ref (n0 + 0)), some (.int p0), some (.int p1), some (.ref (n0 + 126)), none] []
  refine z_aload_n C rfl dL_resize_0 ?_
  refine z_iconst (v := 0) C (by decide +kernel) dL_resize_1 ?_
  refine z_aload_n C rfl dL_resize_2 ?_
  refine z_iload_n C rfl dL_resize_3 ?_
  refine z_iload_n C rfl dL_resize_4 ?_
  refine z_callVT (As := [.int p0, .int p1]) (E := cIA) (st := [.int 0, .ref (n0 + 126)]) C K ok_L_27 hM enc_0 (by decide) rfl rfl ⟨by show f + 1 ≤ 9; omega, by show 8 + (5 + 11) + w ≤ 300; omega⟩ ⟨Nat.le_refl _, Nat.le_refl _⟩ (by simp [Value.category]) dL_resize_5 rfl ?_
  refine fun H locs lsA q9 ce hP hS hl h1 h2 h3 => z_catch C K [(0, 10, 13, 13)] (0, 10, 17, 15) [(0, 10, 21, 17)] htab (by decide +kernel) (fun z hz => by simp only [List.mem_cons, List.not_mem_nil, or_false] at hz; subst hz; exact ⟨by decide, cIO, lk_IO, by decide +kernel⟩) (by decide) (by decide) (by decide) lk_IA (fun q9 => ?_) hP hS hl h1 h2 h3
  refine z_astore (ls' := [some (.ref (n0 + 0)), some (.int p0), some (.int p1), some (.ref (n0 + 126)), some (.ref q9)]) C (by decide) rfl dL_resize_17 ?_
  refine z_iconst (v := 2) C (by decide +kernel) dL_resize_19 ?_
  exact hret _ _ dL_resize_20
set_option maxHeartbeats 4000000 in
set_option maxRecDepth 100000 in
theorem w_resize_cIS (l : Launch) (D : DD) (n0 : Nat) (κ μ : KH) (o : Int64) (p0 p1 : Int32) (f w : Nat) (hf : f ≤ 8) (hw : w ≤ 250) (hM : HT l D n0 yX4_resize cX4_resize 5 (some .int) f w [.ref (n0 + 0), .int p0, .int p1] (κ, μ, o) cIS) : HW l D n0 yL_resize cL_resize 5 [(0, 10, 13, 13), (0, 10, 17, 15), (0, 10, 21, 17)] [.ref (n0 + 0), .int p0, .int p1, .ref (n0 + 126)] (κ, μ, o) 3 (κ, μ, o) := by
  refine HW.of (by decide) (by simp [Value.category]) (by simp) ?_
  intro pp ee ss mm aa bb me cd Q C K htab hret
  show ZZ pp l ee (rmx 9 300) ss mm aa bb me cd D n0 127 5 0 0 Q _ 0 [some (.ref (n0 + 0)), some (.int p0), some (.int p1), some (.ref (n0 + 126)), none] []
  refine z_aload_n C rfl dL_resize_0 ?_
  refine z_iconst (v := 0) C (by decide +kernel) dL_resize_1 ?_
  refine z_aload_n C rfl dL_resize_2 ?_
  refine z_iload_n C rfl dL_resize_3 ?_
  refine z_iload_n C rfl dL_resize_4 ?_
  refine z_callVT (As := [.int p0, .int p1]) (E := cIS) (st := [.int 0, .ref (n0 + 126)]) C K ok_L_27 hM enc_0 (by decide) rfl rfl ⟨by show f + 1 ≤ 9; omega, by show 8 + (5 + 11) + w ≤ 300; omega⟩ ⟨Nat.le_refl _, Nat.le_refl _⟩ (by simp [Value.category]) dL_resize_5 rfl ?_
  refine fun H locs lsA q9 ce hP hS hl h1 h2 h3 => z_catch C K [(0, 10, 13, 13), (0, 10, 17, 15)] (0, 10, 21, 17) [] htab (by decide +kernel) (fun z hz => by simp only [List.mem_cons, List.not_mem_nil, or_false] at hz; rcases hz with rfl | rfl; exact ⟨by decide, cIO, lk_IO, by decide +kernel⟩; exact ⟨by decide, cIA, lk_IA, by decide +kernel⟩) (by decide) (by decide) (by decide) lk_IS (fun q9 => ?_) hP hS hl h1 h2 h3
  refine z_astore (ls' := [some (.ref (n0 + 0)), some (.int p0), some (.int p1), some (.ref (n0 + 126)), some (.ref q9)]) C (by decide) rfl dL_resize_21 ?_
  refine z_iconst (v := 3) C (by decide +kernel) dL_resize_23 ?_
  exact hret _ _ dL_resize_24
set_option maxHeartbeats 4000000 in
set_option maxRecDepth 100000 in
theorem w_write_ok (l : Launch) (D : DD) (n0 : Nat) (κ μ : KH) (o : Int64) (p0 p1 p2 : Int32) (f w : Nat) (hf : f ≤ 8) (hw : w ≤ 250) (κ1 : KH) (r : Int32) (hM : HM l D n0 yX4_write cX4_write 6 (some .int) f w [.ref (n0 + 0), .int p0, .int p1, .int p2] (κ, μ, o) (some (.int r)) (κ1, μ, o)) : HW l D n0 yL_write cL_write 6 [(0, 12, 15, 13)] [.ref (n0 + 0), .int p0, .int p1, .int p2, .ref (n0 + 126)] (κ, μ, o) 0 (κ1, μ, r.toInt64) := by
  refine HW.of (by decide) (by simp [Value.category]) (by simp) ?_
  intro pp ee ss mm aa bb me cd Q C K htab hret
  show ZZ pp l ee (rmx 9 300) ss mm aa bb me cd D n0 127 6 0 0 Q _ 0 [some (.ref (n0 + 0)), some (.int p0), some (.int p1), some (.int p2), some (.ref (n0 + 126)), none] []
  refine z_aload C rfl dL_write_0 ?_
  refine z_iconst (v := 0) C (by decide +kernel) dL_write_2 ?_
  refine z_aload_n C rfl dL_write_3 ?_
  refine z_iload_n C rfl dL_write_4 ?_
  refine z_iload_n C rfl dL_write_5 ?_
  refine z_iload_n C rfl dL_write_6 ?_
  refine z_callV (As := [.int p0, .int p1, .int p2]) (r := (some (.int r))) (σ1 := (κ1, μ, o)) (st := [.int 0, .ref (n0 + 126)]) (st1 := .int r :: [.int 0, .ref (n0 + 126)]) C K ok_L_30 hM enc_0 (by decide) rfl rfl ⟨by show f + 1 ≤ 9; omega, by show 8 + (6 + 11) + w ≤ 300; omega⟩ ⟨Nat.zero_le _, Nat.zero_le _⟩ (by simp [Value.category]) dL_write_7 rfl rfl ?_
  refine z_i2l C dL_write_10 ?_
  refine z_last C (by decide) dL_write_11 ?_
  refine z_goto (tgt := 19) C dL_write_12 (by decide) ?_
  refine z_iconst (v := 0) C (by decide +kernel) dL_write_19 ?_
  refine z_widen (k := 1) (n := 6) (by decide) (by decide) ?_
  exact hret _ _ dL_write_20
set_option maxHeartbeats 4000000 in
set_option maxRecDepth 100000 in
theorem w_write_cIO (l : Launch) (D : DD) (n0 : Nat) (κ μ : KH) (o : Int64) (p0 p1 p2 : Int32) (f w : Nat) (hf : f ≤ 8) (hw : w ≤ 250) (hM : HT l D n0 yX4_write cX4_write 6 (some .int) f w [.ref (n0 + 0), .int p0, .int p1, .int p2] (κ, μ, o) cIO) : HW l D n0 yL_write cL_write 6 [(0, 12, 15, 13)] [.ref (n0 + 0), .int p0, .int p1, .int p2, .ref (n0 + 126)] (κ, μ, o) 1 (κ, μ, o) := by
  refine HW.of (by decide) (by simp [Value.category]) (by simp) ?_
  intro pp ee ss mm aa bb me cd Q C K htab hret
  show ZZ pp l ee (rmx 9 300) ss mm aa bb me cd D n0 127 6 0 0 Q _ 0 [some (.ref (n0 + 0)), some (.int p0), some (.int p1), some (.int p2), some (.ref (n0 + 126)), none] []
  refine z_aload C rfl dL_write_0 ?_
  refine z_iconst (v := 0) C (by decide +kernel) dL_write_2 ?_
  refine z_aload_n C rfl dL_write_3 ?_
  refine z_iload_n C rfl dL_write_4 ?_
  refine z_iload_n C rfl dL_write_5 ?_
  refine z_iload_n C rfl dL_write_6 ?_
  refine z_callVT (As := [.int p0, .int p1, .int p2]) (E := cIO) (st := [.int 0, .ref (n0 + 126)]) C K ok_L_30 hM enc_0 (by decide) rfl rfl ⟨by show f + 1 ≤ 9; omega, by show 8 + (6 + 11) + w ≤ 300; omega⟩ ⟨Nat.le_refl _, Nat.le_refl _⟩ (by simp [Value.category]) dL_write_7 rfl ?_
  refine fun H locs lsA q9 ce hP hS hl h1 h2 h3 => z_catch C K [] (0, 12, 15, 13) [] htab (by decide +kernel) (fun z hz => absurd hz List.not_mem_nil) (by decide) (by decide) (by decide) lk_IO (fun q9 => ?_) hP hS hl h1 h2 h3
  refine z_astore (ls' := [some (.ref (n0 + 0)), some (.int p0), some (.int p1), some (.int p2), some (.ref (n0 + 126)), some (.ref q9)]) C (by decide) rfl dL_write_15 ?_
  refine z_iconst (v := 1) C (by decide +kernel) dL_write_17 ?_
  exact hret _ _ dL_write_18
set_option maxHeartbeats 4000000 in
set_option maxRecDepth 100000 in
theorem w_read_ok (l : Launch) (D : DD) (n0 : Nat) (κ μ : KH) (o : Int64) (p0 p1 : Int32) (f w : Nat) (hf : f ≤ 8) (hw : w ≤ 250) (κ1 : KH) (r : Int32) (hM : HM l D n0 yX4_read cX4_read 4 (some .int) f w [.ref (n0 + 0), .int p0, .int p1] (κ, μ, o) (some (.int r)) (κ1, μ, o)) : HW l D n0 yL_read cL_read 5 [(0, 10, 13, 13)] [.ref (n0 + 0), .int p0, .int p1, .ref (n0 + 126)] (κ, μ, o) 0 (κ1, μ, r.toInt64) := by
  refine HW.of (by decide) (by simp [Value.category]) (by simp) ?_
  intro pp ee ss mm aa bb me cd Q C K htab hret
  show ZZ pp l ee (rmx 9 300) ss mm aa bb me cd D n0 127 5 0 0 Q _ 0 [some (.ref (n0 + 0)), some (.int p0), some (.int p1), some (.ref (n0 + 126)), none] []
  refine z_aload_n C rfl dL_read_0 ?_
  refine z_iconst (v := 0) C (by decide +kernel) dL_read_1 ?_
  refine z_aload_n C rfl dL_read_2 ?_
  refine z_iload_n C rfl dL_read_3 ?_
  refine z_iload_n C rfl dL_read_4 ?_
  refine z_callV (As := [.int p0, .int p1]) (r := (some (.int r))) (σ1 := (κ1, μ, o)) (st := [.int 0, .ref (n0 + 126)]) (st1 := .int r :: [.int 0, .ref (n0 + 126)]) C K ok_L_34 hM enc_0 (by decide) rfl rfl ⟨by show f + 1 ≤ 9; omega, by show 8 + (4 + 11) + w ≤ 300; omega⟩ ⟨Nat.zero_le _, Nat.zero_le _⟩ (by simp [Value.category]) dL_read_5 rfl rfl ?_
  refine z_i2l C dL_read_8 ?_
  refine z_last C (by decide) dL_read_9 ?_
  refine z_goto (tgt := 17) C dL_read_10 (by decide) ?_
  refine z_iconst (v := 0) C (by decide +kernel) dL_read_17 ?_
  refine z_widen (k := 1) (n := 6) (by decide) (by decide) ?_
  exact hret _ _ dL_read_18
set_option maxHeartbeats 4000000 in
set_option maxRecDepth 100000 in
theorem w_read_cIO (l : Launch) (D : DD) (n0 : Nat) (κ μ : KH) (o : Int64) (p0 p1 : Int32) (f w : Nat) (hf : f ≤ 8) (hw : w ≤ 250) (hM : HT l D n0 yX4_read cX4_read 4 (some .int) f w [.ref (n0 + 0), .int p0, .int p1] (κ, μ, o) cIO) : HW l D n0 yL_read cL_read 5 [(0, 10, 13, 13)] [.ref (n0 + 0), .int p0, .int p1, .ref (n0 + 126)] (κ, μ, o) 1 (κ, μ, o) := by
  refine HW.of (by decide) (by simp [Value.category]) (by simp) ?_
  intro pp ee ss mm aa bb me cd Q C K htab hret
  show ZZ pp l ee (rmx 9 300) ss mm aa bb me cd D n0 127 5 0 0 Q _ 0 [some (.ref (n0 + 0)), some (.int p0), some (.int p1), some (.ref (n0 + 126)), none] []
  refine z_aload_n C rfl dL_read_0 ?_
  refine z_iconst (v := 0) C (by decide +kernel) dL_read_1 ?_
  refine z_aload_n C rfl dL_read_2 ?_
  refine z_iload_n C rfl dL_read_3 ?_
  refine z_iload_n C rfl dL_read_4 ?_
  refine z_callVT (As := [.int p0, .int p1]) (E := cIO) (st := [.int 0, .ref (n0 + 126)]) C K ok_L_34 hM enc_0 (by decide) rfl rfl ⟨by show f + 1 ≤ 9; omega, by show 8 + (4 + 11) + w ≤ 300; omega⟩ ⟨Nat.le_refl _, Nat.le_refl _⟩ (by simp [Value.category]) dL_read_5 rfl ?_
  refine fun H locs lsA q9 ce hP hS hl h1 h2 h3 => z_catch C K [] (0, 10, 13, 13) [] htab (by decide +kernel) (fun z hz => absurd hz List.not_mem_nil) (by decide) (by decide) (by decide) lk_IO (fun q9 => ?_) hP hS hl h1 h2 h3
  refine z_astore (ls' := [some (.ref (n0 + 0)), some (.int p0), some (.int p1), some (.ref (n0 + 126)), some (.ref q9)]) C (by decide) rfl dL_read_13 ?_
  refine z_iconst (v := 1) C (by decide +kernel) dL_read_15 ?_
  exact hret _ _ dL_read_16
set_option maxHeartbeats 4000000 in
set_option maxRecDepth 100000 in
theorem w_discard_ok (l : Launch) (D : DD) (n0 : Nat) (κ μ : KH) (o : Int64) (p0 p1 p2 : Int32) (f w : Nat) (hf : f ≤ 8) (hw : w ≤ 250) (κ1 : KH) (r : Int32) (hM : HM l D n0 yX4_discard cX4_discard 6 (some .int) f w [.ref (n0 + 0), .int p0, .int p1, .int p2] (κ, μ, o) (some (.int r)) (κ1, μ, o)) : HW l D n0 yL_discard cL_discard 6 [(0, 12, 15, 13), (0, 12, 19, 17)] [.ref (n0 + 0), .int p0, .int p1, .int p2, .ref (n0 + 126)] (κ, μ, o) 0 (κ1, μ, r.toInt64) := by
  refine HW.of (by decide) (by simp [Value.category]) (by simp) ?_
  intro pp ee ss mm aa bb me cd Q C K htab hret
  show ZZ pp l ee (rmx 9 300) ss mm aa bb me cd D n0 127 6 0 0 Q _ 0 [some (.ref (n0 + 0)), some (.int p0), some (.int p1), some (.int p2), some (.ref (n0 + 126)), none] []
  refine z_aload C rfl dL_discard_0 ?_
  refine z_iconst (v := 0) C (by decide +kernel) dL_discard_2 ?_
  refine z_aload_n C rfl dL_discard_3 ?_
  refine z_iload_n C rfl dL_discard_4 ?_
  refine z_iload_n C rfl dL_discard_5 ?_
  refine z_iload_n C rfl dL_discard_6 ?_
  refine z_callV (As := [.int p0, .int p1, .int p2]) (r := (some (.int r))) (σ1 := (κ1, μ, o)) (st := [.int 0, .ref (n0 + 126)]) (st1 := .int r :: [.int 0, .ref (n0 + 126)]) C K ok_L_37 hM enc_0 (by decide) rfl rfl ⟨by show f + 1 ≤ 9; omega, by show 8 + (6 + 11) + w ≤ 300; omega⟩ ⟨Nat.zero_le _, Nat.zero_le _⟩ (by simp [Value.category]) dL_discard_7 rfl rfl ?_
  refine z_i2l C dL_discard_10 ?_
  refine z_last C (by decide) dL_discard_11 ?_
  refine z_goto (tgt := 23) C dL_discard_12 (by decide) ?_
  refine z_iconst (v := 0) C (by decide +kernel) dL_discard_23 ?_
  refine z_widen (k := 1) (n := 6) (by decide) (by decide) ?_
  exact hret _ _ dL_discard_24
set_option maxHeartbeats 4000000 in
set_option maxRecDepth 100000 in
theorem w_discard_cIO (l : Launch) (D : DD) (n0 : Nat) (κ μ : KH) (o : Int64) (p0 p1 p2 : Int32) (f w : Nat) (hf : f ≤ 8) (hw : w ≤ 250) (hM : HT l D n0 yX4_discard cX4_discard 6 (some .int) f w [.ref (n0 + 0), .int p0, .int p1, .int p2] (κ, μ, o) cIO) : HW l D n0 yL_discard cL_discard 6 [(0, 12, 15, 13), (0, 12, 19, 17)] [.ref (n0 + 0), .int p0, .int p1, .int p2, .ref (n0 + 126)] (κ, μ, o) 1 (κ, μ, o) := by
  refine HW.of (by decide) (by simp [Value.category]) (by simp) ?_
  intro pp ee ss mm aa bb me cd Q C K htab hret
  show ZZ pp l ee (rmx 9 300) ss mm aa bb me cd D n0 127 6 0 0 Q _ 0 [some (.ref (n0 + 0)), some (.int p0), some (.int p1), some (.int p2), some (.ref (n0 + 126)), none] []
  refine z_aload C rfl dL_discard_0 ?_
  refine z_iconst (v := 0) C (by decide +kernel) dL_discard_2 ?_
  refine z_aload_n C rfl dL_discard_3 ?_
  refine z_iload_n C rfl dL_discard_4 ?_
  refine z_iload_n C rfl dL_discard_5 ?_
  refine z_iload_n C rfl dL_discard_6 ?_
  refine z_callVT (As := [.int p0, .int p1, .int p2]) (E := cIO) (st := [.int 0, .ref (n0 + 126)]) C K ok_L_37 hM enc_0 (by decide) rfl rfl ⟨by show f + 1 ≤ 9; omega, by show 8 + (6 + 11) + w ≤ 300; omega⟩ ⟨Nat.le_refl _, Nat.le_refl _⟩ (by simp [Value.category]) dL_discard_7 rfl ?_
  refine fun H locs lsA q9 ce hP hS hl h1 h2 h3 => z_catch C K [] (0, 12, 15, 13) [(0, 12, 19, 17)] htab (by decide +kernel) (fun z hz => absurd hz List.not_mem_nil) (by decide) (by decide) (by decide) lk_IO (fun q9 => ?_) hP hS hl h1 h2 h3
  refine z_astore (ls' := [some (.ref (n0 + 0)), some (.int p0), some (.int p1), some (.int p2), some (.ref (n0 + 126)), some (.ref q9)]) C (by decide) rfl dL_discard_15 ?_
  refine z_iconst (v := 1) C (by decide +kernel) dL_discard_17 ?_
  exact hret _ _ dL_discard_18
set_option maxHeartbeats 4000000 in
set_option maxRecDepth 100000 in
theorem w_discard_cIS (l : Launch) (D : DD) (n0 : Nat) (κ μ : KH) (o : Int64) (p0 p1 p2 : Int32) (f w : Nat) (hf : f ≤ 8) (hw : w ≤ 250) (hM : HT l D n0 yX4_discard cX4_discard 6 (some .int) f w [.ref (n0 + 0), .int p0, .int p1, .int p2] (κ, μ, o) cIS) : HW l D n0 yL_discard cL_discard 6 [(0, 12, 15, 13), (0, 12, 19, 17)] [.ref (n0 + 0), .int p0, .int p1, .int p2, .ref (n0 + 126)] (κ, μ, o) 2 (κ, μ, o) := by
  refine HW.of (by decide) (by simp [Value.category]) (by simp) ?_
  intro pp ee ss mm aa bb me cd Q C K htab hret
  show ZZ pp l ee (rmx 9 300) ss mm aa bb me cd D n0 127 6 0 0 Q _ 0 [some (.ref (n0 + 0)), some (.int p0), some (.int p1), some (.int p2), some (.ref (n0 + 126)), none] []
  refine z_aload C rfl dL_discard_0 ?_
  refine z_iconst (v := 0) C (by decide +kernel) dL_discard_2 ?_
  refine z_aload_n C rfl dL_discard_3 ?_
  refine z_iload_n C rfl dL_discard_4 ?_
  refine z_iload_n C rfl dL_discard_5 ?_
  refine z_iload_n C rfl dL_discard_6 ?_
  refine z_callVT (As := [.int p0, .int p1, .int p2]) (E := cIS) (st := [.int 0, .ref (n0 + 126)]) C K ok_L_37 hM enc_0 (by decide) rfl rfl ⟨by show f + 1 ≤ 9; omega, by show 8 + (6 + 11) + w ≤ 300; omega⟩ ⟨Nat.le_refl _, Nat.le_refl _⟩ (by simp [Value.category]) dL_discard_7 rfl ?_
  refine fun H locs lsA q9 ce hP hS hl h1 h2 h3 => z_catch C K [(0, 12, 15, 13)] (0, 12, 19, 17) [] htab (by decide +kernel) (fun z hz => by simp only [List.mem_cons, List.not_mem_nil, or_false] at hz; subst hz; exact ⟨by decide, cIO, lk_IO, by decide +kernel⟩) (by decide) (by decide) (by decide) lk_IS (fun q9 => ?_) hP hS hl h1 h2 h3
  refine z_astore (ls' := [some (.ref (n0 + 0)), some (.int p0), some (.int p1), some (.int p2), some (.ref (n0 + 126)), some (.ref q9)]) C (by decide) rfl dL_discard_19 ?_
  refine z_iconst (v := 2) C (by decide +kernel) dL_discard_21 ?_
  exact hret _ _ dL_discard_22
set_option maxHeartbeats 4000000 in
set_option maxRecDepth 100000 in
theorem w_grow_ok (l : Launch) (D : DD) (n0 : Nat) (κ μ : KH) (o : Int64) (p0 : Int32) (f w : Nat) (hf : f ≤ 8) (hw : w ≤ 250) (κ1 : KH) (r : Int32) (hM : HM l D n0 yX4_grow cX4_grow 2 (some .int) f w [.ref (n0 + 0), .int p0] (κ, μ, o) (some (.int r)) (κ1, μ, o)) : HW l D n0 yL_grow cL_grow 4 [(0, 9, 12, 15)] [.ref (n0 + 0), .int p0, .ref (n0 + 126)] (κ, μ, o) 0 (κ1, μ, r.toInt64) := by
  refine HW.of (by decide) (by simp [Value.category]) (by simp) ?_
  intro pp ee ss mm aa bb me cd Q C K htab hret
  show ZZ pp l ee (rmx 9 300) ss mm aa bb me cd D n0 127 4 0 0 Q _ 0 [some (.ref (n0 + 0)), some (.int p0), some (.ref (n0 + 126)), none] []
  refine z_aload_n C rfl dL_grow_0 ?_
  refine z_iconst (v := 0) C (by decide +kernel) dL_grow_1 ?_
  refine z_aload_n C rfl dL_grow_2 ?_
  refine z_iload_n C rfl dL_grow_3 ?_
  refine z_callV (As := [.int p0]) (r := (some (.int r))) (σ1 := (κ1, μ, o)) (st := [.int 0, .ref (n0 + 126)]) (st1 := .int r :: [.int 0, .ref (n0 + 126)]) C K ok_L_40 hM enc_0 (by decide) rfl rfl ⟨by show f + 1 ≤ 9; omega, by show 8 + (2 + 11) + w ≤ 300; omega⟩ ⟨Nat.zero_le _, Nat.zero_le _⟩ (by simp [Value.category]) dL_grow_4 rfl rfl ?_
  refine z_i2l C dL_grow_7 ?_
  refine z_last C (by decide) dL_grow_8 ?_
  refine z_goto (tgt := 15) C dL_grow_9 (by decide) ?_
  refine z_iconst (v := 0) C (by decide +kernel) dL_grow_15 ?_
  refine z_widen (k := 1) (n := 6) (by decide) (by decide) ?_
  exact hret _ _ dL_grow_16
set_option maxHeartbeats 4000000 in
set_option maxRecDepth 100000 in
theorem w_grow_cIA (l : Launch) (D : DD) (n0 : Nat) (κ μ : KH) (o : Int64) (p0 : Int32) (f w : Nat) (hf : f ≤ 8) (hw : w ≤ 250) (hM : HT l D n0 yX4_grow cX4_grow 2 (some .int) f w [.ref (n0 + 0), .int p0] (κ, μ, o) cIA) : HW l D n0 yL_grow cL_grow 4 [(0, 9, 12, 15)] [.ref (n0 + 0), .int p0, .ref (n0 + 126)] (κ, μ, o) 1 (κ, μ, o) := by
  refine HW.of (by decide) (by simp [Value.category]) (by simp) ?_
  intro pp ee ss mm aa bb me cd Q C K htab hret
  show ZZ pp l ee (rmx 9 300) ss mm aa bb me cd D n0 127 4 0 0 Q _ 0 [some (.ref (n0 + 0)), some (.int p0), some (.ref (n0 + 126)), none] []
  refine z_aload_n C rfl dL_grow_0 ?_
  refine z_iconst (v := 0) C (by decide +kernel) dL_grow_1 ?_
  refine z_aload_n C rfl dL_grow_2 ?_
  refine z_iload_n C rfl dL_grow_3 ?_
  refine z_callVT (As := [.int p0]) (E := cIA) (st := [.int 0, .ref (n0 + 126)]) C K ok_L_40 hM enc_0 (by decide) rfl rfl ⟨by show f + 1 ≤ 9; omega, by show 8 + (2 + 11) + w ≤ 300; omega⟩ ⟨Nat.le_refl _, Nat.le_refl _⟩ (by simp [Value.category]) dL_grow_4 rfl ?_
  refine fun H locs lsA q9 ce hP hS hl h1 h2 h3 => z_catch C K [] (0, 9, 12, 15) [] htab (by decide +kernel) (fun z hz => absurd hz List.not_mem_nil) (by decide) (by decide) (by decide) lk_IA (fun q9 => ?_) hP hS hl h1 h2 h3
  refine z_astore_n (ls' := [some (.ref (n0 + 0)), some (.int p0), some (.ref (n0 + 126)), some (.ref q9)]) C (by decide) rfl dL_grow_12 ?_
  refine z_iconst (v := 1) C (by decide +kernel) dL_grow_13 ?_
  exact hret _ _ dL_grow_14
set_option maxHeartbeats 4000000 in
set_option maxRecDepth 100000 in
theorem w_shrink_ok (l : Launch) (D : DD) (n0 : Nat) (κ μ : KH) (o : Int64) (p0 : Int32) (f w : Nat) (hf : f ≤ 8) (hw : w ≤ 250) (κ1 : KH) (r : Int32) (hM : HM l D n0 yX4_shrink cX4_shrink 2 (some .int) f w [.ref (n0 + 0), .int p0] (κ, μ, o) (some (.int r)) (κ1, μ, o)) : HW l D n0 yL_shrink cL_shrink 4 [(0, 9, 12, 15)] [.ref (n0 + 0), .int p0, .ref (n0 + 126)] (κ, μ, o) 0 (κ1, μ, r.toInt64) := by
  refine HW.of (by decide) (by simp [Value.category]) (by simp) ?_
  intro pp ee ss mm aa bb me cd Q C K htab hret
  show ZZ pp l ee (rmx 9 300) ss mm aa bb me cd D n0 127 4 0 0 Q _ 0 [some (.ref (n0 + 0)), some (.int p0), some (.ref (n0 + 126)), none] []
  refine z_aload_n C rfl dL_shrink_0 ?_
  refine z_iconst (v := 0) C (by decide +kernel) dL_shrink_1 ?_
  refine z_aload_n C rfl dL_shrink_2 ?_
  refine z_iload_n C rfl dL_shrink_3 ?_
  refine z_callV (As := [.int p0]) (r := (some (.int r))) (σ1 := (κ1, μ, o)) (st := [.int 0, .ref (n0 + 126)]) (st1 := .int r :: [.int 0, .ref (n0 + 126)]) C K ok_L_43 hM enc_0 (by decide) rfl rfl ⟨by show f + 1 ≤ 9; omega, by show 8 + (2 + 11) + w ≤ 300; omega⟩ ⟨Nat.zero_le _, Nat.zero_le _⟩ (by simp [Value.category]) dL_shrink_4 rfl rfl ?_
  refine z_i2l C dL_shrink_7 ?_
  refine z_last C (by decide) dL_shrink_8 ?_
  refine z_goto (tgt := 15) C dL_shrink_9 (by decide) ?_
  refine z_iconst (v := 0) C (by decide +kernel) dL_shrink_15 ?_
  refine z_widen (k := 1) (n := 6) (by decide) (by decide) ?_
  exact hret _ _ dL_shrink_16
set_option maxHeartbeats 4000000 in
set_option maxRecDepth 100000 in
theorem w_shrink_cIA (l : Launch) (D : DD) (n0 : Nat) (κ μ : KH) (o : Int64) (p0 : Int32) (f w : Nat) (hf : f ≤ 8) (hw : w ≤ 250) (hM : HT l D n0 yX4_shrink cX4_shrink 2 (some .int) f w [.ref (n0 + 0), .int p0] (κ, μ, o) cIA) : HW l D n0 yL_shrink cL_shrink 4 [(0, 9, 12, 15)] [.ref (n0 + 0), .int p0, .ref (n0 + 126)] (κ, μ, o) 1 (κ, μ, o) := by
  refine HW.of (by decide) (by simp [Value.category]) (by simp) ?_
  intro pp ee ss mm aa bb me cd Q C K htab hret
  show ZZ pp l ee (rmx 9 300) ss mm aa bb me cd D n0 127 4 0 0 Q _ 0 [some (.ref (n0 + 0)), some (.int p0), some (.ref (n0 + 126)), none] []
  refine z_aload_n C rfl dL_shrink_0 ?_
  refine z_iconst (v := 0) C (by decide +kernel) dL_shrink_1 ?_
  refine z_aload_n C rfl dL_shrink_2 ?_
  refine z_iload_n C rfl dL_shrink_3 ?_
  refine z_callVT (As := [.int p0]) (E := cIA) (st := [.int 0, .ref (n0 + 126)]) C K ok_L_43 hM enc_0 (by decide) rfl rfl ⟨by show f + 1 ≤ 9; omega, by show 8 + (2 + 11) + w ≤ 300; omega⟩ ⟨Nat.le_refl _, Nat.le_refl _⟩ (by simp [Value.category]) dL_shrink_4 rfl ?_
  refine fun H locs lsA q9 ce hP hS hl h1 h2 h3 => z_catch C K [] (0, 9, 12, 15) [] htab (by decide +kernel) (fun z hz => absurd hz List.not_mem_nil) (by decide) (by decide) (by decide) lk_IA (fun q9 => ?_) hP hS hl h1 h2 h3
  refine z_astore_n (ls' := [some (.ref (n0 + 0)), some (.int p0), some (.ref (n0 + 126)), some (.ref q9)]) C (by decide) rfl dL_shrink_12 ?_
  refine z_iconst (v := 1) C (by decide +kernel) dL_shrink_13 ?_
  exact hret _ _ dL_shrink_14
set_option maxHeartbeats 4000000 in
set_option maxRecDepth 100000 in
theorem w_back_ok (l : Launch) (D : DD) (n0 : Nat) (κ μ : KH) (o : Int64) (p0 p1 : Int32) (f w : Nat) (hf : f ≤ 8) (hw : w ≤ 250) (κ1 : KH) (r : Int32) (hM : HM l D n0 yX4_back cX4_back 4 (some .int) f w [.ref (n0 + 0), .int p0, .int p1] (κ, μ, o) (some (.int r)) (κ1, μ, o)) : HW l D n0 yL_back cL_back 5 [(0, 10, 13, 13), (0, 10, 17, 17)] [.ref (n0 + 0), .int p0, .int p1, .ref (n0 + 126)] (κ, μ, o) 0 (κ1, μ, r.toInt64) := by
  refine HW.of (by decide) (by simp [Value.category]) (by simp) ?_
  intro pp ee ss mm aa bb me cd Q C K htab hret
  show ZZ pp l ee (rmx 9 300) ss mm aa bb me cd D n0 127 5 0 0 Q _ 0 [some (.ref (n0 + 0)), some (.int p0), some (.int p1), some (.ref (n0 + 126)), none] []
  refine z_aload_n C rfl dL_back_0 ?_
  refine z_iconst (v := 0) C (by decide +kernel) dL_back_1 ?_
  refine z_aload_n C rfl dL_back_2 ?_
  refine z_iload_n C rfl dL_back_3 ?_
  refine z_iload_n C rfl dL_back_4 ?_
  refine z_callV (As := [.int p0, .int p1]) (r := (some (.int r))) (σ1 := (κ1, μ, o)) (st := [.int 0, .ref (n0 + 126)]) (st1 := .int r :: [.int 0, .ref (n0 + 126)]) C K ok_L_46 hM enc_0 (by decide) rfl rfl ⟨by show f + 1 ≤ 9; omega, by show 8 + (4 + 11) + w ≤ 300; omega⟩ ⟨Nat.zero_le _, Nat.zero_le _⟩ (by simp [Value.category]) dL_back_5 rfl rfl ?_
  refine z_i2l C dL_back_8 ?_
  refine z_last C (by decide) dL_back_9 ?_
  refine z_goto (tgt := 21) C dL_back_10 (by decide) ?_
  refine z_iconst (v := 0) C (by decide +kernel) dL_back_21 ?_
  refine z_widen (k := 1) (n := 6) (by decide) (by decide) ?_
  exact hret _ _ dL_back_22
set_option maxHeartbeats 4000000 in
set_option maxRecDepth 100000 in
theorem w_back_cIO (l : Launch) (D : DD) (n0 : Nat) (κ μ : KH) (o : Int64) (p0 p1 : Int32) (f w : Nat) (hf : f ≤ 8) (hw : w ≤ 250) (hM : HT l D n0 yX4_back cX4_back 4 (some .int) f w [.ref (n0 + 0), .int p0, .int p1] (κ, μ, o) cIO) : HW l D n0 yL_back cL_back 5 [(0, 10, 13, 13), (0, 10, 17, 17)] [.ref (n0 + 0), .int p0, .int p1, .ref (n0 + 126)] (κ, μ, o) 1 (κ, μ, o) := by
  refine HW.of (by decide) (by simp [Value.category]) (by simp) ?_
  intro pp ee ss mm aa bb me cd Q C K htab hret
  show ZZ pp l ee (rmx 9 300) ss mm aa bb me cd D n0 127 5 0 0 Q _ 0 [some (.ref (n0 + 0)), some (.int p0), some (.int p1), some (.ref (n0 + 126)), none] []
  refine z_aload_n C rfl dL_back_0 ?_
  refine z_iconst (v := 0) C (by decide +kernel) dL_back_1 ?_
  refine z_aload_n C rfl dL_back_2 ?_
  refine z_iload_n C rfl dL_back_3 ?_
  refine z_iload_n C rfl dL_back_4 ?_
  refine z_callVT (As := [.int p0, .int p1]) (E := cIO) (st := [.int 0, .ref (n0 + 126)]) C K ok_L_46 hM enc_0 (by decide) rfl rfl ⟨by show f + 1 ≤ 9; omega, by show 8 + (4 + 11) + w ≤ 300; omega⟩ ⟨Nat.le_refl _, Nat.le_refl _⟩ (by simp [Value.category]) dL_back_5 rfl ?_
  refine fun H locs lsA q9 ce hP hS hl h1 h2 h3 => z_catch C K [] (0, 10, 13, 13) [(0, 10, 17, 17)] htab (by decide +kernel) (fun z hz => absurd hz List.not_mem_nil) (by decide) (by decide) (by decide) lk_IO (fun q9 => ?_) hP hS hl h1 h2 h3
  refine z_astore (ls' := [some (.ref (n0 + 0)), some (.int p0), some (.int p1), some (.ref (n0 + 126)), some (.ref q9)]) C (by decide) rfl dL_back_13 ?_
  refine z_iconst (v := 1) C (by decide +kernel) dL_back_15 ?_
  exact hret _ _ dL_back_16
set_option maxHeartbeats 4000000 in
set_option maxRecDepth 100000 in
theorem w_back_cIS (l : Launch) (D : DD) (n0 : Nat) (κ μ : KH) (o : Int64) (p0 p1 : Int32) (f w : Nat) (hf : f ≤ 8) (hw : w ≤ 250) (hM : HT l D n0 yX4_back cX4_back 4 (some .int) f w [.ref (n0 + 0), .int p0, .int p1] (κ, μ, o) cIS) : HW l D n0 yL_back cL_back 5 [(0, 10, 13, 13), (0, 10, 17, 17)] [.ref (n0 + 0), .int p0, .int p1, .ref (n0 + 126)] (κ, μ, o) 2 (κ, μ, o) := by
  refine HW.of (by decide) (by simp [Value.category]) (by simp) ?_
  intro pp ee ss mm aa bb me cd Q C K htab hret
  show ZZ pp l ee (rmx 9 300) ss mm aa bb me cd D n0 127 5 0 0 Q _ 0 [some (.ref (n0 + 0)), some (.int p0), some (.int p1), some (.ref (n0 + 126)), none] []
  refine z_aload_n C rfl dL_back_0 ?_
  refine z_iconst (v := 0) C (by decide +kernel) dL_back_1 ?_
  refine z_aload_n C rfl dL_back_2 ?_
  refine z_iload_n C rfl dL_back_3 ?_
  refine z_iload_n C rfl dL_back_4 ?_
  refine z_callVT (As := [.int p0, .int p1]) (E := cIS) (st := [.int 0, .ref (n0 + 126)]) C K ok_L_46 hM enc_0 (by decide) rfl rfl ⟨by show f + 1 ≤ 9; omega, by show 8 + (4 + 11) + w ≤ 300; omega⟩ ⟨Nat.le_refl _, Nat.le_refl _⟩ (by simp [Value.category]) dL_back_5 rfl ?_
  refine fun H locs lsA q9 ce hP hS hl h1 h2 h3 => z_catch C K [(0, 10, 13, 13)] (0, 10, 17, 17) [] htab (by decide +kernel) (fun z hz => by simp only [List.mem_cons, List.not_mem_nil, or_false] at hz; subst hz; exact ⟨by decide, cIO, lk_IO, by decide +kernel⟩) (by decide) (by decide) (by decide) lk_IS (fun q9 => ?_) hP hS hl h1 h2 h3
  refine z_astore (ls' := [some (.ref (n0 + 0)), some (.int p0), some (.int p1), some (.ref (n0 + 126)), some (.ref q9)]) C (by decide) rfl dL_back_17 ?_
  refine z_iconst (v := 2) C (by decide +kernel) dL_back_19 ?_
  exact hret _ _ dL_back_20
set_option maxHeartbeats 4000000 in
set_option maxRecDepth 100000 in
theorem w_quota_ok (l : Launch) (D : DD) (n0 : Nat) (κ μ : KH) (o : Int64) (p0 p1 : Int32) (f w : Nat) (hf : f ≤ 8) (hw : w ≤ 250) (κ1 : KH) (r : Int32) (hM : HM l D n0 yX4_quota cX4_quota 5 (some .int) f w [.ref (n0 + 0), .int p0, .int p1] (κ, μ, o) (some (.int r)) (κ1, μ, o)) : HW l D n0 yL_quota cL_quota 5 [(0, 10, 13, 13), (0, 10, 17, 15)] [.ref (n0 + 0), .int p0, .int p1, .ref (n0 + 126)] (κ, μ, o) 0 (κ1, μ, r.toInt64) := by
  refine HW.of (by decide) (by simp [Value.category]) (by simp) ?_
  intro pp ee ss mm aa bb me cd Q C K htab hret
  show ZZ pp l ee (rmx 9 300) ss mm aa bb me cd D n0 127 5 0 0 Q _ 0 [some (.ref (n0 + 0)), some (.int p0), some (.int p1), some (.ref (n0 + 126)), none] []
  refine z_aload_n C rfl dL_quota_0 ?_
  refine z_iconst (v := 0) C (by decide +kernel) dL_quota_1 ?_
  refine z_aload_n C rfl dL_quota_2 ?_
  refine z_iload_n C rfl dL_quota_3 ?_
  refine z_iload_n C rfl dL_quota_4 ?_
  refine z_callV (As := [.int p0, .int p1]) (r := (some (.int r))) (σ1 := (κ1, μ, o)) (st := [.int 0, .ref (n0 + 126)]) (st1 := .int r :: [.int 0, .ref (n0 + 126)]) C K ok_L_49 hM enc_0 (by decide) rfl rfl ⟨by show f + 1 ≤ 9; omega, by show 8 + (5 + 11) + w ≤ 300; omega⟩ ⟨Nat.zero_le _, Nat.zero_le _⟩ (by simp [Value.category]) dL_quota_5 rfl rfl ?_
  refine z_i2l C dL_quota_8 ?_
  refine z_last C (by decide) dL_quota_9 ?_
  refine z_goto (tgt := 21) C dL_quota_10 (by decide) ?_
  refine z_iconst (v := 0) C (by decide +kernel) dL_quota_21 ?_
  refine z_widen (k := 1) (n := 6) (by decide) (by decide) ?_
  exact hret _ _ dL_quota_22
set_option maxHeartbeats 4000000 in
set_option maxRecDepth 100000 in
theorem w_quota_cIO (l : Launch) (D : DD) (n0 : Nat) (κ μ : KH) (o : Int64) (p0 p1 : Int32) (f w : Nat) (hf : f ≤ 8) (hw : w ≤ 250) (hM : HT l D n0 yX4_quota cX4_quota 5 (some .int) f w [.ref (n0 + 0), .int p0, .int p1] (κ, μ, o) cIO) : HW l D n0 yL_quota cL_quota 5 [(0, 10, 13, 13), (0, 10, 17, 15)] [.ref (n0 + 0), .int p0, .int p1, .ref (n0 + 126)] (κ, μ, o) 1 (κ, μ, o) := by
  refine HW.of (by decide) (by simp [Value.category]) (by simp) ?_
  intro pp ee ss mm aa bb me cd Q C K htab hret
  show ZZ pp l ee (rmx 9 300) ss mm aa bb me cd D n0 127 5 0 0 Q _ 0 [some (.ref (n0 + 0)), some (.int p0), some (.int p1), some (.ref (n0 + 126)), none] []
  refine z_aload_n C rfl dL_quota_0 ?_
  refine z_iconst (v := 0) C (by decide +kernel) dL_quota_1 ?_
  refine z_aload_n C rfl dL_quota_2 ?_
  refine z_iload_n C rfl dL_quota_3 ?_
  refine z_iload_n C rfl dL_quota_4 ?_
  refine z_callVT (As := [.int p0, .int p1]) (E := cIO) (st := [.int 0, .ref (n0 + 126)]) C K ok_L_49 hM enc_0 (by decide) rfl rfl ⟨by show f + 1 ≤ 9; omega, by show 8 + (5 + 11) + w ≤ 300; omega⟩ ⟨Nat.le_refl _, Nat.le_refl _⟩ (by simp [Value.category]) dL_quota_5 rfl ?_
  refine fun H locs lsA q9 ce hP hS hl h1 h2 h3 => z_catch C K [] (0, 10, 13, 13) [(0, 10, 17, 15)] htab (by decide +kernel) (fun z hz => absurd hz List.not_mem_nil) (by decide) (by decide) (by decide) lk_IO (fun q9 => ?_) hP hS hl h1 h2 h3
  refine z_astore (ls' := [some (.ref (n0 + 0)), some (.int p0), some (.int p1), some (.ref (n0 + 126)), some (.ref q9)]) C (by decide) rfl dL_quota_13 ?_
  refine z_iconst (v := 1) C (by decide +kernel) dL_quota_15 ?_
  exact hret _ _ dL_quota_16
set_option maxHeartbeats 4000000 in
set_option maxRecDepth 100000 in
theorem w_quota_cIA (l : Launch) (D : DD) (n0 : Nat) (κ μ : KH) (o : Int64) (p0 p1 : Int32) (f w : Nat) (hf : f ≤ 8) (hw : w ≤ 250) (hM : HT l D n0 yX4_quota cX4_quota 5 (some .int) f w [.ref (n0 + 0), .int p0, .int p1] (κ, μ, o) cIA) : HW l D n0 yL_quota cL_quota 5 [(0, 10, 13, 13), (0, 10, 17, 15)] [.ref (n0 + 0), .int p0, .int p1, .ref (n0 + 126)] (κ, μ, o) 2 (κ, μ, o) := by
  refine HW.of (by decide) (by simp [Value.category]) (by simp) ?_
  intro pp ee ss mm aa bb me cd Q C K htab hret
  show ZZ pp l ee (rmx 9 300) ss mm aa bb me cd D n0 127 5 0 0 Q _ 0 [some (.ref (n0 + 0)), some (.int p0), some (.int p1), some (.ref (n0 + 126)), none] []
  refine z_aload_n C rfl dL_quota_0 ?_
  refine z_iconst (v := 0) C (by decide +kernel) dL_quota_1 ?_
  refine z_aload_n C rfl dL_quota_2 ?_
  refine z_iload_n C rfl dL_quota_3 ?_
  refine z_iload_n C rfl dL_quota_4 ?_
  refine z_callVT (As := [.int p0, .int p1]) (E := cIA) (st := [.int 0, .ref (n0 + 126)]) C K ok_L_49 hM enc_0 (by decide) rfl rfl ⟨by show f + 1 ≤ 9; omega, by show 8 + (5 + 11) + w ≤ 300; omega⟩ ⟨Nat.le_refl _, Nat.le_refl _⟩ (by simp [Value.category]) dL_quota_5 rfl ?_
  refine fun H locs lsA q9 ce hP hS hl h1 h2 h3 => z_catch C K [(0, 10, 13, 13)] (0, 10, 17, 15) [] htab (by decide +kernel) (fun z hz => by simp only [List.mem_cons, List.not_mem_nil, or_false] at hz; subst hz; exact ⟨by decide, cIO, lk_IO, by decide +kernel⟩) (by decide) (by decide) (by decide) lk_IA (fun q9 => ?_) hP hS hl h1 h2 h3
  refine z_astore (ls' := [some (.ref (n0 + 0)), some (.int p0), some (.int p1), some (.ref (n0 + 126)), some (.ref q9)]) C (by decide) rfl dL_quota_17 ?_
  refine z_iconst (v := 2) C (by decide +kernel) dL_quota_19 ?_
  exact hret _ _ dL_quota_20
set_option maxHeartbeats 4000000 in
set_option maxRecDepth 100000 in
theorem w_marked_ok (l : Launch) (D : DD) (n0 : Nat) (κ μ : KH) (o : Int64) (p0 : Int32) (f w : Nat) (hf : f ≤ 8) (hw : w ≤ 250) (κ1 : KH) (r : Int32) (hM : HM l D n0 yX4_marked cX4_marked 2 (some .int) f w [.ref (n0 + 0), .int p0] (κ, μ, o) (some (.int r)) (κ1, μ, o)) : HW l D n0 yL_marked cL_marked 4 [(0, 9, 12, 15)] [.ref (n0 + 0), .int p0, .ref (n0 + 126)] (κ, μ, o) 0 (κ1, μ, r.toInt64) := by
  refine HW.of (by decide) (by simp [Value.category]) (by simp) ?_
  intro pp ee ss mm aa bb me cd Q C K htab hret
  show ZZ pp l ee (rmx 9 300) ss mm aa bb me cd D n0 127 4 0 0 Q _ 0 [some (.ref (n0 + 0)), some (.int p0), some (.ref (n0 + 126)), none] []
  refine z_aload_n C rfl dL_marked_0 ?_
  refine z_iconst (v := 0) C (by decide +kernel) dL_marked_1 ?_
  refine z_aload_n C rfl dL_marked_2 ?_
  refine z_iload_n C rfl dL_marked_3 ?_
  refine z_callV (As := [.int p0]) (r := (some (.int r))) (σ1 := (κ1, μ, o)) (st := [.int 0, .ref (n0 + 126)]) (st1 := .int r :: [.int 0, .ref (n0 + 126)]) C K ok_L_52 hM enc_0 (by decide) rfl rfl ⟨by show f + 1 ≤ 9; omega, by show 8 + (2 + 11) + w ≤ 300; omega⟩ ⟨Nat.zero_le _, Nat.zero_le _⟩ (by simp [Value.category]) dL_marked_4 rfl rfl ?_
  refine z_i2l C dL_marked_7 ?_
  refine z_last C (by decide) dL_marked_8 ?_
  refine z_goto (tgt := 15) C dL_marked_9 (by decide) ?_
  refine z_iconst (v := 0) C (by decide +kernel) dL_marked_15 ?_
  refine z_widen (k := 1) (n := 6) (by decide) (by decide) ?_
  exact hret _ _ dL_marked_16
set_option maxHeartbeats 4000000 in
set_option maxRecDepth 100000 in
theorem w_marked_cIA (l : Launch) (D : DD) (n0 : Nat) (κ μ : KH) (o : Int64) (p0 : Int32) (f w : Nat) (hf : f ≤ 8) (hw : w ≤ 250) (hM : HT l D n0 yX4_marked cX4_marked 2 (some .int) f w [.ref (n0 + 0), .int p0] (κ, μ, o) cIA) : HW l D n0 yL_marked cL_marked 4 [(0, 9, 12, 15)] [.ref (n0 + 0), .int p0, .ref (n0 + 126)] (κ, μ, o) 1 (κ, μ, o) := by
  refine HW.of (by decide) (by simp [Value.category]) (by simp) ?_
  intro pp ee ss mm aa bb me cd Q C K htab hret
  show ZZ pp l ee (rmx 9 300) ss mm aa bb me cd D n0 127 4 0 0 Q _ 0 [some (.ref (n0 + 0)), some (.int p0), some (.ref (n0 + 126)), none] []
  refine z_aload_n C rfl dL_marked_0 ?_
  refine z_iconst (v := 0) C (by decide +kernel) dL_marked_1 ?_
  refine z_aload_n C rfl dL_marked_2 ?_
  refine z_iload_n C rfl dL_marked_3 ?_
  refine z_callVT (As := [.int p0]) (E := cIA) (st := [.int 0, .ref (n0 + 126)]) C K ok_L_52 hM enc_0 (by decide) rfl rfl ⟨by show f + 1 ≤ 9; omega, by show 8 + (2 + 11) + w ≤ 300; omega⟩ ⟨Nat.le_refl _, Nat.le_refl _⟩ (by simp [Value.category]) dL_marked_4 rfl ?_
  refine fun H locs lsA q9 ce hP hS hl h1 h2 h3 => z_catch C K [] (0, 9, 12, 15) [] htab (by decide +kernel) (fun z hz => absurd hz List.not_mem_nil) (by decide) (by decide) (by decide) lk_IA (fun q9 => ?_) hP hS hl h1 h2 h3
  refine z_astore_n (ls' := [some (.ref (n0 + 0)), some (.int p0), some (.ref (n0 + 126)), some (.ref q9)]) C (by decide) rfl dL_marked_12 ?_
  refine z_iconst (v := 1) C (by decide +kernel) dL_marked_13 ?_
  exact hret _ _ dL_marked_14
set_option maxHeartbeats 4000000 in
set_option maxRecDepth 100000 in
theorem w_cut_ok (l : Launch) (D : DD) (n0 : Nat) (κ μ : KH) (o : Int64) (p0 : Int32) (f w : Nat) (hf : f ≤ 8) (hw : w ≤ 250) (κ1 : KH) (r : Int32) (hM : HM l D n0 yX4_cut cX4_cut 2 (some .int) f w [.ref (n0 + 0), .int p0] (κ, μ, o) (some (.int r)) (κ1, μ, o)) : HW l D n0 yL_cut cL_cut 4 [(0, 9, 12, 15)] [.ref (n0 + 0), .int p0, .ref (n0 + 126)] (κ, μ, o) 0 (κ1, μ, r.toInt64) := by
  refine HW.of (by decide) (by simp [Value.category]) (by simp) ?_
  intro pp ee ss mm aa bb me cd Q C K htab hret
  show ZZ pp l ee (rmx 9 300) ss mm aa bb me cd D n0 127 4 0 0 Q _ 0 [some (.ref (n0 + 0)), some (.int p0), some (.ref (n0 + 126)), none] []
  refine z_aload_n C rfl dL_cut_0 ?_
  refine z_iconst (v := 0) C (by decide +kernel) dL_cut_1 ?_
  refine z_aload_n C rfl dL_cut_2 ?_
  refine z_iload_n C rfl dL_cut_3 ?_
  refine z_callV (As := [.int p0]) (r := (some (.int r))) (σ1 := (κ1, μ, o)) (st := [.int 0, .ref (n0 + 126)]) (st1 := .int r :: [.int 0, .ref (n0 + 126)]) C K ok_L_55 hM enc_0 (by decide) rfl rfl ⟨by show f + 1 ≤ 9; omega, by show 8 + (2 + 11) + w ≤ 300; omega⟩ ⟨Nat.zero_le _, Nat.zero_le _⟩ (by simp [Value.category]) dL_cut_4 rfl rfl ?_
  refine z_i2l C dL_cut_7 ?_
  refine z_last C (by decide) dL_cut_8 ?_
  refine z_goto (tgt := 15) C dL_cut_9 (by decide) ?_
  refine z_iconst (v := 0) C (by decide +kernel) dL_cut_15 ?_
  refine z_widen (k := 1) (n := 6) (by decide) (by decide) ?_
  exact hret _ _ dL_cut_16
set_option maxHeartbeats 4000000 in
set_option maxRecDepth 100000 in
theorem w_cut_cIA (l : Launch) (D : DD) (n0 : Nat) (κ μ : KH) (o : Int64) (p0 : Int32) (f w : Nat) (hf : f ≤ 8) (hw : w ≤ 250) (hM : HT l D n0 yX4_cut cX4_cut 2 (some .int) f w [.ref (n0 + 0), .int p0] (κ, μ, o) cIA) : HW l D n0 yL_cut cL_cut 4 [(0, 9, 12, 15)] [.ref (n0 + 0), .int p0, .ref (n0 + 126)] (κ, μ, o) 1 (κ, μ, o) := by
  refine HW.of (by decide) (by simp [Value.category]) (by simp) ?_
  intro pp ee ss mm aa bb me cd Q C K htab hret
  show ZZ pp l ee (rmx 9 300) ss mm aa bb me cd D n0 127 4 0 0 Q _ 0 [some (.ref (n0 + 0)), some (.int p0), some (.ref (n0 + 126)), none] []
  refine z_aload_n C rfl dL_cut_0 ?_
  refine z_iconst (v := 0) C (by decide +kernel) dL_cut_1 ?_
  refine z_aload_n C rfl dL_cut_2 ?_
  refine z_iload_n C rfl dL_cut_3 ?_
  refine z_callVT (As := [.int p0]) (E := cIA) (st := [.int 0, .ref (n0 + 126)]) C K ok_L_55 hM enc_0 (by decide) rfl rfl ⟨by show f + 1 ≤ 9; omega, by show 8 + (2 + 11) + w ≤ 300; omega⟩ ⟨Nat.le_refl _, Nat.le_refl _⟩ (by simp [Value.category]) dL_cut_4 rfl ?_
  refine fun H locs lsA q9 ce hP hS hl h1 h2 h3 => z_catch C K [] (0, 9, 12, 15) [] htab (by decide +kernel) (fun z hz => absurd hz List.not_mem_nil) (by decide) (by decide) (by decide) lk_IA (fun q9 => ?_) hP hS hl h1 h2 h3
  refine z_astore_n (ls' := [some (.ref (n0 + 0)), some (.int p0), some (.ref (n0 + 126)), some (.ref q9)]) C (by decide) rfl dL_cut_12 ?_
  refine z_iconst (v := 1) C (by decide +kernel) dL_cut_13 ?_
  exact hret _ _ dL_cut_14
set_option maxHeartbeats 4000000 in
set_option maxRecDepth 100000 in
theorem w_hold_ok (l : Launch) (D : DD) (n0 : Nat) (κ μ : KH) (o : Int64) (f w : Nat) (hf : f ≤ 8) (hw : w ≤ 250) (κ1 : KH) (r : Int32) (hM : HM l D n0 yX4_hold cX4_hold 1 (some .int) f w [.ref (n0 + 0)] (κ, μ, o) (some (.int r)) (κ1, μ, o)) : HW l D n0 yL_hold cL_hold 3 [(0, 8, 11, 17)] [.ref (n0 + 0), .ref (n0 + 126)] (κ, μ, o) 0 (κ1, μ, r.toInt64) := by
  refine HW.of (by decide) (by simp [Value.category]) (by simp) ?_
  intro pp ee ss mm aa bb me cd Q C K htab hret
  show ZZ pp l ee (rmx 9 300) ss mm aa bb me cd D n0 127 3 0 0 Q _ 0 [some (.ref (n0 + 0)), some (.ref (n0 + 126)), none] []
  refine z_aload_n C rfl dL_hold_0 ?_
  refine z_iconst (v := 0) C (by decide +kernel) dL_hold_1 ?_
  refine z_aload_n C rfl dL_hold_2 ?_
  refine z_callV (As := []) (r := (some (.int r))) (σ1 := (κ1, μ, o)) (st := [.int 0, .ref (n0 + 126)]) (st1 := .int r :: [.int 0, .ref (n0 + 126)]) C K ok_L_58 hM enc_0 (by decide) rfl rfl ⟨by show f + 1 ≤ 9; omega, by show 8 + (1 + 11) + w ≤ 300; omega⟩ ⟨Nat.zero_le _, Nat.zero_le _⟩ (by simp [Value.category]) dL_hold_3 rfl rfl ?_
  refine z_i2l C dL_hold_6 ?_
  refine z_last C (by decide) dL_hold_7 ?_
  refine z_goto (tgt := 14) C dL_hold_8 (by decide) ?_
  refine z_iconst (v := 0) C (by decide +kernel) dL_hold_14 ?_
  refine z_widen (k := 1) (n := 6) (by decide) (by decide) ?_
  exact hret _ _ dL_hold_15
set_option maxHeartbeats 4000000 in
set_option maxRecDepth 100000 in
theorem w_hold_cIS (l : Launch) (D : DD) (n0 : Nat) (κ μ : KH) (o : Int64) (f w : Nat) (hf : f ≤ 8) (hw : w ≤ 250) (hM : HT l D n0 yX4_hold cX4_hold 1 (some .int) f w [.ref (n0 + 0)] (κ, μ, o) cIS) : HW l D n0 yL_hold cL_hold 3 [(0, 8, 11, 17)] [.ref (n0 + 0), .ref (n0 + 126)] (κ, μ, o) 1 (κ, μ, o) := by
  refine HW.of (by decide) (by simp [Value.category]) (by simp) ?_
  intro pp ee ss mm aa bb me cd Q C K htab hret
  show ZZ pp l ee (rmx 9 300) ss mm aa bb me cd D n0 127 3 0 0 Q _ 0 [some (.ref (n0 + 0)), some (.ref (n0 + 126)), none] []
  refine z_aload_n C rfl dL_hold_0 ?_
  refine z_iconst (v := 0) C (by decide +kernel) dL_hold_1 ?_
  refine z_aload_n C rfl dL_hold_2 ?_
  refine z_callVT (As := []) (E := cIS) (st := [.int 0, .ref (n0 + 126)]) C K ok_L_58 hM enc_0 (by decide) rfl rfl ⟨by show f + 1 ≤ 9; omega, by show 8 + (1 + 11) + w ≤ 300; omega⟩ ⟨Nat.le_refl _, Nat.le_refl _⟩ (by simp [Value.category]) dL_hold_3 rfl ?_
  refine fun H locs lsA q9 ce hP hS hl h1 h2 h3 => z_catch C K [] (0, 8, 11, 17) [] htab (by decide +kernel) (fun z hz => absurd hz List.not_mem_nil) (by decide) (by decide) (by decide) lk_IS (fun q9 => ?_) hP hS hl h1 h2 h3
  refine z_astore_n (ls' := [some (.ref (n0 + 0)), some (.ref (n0 + 126)), some (.ref q9)]) C (by decide) rfl dL_hold_11 ?_
  refine z_iconst (v := 1) C (by decide +kernel) dL_hold_12 ?_
  exact hret _ _ dL_hold_13
set_option maxHeartbeats 4000000 in
set_option maxRecDepth 100000 in
theorem w_patience_ok (l : Launch) (D : DD) (n0 : Nat) (κ μ : KH) (o : Int64) (p0 : Int32) (f w : Nat) (hf : f ≤ 8) (hw : w ≤ 250) (κ1 : KH) (r : Int32) (hM : HM l D n0 yX4_patience cX4_patience 3 (some .int) f w [.ref (n0 + 0), .int p0] (κ, μ, o) (some (.int r)) (κ1, μ, o)) : HW l D n0 yL_patience cL_patience 4 [(0, 9, 12, 15)] [.ref (n0 + 0), .int p0, .ref (n0 + 126)] (κ, μ, o) 0 (κ1, μ, r.toInt64) := by
  refine HW.of (by decide) (by simp [Value.category]) (by simp) ?_
  intro pp ee ss mm aa bb me cd Q C K htab hret
  show ZZ pp l ee (rmx 9 300) ss mm aa bb me cd D n0 127 4 0 0 Q _ 0 [some (.ref (n0 + 0)), some (.int p0), some (.ref (n0 + 126)), none] []
  refine z_aload_n C rfl dL_patience_0 ?_
  refine z_iconst (v := 0) C (by decide +kernel) dL_patience_1 ?_
  refine z_aload_n C rfl dL_patience_2 ?_
  refine z_iload_n C rfl dL_patience_3 ?_
  refine z_callV (As := [.int p0]) (r := (some (.int r))) (σ1 := (κ1, μ, o)) (st := [.int 0, .ref (n0 + 126)]) (st1 := .int r :: [.int 0, .ref (n0 + 126)]) C K ok_L_62 hM enc_0 (by decide) rfl rfl ⟨by show f + 1 ≤ 9; omega, by show 8 + (3 + 11) + w ≤ 300; omega⟩ ⟨Nat.zero_le _, Nat.zero_le _⟩ (by simp [Value.category]) dL_patience_4 rfl rfl ?_
  refine z_i2l C dL_patience_7 ?_
  refine z_last C (by decide) dL_patience_8 ?_
  refine z_goto (tgt := 15) C dL_patience_9 (by decide) ?_
  refine z_iconst (v := 0) C (by decide +kernel) dL_patience_15 ?_
  refine z_widen (k := 1) (n := 6) (by decide) (by decide) ?_
  exact hret _ _ dL_patience_16
set_option maxHeartbeats 4000000 in
set_option maxRecDepth 100000 in
theorem w_patience_cIA (l : Launch) (D : DD) (n0 : Nat) (κ μ : KH) (o : Int64) (p0 : Int32) (f w : Nat) (hf : f ≤ 8) (hw : w ≤ 250) (hM : HT l D n0 yX4_patience cX4_patience 3 (some .int) f w [.ref (n0 + 0), .int p0] (κ, μ, o) cIA) : HW l D n0 yL_patience cL_patience 4 [(0, 9, 12, 15)] [.ref (n0 + 0), .int p0, .ref (n0 + 126)] (κ, μ, o) 1 (κ, μ, o) := by
  refine HW.of (by decide) (by simp [Value.category]) (by simp) ?_
  intro pp ee ss mm aa bb me cd Q C K htab hret
  show ZZ pp l ee (rmx 9 300) ss mm aa bb me cd D n0 127 4 0 0 Q _ 0 [some (.ref (n0 + 0)), some (.int p0), some (.ref (n0 + 126)), none] []
  refine z_aload_n C rfl dL_patience_0 ?_
  refine z_iconst (v := 0) C (by decide +kernel) dL_patience_1 ?_
  refine z_aload_n C rfl dL_patience_2 ?_
  refine z_iload_n C rfl dL_patience_3 ?_
  refine z_callVT (As := [.int p0]) (E := cIA) (st := [.int 0, .ref (n0 + 126)]) C K ok_L_62 hM enc_0 (by decide) rfl rfl ⟨by show f + 1 ≤ 9; omega, by show 8 + (3 + 11) + w ≤ 300; omega⟩ ⟨Nat.le_refl _, Nat.le_refl _⟩ (by simp [Value.category]) dL_patience_4 rfl ?_
  refine fun H locs lsA q9 ce hP hS hl h1 h2 h3 => z_catch C K [] (0, 9, 12, 15) [] htab (by decide +kernel) (fun z hz => absurd hz List.not_mem_nil) (by decide) (by decide) (by decide) lk_IA (fun q9 => ?_) hP hS hl h1 h2 h3
  refine z_astore_n (ls' := [some (.ref (n0 + 0)), some (.int p0), some (.ref (n0 + 126)), some (.ref q9)]) C (by decide) rfl dL_patience_12 ?_
  refine z_iconst (v := 1) C (by decide +kernel) dL_patience_13 ?_
  exact hret _ _ dL_patience_14
set_option maxHeartbeats 4000000 in
set_option maxRecDepth 100000 in
theorem w_alarm_ok (l : Launch) (D : DD) (n0 : Nat) (κ μ : KH) (o : Int64) (p0 : Int32) (f w : Nat) (hf : f ≤ 8) (hw : w ≤ 250) (κ1 : KH) (r : Int32) (hM : HM l D n0 yX4_alarm cX4_alarm 3 (some .int) f w [.ref (n0 + 0), .int p0] (κ, μ, o) (some (.int r)) (κ1, μ, o)) : HW l D n0 yL_alarm cL_alarm 4 [(0, 9, 12, 15)] [.ref (n0 + 0), .int p0, .ref (n0 + 126)] (κ, μ, o) 0 (κ1, μ, r.toInt64) := by
  refine HW.of (by decide) (by simp [Value.category]) (by simp) ?_
  intro pp ee ss mm aa bb me cd Q C K htab hret
  show ZZ pp l ee (rmx 9 300) ss mm aa bb me cd D n0 127 4 0 0 Q _ 0 [some (.ref (n0 + 0)), some (.int p0), some (.ref (n0 + 126)), none] []
  refine z_aload_n C rfl dL_alarm_0 ?_
  refine z_iconst (v := 0) C (by decide +kernel) dL_alarm_1 ?_
  refine z_aload_n C rfl dL_alarm_2 ?_
  refine z_iload_n C rfl dL_alarm_3 ?_
  refine z_callV (As := [.int p0]) (r := (some (.int r))) (σ1 := (κ1, μ, o)) (st := [.int 0, .ref (n0 + 126)]) (st1 := .int r :: [.int 0, .ref (n0 + 126)]) C K ok_L_65 hM enc_0 (by decide) rfl rfl ⟨by show f + 1 ≤ 9; omega, by show 8 + (3 + 11) + w ≤ 300; omega⟩ ⟨Nat.zero_le _, Nat.zero_le _⟩ (by simp [Value.category]) dL_alarm_4 rfl rfl ?_
  refine z_i2l C dL_alarm_7 ?_
  refine z_last C (by decide) dL_alarm_8 ?_
  refine z_goto (tgt := 15) C dL_alarm_9 (by decide) ?_
  refine z_iconst (v := 0) C (by decide +kernel) dL_alarm_15 ?_
  refine z_widen (k := 1) (n := 6) (by decide) (by decide) ?_
  exact hret _ _ dL_alarm_16
set_option maxHeartbeats 4000000 in
set_option maxRecDepth 100000 in
theorem w_alarm_cIA (l : Launch) (D : DD) (n0 : Nat) (κ μ : KH) (o : Int64) (p0 : Int32) (f w : Nat) (hf : f ≤ 8) (hw : w ≤ 250) (hM : HT l D n0 yX4_alarm cX4_alarm 3 (some .int) f w [.ref (n0 + 0), .int p0] (κ, μ, o) cIA) : HW l D n0 yL_alarm cL_alarm 4 [(0, 9, 12, 15)] [.ref (n0 + 0), .int p0, .ref (n0 + 126)] (κ, μ, o) 1 (κ, μ, o) := by
  refine HW.of (by decide) (by simp [Value.category]) (by simp) ?_
  intro pp ee ss mm aa bb me cd Q C K htab hret
  show ZZ pp l ee (rmx 9 300) ss mm aa bb me cd D n0 127 4 0 0 Q _ 0 [some (.ref (n0 + 0)), some (.int p0), some (.ref (n0 + 126)), none] []
  refine z_aload_n C rfl dL_alarm_0 ?_
  refine z_iconst (v := 0) C (by decide +kernel) dL_alarm_1 ?_
  refine z_aload_n C rfl dL_alarm_2 ?_
  refine z_iload_n C rfl dL_alarm_3 ?_
  refine z_callVT (As := [.int p0]) (E := cIA) (st := [.int 0, .ref (n0 + 126)]) C K ok_L_65 hM enc_0 (by decide) rfl rfl ⟨by show f + 1 ≤ 9; omega, by show 8 + (3 + 11) + w ≤ 300; omega⟩ ⟨Nat.le_refl _, Nat.le_refl _⟩ (by simp [Value.category]) dL_alarm_4 rfl ?_
  refine fun H locs lsA q9 ce hP hS hl h1 h2 h3 => z_catch C K [] (0, 9, 12, 15) [] htab (by decide +kernel) (fun z hz => absurd hz List.not_mem_nil) (by decide) (by decide) (by decide) lk_IA (fun q9 => ?_) hP hS hl h1 h2 h3
  refine z_astore_n (ls' := [some (.ref (n0 + 0)), some (.int p0), some (.ref (n0 + 126)), some (.ref q9)]) C (by decide) rfl dL_alarm_12 ?_
  refine z_iconst (v := 1) C (by decide +kernel) dL_alarm_13 ?_
  exact hret _ _ dL_alarm_14
set_option maxHeartbeats 4000000 in
set_option maxRecDepth 100000 in
theorem w_tick_ok (l : Launch) (D : DD) (n0 : Nat) (κ μ : KH) (o : Int64) (p0 : Int32) (f w : Nat) (hf : f ≤ 8) (hw : w ≤ 250) (κ1 : KH) (r : Int32) (hM : HM l D n0 yX4_tick cX4_tick 3 (some .int) f w [.ref (n0 + 0), .int p0] (κ, μ, o) (some (.int r)) (κ1, μ, o)) : HW l D n0 yL_tick cL_tick 4 [(0, 9, 12, 15)] [.ref (n0 + 0), .int p0, .ref (n0 + 126)] (κ, μ, o) 0 (κ1, μ, r.toInt64) := by
  refine HW.of (by decide) (by simp [Value.category]) (by simp) ?_
  intro pp ee ss mm aa bb me cd Q C K htab hret
  show ZZ pp l ee (rmx 9 300) ss mm aa bb me cd D n0 127 4 0 0 Q _ 0 [some (.ref (n0 + 0)), some (.int p0), some (.ref (n0 + 126)), none] []
  refine z_aload_n C rfl dL_tick_0 ?_
  refine z_iconst (v := 0) C (by decide +kernel) dL_tick_1 ?_
  refine z_aload_n C rfl dL_tick_2 ?_
  refine z_iload_n C rfl dL_tick_3 ?_
  refine z_callV (As := [.int p0]) (r := (some (.int r))) (σ1 := (κ1, μ, o)) (st := [.int 0, .ref (n0 + 126)]) (st1 := .int r :: [.int 0, .ref (n0 + 126)]) C K ok_L_68 hM enc_0 (by decide) rfl rfl ⟨by show f + 1 ≤ 9; omega, by show 8 + (3 + 11) + w ≤ 300; omega⟩ ⟨Nat.zero_le _, Nat.zero_le _⟩ (by simp [Value.category]) dL_tick_4 rfl rfl ?_
  refine z_i2l C dL_tick_7 ?_
  refine z_last C (by decide) dL_tick_8 ?_
  refine z_goto (tgt := 15) C dL_tick_9 (by decide) ?_
  refine z_iconst (v := 0) C (by decide +kernel) dL_tick_15 ?_
  refine z_widen (k := 1) (n := 6) (by decide) (by decide) ?_
  exact hret _ _ dL_tick_16
set_option maxHeartbeats 4000000 in
set_option maxRecDepth 100000 in
theorem w_tick_cIA (l : Launch) (D : DD) (n0 : Nat) (κ μ : KH) (o : Int64) (p0 : Int32) (f w : Nat) (hf : f ≤ 8) (hw : w ≤ 250) (hM : HT l D n0 yX4_tick cX4_tick 3 (some .int) f w [.ref (n0 + 0), .int p0] (κ, μ, o) cIA) : HW l D n0 yL_tick cL_tick 4 [(0, 9, 12, 15)] [.ref (n0 + 0), .int p0, .ref (n0 + 126)] (κ, μ, o) 1 (κ, μ, o) := by
  refine HW.of (by decide) (by simp [Value.category]) (by simp) ?_
  intro pp ee ss mm aa bb me cd Q C K htab hret
  show ZZ pp l ee (rmx 9 300) ss mm aa bb me cd D n0 127 4 0 0 Q _ 0 [some (.ref (n0 + 0)), some (.int p0), some (.ref (n0 + 126)), none] []
  refine z_aload_n C rfl dL_tick_0 ?_
  refine z_iconst (v := 0) C (by decide +kernel) dL_tick_1 ?_
  refine z_aload_n C rfl dL_tick_2 ?_
  refine z_iload_n C rfl dL_tick_3 ?_
  refine z_callVT (As := [.int p0]) (E := cIA) (st := [.int 0, .ref (n0 + 126)]) C K ok_L_68 hM enc_0 (by decide) rfl rfl ⟨by show f + 1 ≤ 9; omega, by show 8 + (3 + 11) + w ≤ 300; omega⟩ ⟨Nat.le_refl _, Nat.le_refl _⟩ (by simp [Value.category]) dL_tick_4 rfl ?_
  refine fun H locs lsA q9 ce hP hS hl h1 h2 h3 => z_catch C K [] (0, 9, 12, 15) [] htab (by decide +kernel) (fun z hz => absurd hz List.not_mem_nil) (by decide) (by decide) (by decide) lk_IA (fun q9 => ?_) hP hS hl h1 h2 h3
  refine z_astore_n (ls' := [some (.ref (n0 + 0)), some (.int p0), some (.ref (n0 + 126)), some (.ref q9)]) C (by decide) rfl dL_tick_12 ?_
  refine z_iconst (v := 1) C (by decide +kernel) dL_tick_13 ?_
  exact hret _ _ dL_tick_14
set_option maxHeartbeats 4000000 in
set_option maxRecDepth 100000 in
theorem w_map_ok (l : Launch) (D : DD) (n0 : Nat) (κ μ : KH) (o : Int64) (p0 p1 p2 : Int32) (f w : Nat) (hf : f ≤ 8) (hw : w ≤ 250) (κ1 : KH) (r : Int32) (hM : HM l D n0 yX4_map cX4_map 6 (some .int) f w [.ref (n0 + 0), .int p0, .int p1, .int p2] (κ, μ, o) (some (.int r)) (κ1, μ, o)) : HW l D n0 yL_map cL_map 6 [(0, 12, 15, 15), (0, 12, 19, 13)] [.ref (n0 + 0), .int p0, .int p1, .int p2, .ref (n0 + 126)] (κ, μ, o) 0 (κ1, μ, r.toInt64) := by
  refine HW.of (by decide) (by simp [Value.category]) (by simp) ?_
  intro pp ee ss mm aa bb me cd Q C K htab hret
  show ZZ pp l ee (rmx 9 300) ss mm aa bb me cd D n0 127 6 0 0 Q _ 0 [some (.ref (n0 + 0)), some (.int p0), some (.int p1), some (.int p2), some (.ref (n0 + 126)), none] []
  refine z_aload C rfl dL_map_0 ?_
  refine z_iconst (v := 0) C (by decide +kernel) dL_map_2 ?_
  refine z_aload_n C rfl dL_map_3 ?_
  refine z_iload_n C rfl dL_map_4 ?_
  refine z_iload_n C rfl dL_map_5 ?_
  refine z_iload_n C rfl dL_map_6 ?_
  refine z_callV (As := [.int p0, .int p1, .int p2]) (r := (some (.int r))) (σ1 := (κ1, μ, o)) (st := [.int 0, .ref (n0 + 126)]) (st1 := .int r :: [.int 0, .ref (n0 + 126)]) C K ok_L_71 hM enc_0 (by decide) rfl rfl ⟨by show f + 1 ≤ 9; omega, by show 8 + (6 + 11) + w ≤ 300; omega⟩ ⟨Nat.zero_le _, Nat.zero_le _⟩ (by simp [Value.category]) dL_map_7 rfl rfl ?_
  refine z_i2l C dL_map_10 ?_
  refine z_last C (by decide) dL_map_11 ?_
  refine z_goto (tgt := 23) C dL_map_12 (by decide) ?_
  refine z_iconst (v := 0) C (by decide +kernel) dL_map_23 ?_
  refine z_widen (k := 1) (n := 6) (by decide) (by decide) ?_
  exact hret _ _ dL_map_24
set_option maxHeartbeats 4000000 in
set_option maxRecDepth 100000 in
theorem w_map_cIA (l : Launch) (D : DD) (n0 : Nat) (κ μ : KH) (o : Int64) (p0 p1 p2 : Int32) (f w : Nat) (hf : f ≤ 8) (hw : w ≤ 250) (hM : HT l D n0 yX4_map cX4_map 6 (some .int) f w [.ref (n0 + 0), .int p0, .int p1, .int p2] (κ, μ, o) cIA) : HW l D n0 yL_map cL_map 6 [(0, 12, 15, 15), (0, 12, 19, 13)] [.ref (n0 + 0), .int p0, .int p1, .int p2, .ref (n0 + 126)] (κ, μ, o) 1 (κ, μ, o) := by
  refine HW.of (by decide) (by simp [Value.category]) (by simp) ?_
  intro pp ee ss mm aa bb me cd Q C K htab hret
  show ZZ pp l ee (rmx 9 300) ss mm aa bb me cd D n0 127 6 0 0 Q _ 0 [some (.ref (n0 + 0)), some (.int p0), some (.int p1), some (.int p2), some (.ref (n0 + 126)), none] []
  refine z_aload C rfl dL_map_0 ?_
  refine z_iconst (v := 0) C (by decide +kernel) dL_map_2 ?_
  refine z_aload_n C rfl dL_map_3 ?_
  refine z_iload_n C rfl dL_map_4 ?_
  refine z_iload_n C rfl dL_map_5 ?_
  refine z_iload_n C rfl dL_map_6 ?_
  refine z_callVT (As := [.int p0, .int p1, .int p2]) (E := cIA) (st := [.int 0, .ref (n0 + 126)]) C K ok_L_71 hM enc_0 (by decide) rfl rfl ⟨by show f + 1 ≤ 9; omega, by show 8 + (6 + 11) + w ≤ 300; omega⟩ ⟨Nat.le_refl _, Nat.le_refl _⟩ (by simp [Value.category]) dL_map_7 rfl ?_
  refine fun H locs lsA q9 ce hP hS hl h1 h2 h3 => z_catch C K [] (0, 12, 15, 15) [(0, 12, 19, 13)] htab (by decide +kernel) (fun z hz => absurd hz List.not_mem_nil) (by decide) (by decide) (by decide) lk_IA (fun q9 => ?_) hP hS hl h1 h2 h3
  refine z_astore (ls' := [some (.ref (n0 + 0)), some (.int p0), some (.int p1), some (.int p2), some (.ref (n0 + 126)), some (.ref q9)]) C (by decide) rfl dL_map_15 ?_
  refine z_iconst (v := 1) C (by decide +kernel) dL_map_17 ?_
  exact hret _ _ dL_map_18
set_option maxHeartbeats 4000000 in
set_option maxRecDepth 100000 in
theorem w_map_cIO (l : Launch) (D : DD) (n0 : Nat) (κ μ : KH) (o : Int64) (p0 p1 p2 : Int32) (f w : Nat) (hf : f ≤ 8) (hw : w ≤ 250) (hM : HT l D n0 yX4_map cX4_map 6 (some .int) f w [.ref (n0 + 0), .int p0, .int p1, .int p2] (κ, μ, o) cIO) : HW l D n0 yL_map cL_map 6 [(0, 12, 15, 15), (0, 12, 19, 13)] [.ref (n0 + 0), .int p0, .int p1, .int p2, .ref (n0 + 126)] (κ, μ, o) 2 (κ, μ, o) := by
  refine HW.of (by decide) (by simp [Value.category]) (by simp) ?_
  intro pp ee ss mm aa bb me cd Q C K htab hret
  show ZZ pp l ee (rmx 9 300) ss mm aa bb me cd D n0 127 6 0 0 Q _ 0 [some (.ref (n0 + 0)), some (.int p0), some (.int p1), some (.int p2), some (.ref (n0 + 126)), none] []
  refine z_aload C rfl dL_map_0 ?_
  refine z_iconst (v := 0) C (by decide +kernel) dL_map_2 ?_
  refine z_aload_n C rfl dL_map_3 ?_
  refine z_iload_n C rfl dL_map_4 ?_
  refine z_iload_n C rfl dL_map_5 ?_
  refine z_iload_n C rfl dL_map_6 ?_
  refine z_callVT (As := [.int p0, .int p1, .int p2]) (E := cIO) (st := [.int 0, .ref (n0 + 126)]) C K ok_L_71 hM enc_0 (by decide) rfl rfl ⟨by show f + 1 ≤ 9; omega, by show 8 + (6 + 11) + w ≤ 300; omega⟩ ⟨Nat.le_refl _, Nat.le_refl _⟩ (by simp [Value.category]) dL_map_7 rfl ?_
  refine fun H locs lsA q9 ce hP hS hl h1 h2 h3 => z_catch C K [(0, 12, 15, 15)] (0, 12, 19, 13) [] htab (by decide +kernel) (fun z hz => by simp only [List.mem_cons, List.not_mem_nil, or_false] at hz; subst hz; exact ⟨by decide, cIA, lk_IA, by decide +kernel⟩) (by decide) (by decide) (by decide) lk_IO (fun q9 => ?_) hP hS hl h1 h2 h3
  refine z_astore (ls' := [some (.ref (n0 + 0)), some (.int p0), some (.int p1), some (.int p2), some (.ref (n0 + 126)), some (.ref q9)]) C (by decide) rfl dL_map_19 ?_
  refine z_iconst (v := 2) C (by decide +kernel) dL_map_21 ?_
  exact hret _ _ dL_map_22
set_option maxHeartbeats 4000000 in
set_option maxRecDepth 100000 in
theorem w_volume_ok (l : Launch) (D : DD) (n0 : Nat) (κ μ : KH) (o : Int64) (p0 p1 : Int32) (f w : Nat) (hf : f ≤ 8) (hw : w ≤ 250) (κ1 : KH) (r : Int32) (hM : HM l D n0 yX4_volume cX4_volume 4 (some .int) f w [.ref (n0 + 0), .int p0, .int p1] (κ, μ, o) (some (.int r)) (κ1, μ, o)) : HW l D n0 yL_volume cL_volume 5 [(0, 10, 13, 13)] [.ref (n0 + 0), .int p0, .int p1, .ref (n0 + 126)] (κ, μ, o) 0 (κ1, μ, r.toInt64) := by
  refine HW.of (by decide) (by simp [Value.category]) (by simp) ?_
  intro pp ee ss mm aa bb me cd Q C K htab hret
  show ZZ pp l ee (rmx 9 300) ss mm aa bb me cd D n0 127 5 0 0 Q _ 0 [some (.ref (n0 + 0)), some (.int p0), some (.int p1), some (.ref (n0 + 126)), none] []
  refine z_aload_n C rfl dL_volume_0 ?_
  refine z_iconst (v := 0) C (by decide +kernel) dL_volume_1 ?_
  refine z_aload_n C rfl dL_volume_2 ?_
  refine z_iload_n C rfl dL_volume_3 ?_
  refine z_iload_n C rfl dL_volume_4 ?_
  refine z_callV (As := [.int p0, .int p1]) (r := (some (.int r))) (σ1 := (κ1, μ, o)) (st := [.int 0, .ref (n0 + 126)]) (st1 := .int r :: [.int 0, .ref (n0 + 126)]) C K ok_L_74 hM enc_0 (by decide) rfl rfl ⟨by show f + 1 ≤ 9; omega, by show 8 + (4 + 11) + w ≤ 300; omega⟩ ⟨Nat.zero_le _, Nat.zero_le _⟩ (by simp [Value.category]) dL_volume_5 rfl rfl ?_
  refine z_i2l C dL_volume_8 ?_
  refine z_last C (by decide) dL_volume_9 ?_
  refine z_goto (tgt := 17) C dL_volume_10 (by decide) ?_
  refine z_iconst (v := 0) C (by decide +kernel) dL_volume_17 ?_
  refine z_widen (k := 1) (n := 6) (by decide) (by decide) ?_
  exact hret _ _ dL_volume_18
set_option maxHeartbeats 4000000 in
set_option maxRecDepth 100000 in
theorem w_volume_cIO (l : Launch) (D : DD) (n0 : Nat) (κ μ : KH) (o : Int64) (p0 p1 : Int32) (f w : Nat) (hf : f ≤ 8) (hw : w ≤ 250) (hM : HT l D n0 yX4_volume cX4_volume 4 (some .int) f w [.ref (n0 + 0), .int p0, .int p1] (κ, μ, o) cIO) : HW l D n0 yL_volume cL_volume 5 [(0, 10, 13, 13)] [.ref (n0 + 0), .int p0, .int p1, .ref (n0 + 126)] (κ, μ, o) 1 (κ, μ, o) := by
  refine HW.of (by decide) (by simp [Value.category]) (by simp) ?_
  intro pp ee ss mm aa bb me cd Q C K htab hret
  show ZZ pp l ee (rmx 9 300) ss mm aa bb me cd D n0 127 5 0 0 Q _ 0 [some (.ref (n0 + 0)), some (.int p0), some (.int p1), some (.ref (n0 + 126)), none] []
  refine z_aload_n C rfl dL_volume_0 ?_
  refine z_iconst (v := 0) C (by decide +kernel) dL_volume_1 ?_
  refine z_aload_n C rfl dL_volume_2 ?_
  refine z_iload_n C rfl dL_volume_3 ?_
  refine z_iload_n C rfl dL_volume_4 ?_
  refine z_callVT (As := [.int p0, .int p1]) (E := cIO) (st := [.int 0, .ref (n0 + 126)]) C K ok_L_74 hM enc_0 (by decide) rfl rfl ⟨by show f + 1 ≤ 9; omega, by show 8 + (4 + 11) + w ≤ 300; omega⟩ ⟨Nat.le_refl _, Nat.le_refl _⟩ (by simp [Value.category]) dL_volume_5 rfl ?_
  refine fun H locs lsA q9 ce hP hS hl h1 h2 h3 => z_catch C K [] (0, 10, 13, 13) [] htab (by decide +kernel) (fun z hz => absurd hz List.not_mem_nil) (by decide) (by decide) (by decide) lk_IO (fun q9 => ?_) hP hS hl h1 h2 h3
  refine z_astore (ls' := [some (.ref (n0 + 0)), some (.int p0), some (.int p1), some (.ref (n0 + 126)), some (.ref q9)]) C (by decide) rfl dL_volume_13 ?_
  refine z_iconst (v := 1) C (by decide +kernel) dL_volume_15 ?_
  exact hret _ _ dL_volume_16
set_option maxHeartbeats 4000000 in
set_option maxRecDepth 100000 in
theorem w_differ_ok (l : Launch) (D : DD) (n0 : Nat) (κ μ : KH) (o : Int64) (p0 p1 p2 : Int32) (f w : Nat) (hf : f ≤ 8) (hw : w ≤ 250) (κ1 : KH) (r : Int32) (hM : HM l D n0 yX4_differ cX4_differ 6 (some .int) f w [.ref (n0 + 0), .int p0, .int p1, .int p2] (κ, μ, o) (some (.int r)) (κ1, μ, o)) : HW l D n0 yL_differ cL_differ 6 [(0, 12, 15, 13)] [.ref (n0 + 0), .int p0, .int p1, .int p2, .ref (n0 + 126)] (κ, μ, o) 0 (κ1, μ, r.toInt64) := by
  refine HW.of (by decide) (by simp [Value.category]) (by simp) ?_
  intro pp ee ss mm aa bb me cd Q C K htab hret
  show ZZ pp l ee (rmx 9 300) ss mm aa bb me cd D n0 127 6 0 0 Q _ 0 [some (.ref (n0 + 0)), some (.int p0), some (.int p1), some (.int p2), some (.ref (n0 + 126)), none] []
  refine z_aload C rfl dL_differ_0 ?_
  refine z_iconst (v := 0) C (by decide +kernel) dL_differ_2 ?_
  refine z_aload_n C rfl dL_differ_3 ?_
  refine z_iload_n C rfl dL_differ_4 ?_
  refine z_iload_n C rfl dL_differ_5 ?_
  refine z_iload_n C rfl dL_differ_6 ?_
  refine z_callV (As := [.int p0, .int p1, .int p2]) (r := (some (.int r))) (σ1 := (κ1, μ, o)) (st := [.int 0, .ref (n0 + 126)]) (st1 := .int r :: [.int 0, .ref (n0 + 126)]) C K ok_L_77 hM enc_0 (by decide) rfl rfl ⟨by show f + 1 ≤ 9; omega, by show 8 + (6 + 11) + w ≤ 300; omega⟩ ⟨Nat.zero_le _, Nat.zero_le _⟩ (by simp [Value.category]) dL_differ_7 rfl rfl ?_
  refine z_i2l C dL_differ_10 ?_
  refine z_last C (by decide) dL_differ_11 ?_
  refine z_goto (tgt := 19) C dL_differ_12 (by decide) ?_
  refine z_iconst (v := 0) C (by decide +kernel) dL_differ_19 ?_
  refine z_widen (k := 1) (n := 6) (by decide) (by decide) ?_
  exact hret _ _ dL_differ_20
set_option maxHeartbeats 4000000 in
set_option maxRecDepth 100000 in
theorem w_differ_cIO (l : Launch) (D : DD) (n0 : Nat) (κ μ : KH) (o : Int64) (p0 p1 p2 : Int32) (f w : Nat) (hf : f ≤ 8) (hw : w ≤ 250) (hM : HT l D n0 yX4_differ cX4_differ 6 (some .int) f w [.ref (n0 + 0), .int p0, .int p1, .int p2] (κ, μ, o) cIO) : HW l D n0 yL_differ cL_differ 6 [(0, 12, 15, 13)] [.ref (n0 + 0), .int p0, .int p1, .int p2, .ref (n0 + 126)] (κ, μ, o) 1 (κ, μ, o) := by
  refine HW.of (by decide) (by simp [Value.category]) (by simp) ?_
  intro pp ee ss mm aa bb me cd Q C K htab hret
  show ZZ pp l ee (rmx 9 300) ss mm aa bb me cd D n0 127 6 0 0 Q _ 0 [some (.ref (n0 + 0)), some (.int p0), some (.int p1), some (.int p2), some (.ref (n0 + 126)), none] []
  refine z_aload C rfl dL_differ_0 ?_
  refine z_iconst (v := 0) C (by decide +kernel) dL_differ_2 ?_
  refine z_aload_n C rfl dL_differ_3 ?_
  refine z_iload_n C rfl dL_differ_4 ?_
  refine z_iload_n C rfl dL_differ_5 ?_
  refine z_iload_n C rfl dL_differ_6 ?_
  refine z_callVT (As := [.int p0, .int p1, .int p2]) (E := cIO) (st := [.int 0, .ref (n0 + 126)]) C K ok_L_77 hM enc_0 (by decide) rfl rfl ⟨by show f + 1 ≤ 9; omega, by show 8 + (6 + 11) + w ≤ 300; omega⟩ ⟨Nat.le_refl _, Nat.le_refl _⟩ (by simp [Value.category]) dL_differ_7 rfl ?_
  refine fun H locs lsA q9 ce hP hS hl h1 h2 h3 => z_catch C K [] (0, 12, 15, 13) [] htab (by decide +kernel) (fun z hz => absurd hz List.not_mem_nil) (by decide) (by decide) (by decide) lk_IO (fun q9 => ?_) hP hS hl h1 h2 h3
  refine z_astore (ls' := [some (.ref (n0 + 0)), some (.int p0), some (.int p1), some (.int p2), some (.ref (n0 + 126)), some (.ref q9)]) C (by decide) rfl dL_differ_15 ?_
  refine z_iconst (v := 1) C (by decide +kernel) dL_differ_17 ?_
  exact hret _ _ dL_differ_18
set_option maxHeartbeats 4000000 in
set_option maxRecDepth 100000 in
theorem w_users_ok (l : Launch) (D : DD) (n0 : Nat) (κ μ : KH) (o : Int64) (p0 : Int32) (f w : Nat) (hf : f ≤ 8) (hw : w ≤ 250) (κ1 : KH) (r : Int32) (hM : HM l D n0 yX4_users cX4_users 2 (some .int) f w [.ref (n0 + 0), .int p0] (κ, μ, o) (some (.int r)) (κ1, μ, o)) : HW l D n0 yL_users cL_users 4 [(0, 9, 12, 13)] [.ref (n0 + 0), .int p0, .ref (n0 + 126)] (κ, μ, o) 0 (κ1, μ, r.toInt64) := by
  refine HW.of (by decide) (by simp [Value.category]) (by simp) ?_
  intro pp ee ss mm aa bb me cd Q C K htab hret
  show ZZ pp l ee (rmx 9 300) ss mm aa bb me cd D n0 127 4 0 0 Q _ 0 [some (.ref (n0 + 0)), some (.int p0), some (.ref (n0 + 126)), none] []
  refine z_aload_n C rfl dL_users_0 ?_
  refine z_iconst (v := 0) C (by decide +kernel) dL_users_1 ?_
  refine z_aload_n C rfl dL_users_2 ?_
  refine z_iload_n C rfl dL_users_3 ?_
  refine z_callV (As := [.int p0]) (r := (some (.int r))) (σ1 := (κ1, μ, o)) (st := [.int 0, .ref (n0 + 126)]) (st1 := .int r :: [.int 0, .ref (n0 + 126)]) C K ok_L_80 hM enc_0 (by decide) rfl rfl ⟨by show f + 1 ≤ 9; omega, by show 8 + (2 + 11) + w ≤ 300; omega⟩ ⟨Nat.zero_le _, Nat.zero_le _⟩ (by simp [Value.category]) dL_users_4 rfl rfl ?_
  refine z_i2l C dL_users_7 ?_
  refine z_last C (by decide) dL_users_8 ?_
  refine z_goto (tgt := 15) C dL_users_9 (by decide) ?_
  refine z_iconst (v := 0) C (by decide +kernel) dL_users_15 ?_
  refine z_widen (k := 1) (n := 6) (by decide) (by decide) ?_
  exact hret _ _ dL_users_16
set_option maxHeartbeats 4000000 in
set_option maxRecDepth 100000 in
theorem w_users_cIO (l : Launch) (D : DD) (n0 : Nat) (κ μ : KH) (o : Int64) (p0 : Int32) (f w : Nat) (hf : f ≤ 8) (hw : w ≤ 250) (hM : HT l D n0 yX4_users cX4_users 2 (some .int) f w [.ref (n0 + 0), .int p0] (κ, μ, o) cIO) : HW l D n0 yL_users cL_users 4 [(0, 9, 12, 13)] [.ref (n0 + 0), .int p0, .ref (n0 + 126)] (κ, μ, o) 1 (κ, μ, o) := by
  refine HW.of (by decide) (by simp [Value.category]) (by simp) ?_
  intro pp ee ss mm aa bb me cd Q C K htab hret
  show ZZ pp l ee (rmx 9 300) ss mm aa bb me cd D n0 127 4 0 0 Q _ 0 [some (.ref (n0 + 0)), some (.int p0), some (.ref (n0 + 126)), none] []
  refine z_aload_n C rfl dL_users_0 ?_
  refine z_iconst (v := 0) C (by decide +kernel) dL_users_1 ?_
  refine z_aload_n C rfl dL_users_2 ?_
  refine z_iload_n C rfl dL_users_3 ?_
  refine z_callVT (As := [.int p0]) (E := cIO) (st := [.int 0, .ref (n0 + 126)]) C K ok_L_80 hM enc_0 (by decide) rfl rfl ⟨by show f + 1 ≤ 9; omega, by show 8 + (2 + 11) + w ≤ 300; omega⟩ ⟨Nat.le_refl _, Nat.le_refl _⟩ (by simp [Value.category]) dL_users_4 rfl ?_
  refine fun H locs lsA q9 ce hP hS hl h1 h2 h3 => z_catch C K [] (0, 9, 12, 13) [] htab (by decide +kernel) (fun z hz => absurd hz List.not_mem_nil) (by decide) (by decide) (by decide) lk_IO (fun q9 => ?_) hP hS hl h1 h2 h3
  refine z_astore_n (ls' := [some (.ref (n0 + 0)), some (.int p0), some (.ref (n0 + 126)), some (.ref q9)]) C (by decide) rfl dL_users_12 ?_
  refine z_iconst (v := 1) C (by decide +kernel) dL_users_13 ?_
  exact hret _ _ dL_users_14
set_option maxHeartbeats 4000000 in
set_option maxRecDepth 100000 in
theorem w_user_ok (l : Launch) (D : DD) (n0 : Nat) (κ μ : KH) (o : Int64) (p0 p1 : Int32) (f w : Nat) (hf : f ≤ 8) (hw : w ≤ 250) (κ1 : KH) (r : Int32) (hM : HM l D n0 yX4_user cX4_user 3 (some .int) f w [.ref (n0 + 0), .int p0, .int p1] (κ, μ, o) (some (.int r)) (κ1, μ, o)) : HW l D n0 yL_user cL_user 5 [(0, 10, 13, 13)] [.ref (n0 + 0), .int p0, .int p1, .ref (n0 + 126)] (κ, μ, o) 0 (κ1, μ, r.toInt64) := by
  refine HW.of (by decide) (by simp [Value.category]) (by simp) ?_
  intro pp ee ss mm aa bb me cd Q C K htab hret
  show ZZ pp l ee (rmx 9 300) ss mm aa bb me cd D n0 127 5 0 0 Q _ 0 [some (.ref (n0 + 0)), some (.int p0), some (.int p1), some (.ref (n0 + 126)), none] []
  refine z_aload_n C rfl dL_user_0 ?_
  refine z_iconst (v := 0) C (by decide +kernel) dL_user_1 ?_
  refine z_aload_n C rfl dL_user_2 ?_
  refine z_iload_n C rfl dL_user_3 ?_
  refine z_iload_n C rfl dL_user_4 ?_
  refine z_callV (As := [.int p0, .int p1]) (r := (some (.int r))) (σ1 := (κ1, μ, o)) (st := [.int 0, .ref (n0 + 126)]) (st1 := .int r :: [.int 0, .ref (n0 + 126)]) C K ok_L_83 hM enc_0 (by decide) rfl rfl ⟨by show f + 1 ≤ 9; omega, by show 8 + (3 + 11) + w ≤ 300; omega⟩ ⟨Nat.zero_le _, Nat.zero_le _⟩ (by simp [Value.category]) dL_user_5 rfl rfl ?_
  refine z_i2l C dL_user_8 ?_
  refine z_last C (by decide) dL_user_9 ?_
  refine z_goto (tgt := 17) C dL_user_10 (by decide) ?_
  refine z_iconst (v := 0) C (by decide +kernel) dL_user_17 ?_
  refine z_widen (k := 1) (n := 6) (by decide) (by decide) ?_
  exact hret _ _ dL_user_18
set_option maxHeartbeats 4000000 in
set_option maxRecDepth 100000 in
theorem w_user_cIO (l : Launch) (D : DD) (n0 : Nat) (κ μ : KH) (o : Int64) (p0 p1 : Int32) (f w : Nat) (hf : f ≤ 8) (hw : w ≤ 250) (hM : HT l D n0 yX4_user cX4_user 3 (some .int) f w [.ref (n0 + 0), .int p0, .int p1] (κ, μ, o) cIO) : HW l D n0 yL_user cL_user 5 [(0, 10, 13, 13)] [.ref (n0 + 0), .int p0, .int p1, .ref (n0 + 126)] (κ, μ, o) 1 (κ, μ, o) := by
  refine HW.of (by decide) (by simp [Value.category]) (by simp) ?_
  intro pp ee ss mm aa bb me cd Q C K htab hret
  show ZZ pp l ee (rmx 9 300) ss mm aa bb me cd D n0 127 5 0 0 Q _ 0 [some (.ref (n0 + 0)), some (.int p0), some (.int p1), some (.ref (n0 + 126)), none] []
  refine z_aload_n C rfl dL_user_0 ?_
  refine z_iconst (v := 0) C (by decide +kernel) dL_user_1 ?_
  refine z_aload_n C rfl dL_user_2 ?_
  refine z_iload_n C rfl dL_user_3 ?_
  refine z_iload_n C rfl dL_user_4 ?_
  refine z_callVT (As := [.int p0, .int p1]) (E := cIO) (st := [.int 0, .ref (n0 + 126)]) C K ok_L_83 hM enc_0 (by decide) rfl rfl ⟨by show f + 1 ≤ 9; omega, by show 8 + (3 + 11) + w ≤ 300; omega⟩ ⟨Nat.le_refl _, Nat.le_refl _⟩ (by simp [Value.category]) dL_user_5 rfl ?_
  refine fun H locs lsA q9 ce hP hS hl h1 h2 h3 => z_catch C K [] (0, 10, 13, 13) [] htab (by decide +kernel) (fun z hz => absurd hz List.not_mem_nil) (by decide) (by decide) (by decide) lk_IO (fun q9 => ?_) hP hS hl h1 h2 h3
  refine z_astore (ls' := [some (.ref (n0 + 0)), some (.int p0), some (.int p1), some (.ref (n0 + 126)), some (.ref q9)]) C (by decide) rfl dL_user_13 ?_
  refine z_iconst (v := 1) C (by decide +kernel) dL_user_15 ?_
  exact hret _ _ dL_user_16
set_option maxHeartbeats 4000000 in
set_option maxRecDepth 100000 in
theorem w_told_ok (l : Launch) (D : DD) (n0 : Nat) (κ μ : KH) (o : Int64) (p0 : Int32) (f w : Nat) (hf : f ≤ 8) (hw : w ≤ 250) (κ1 : KH) (r : Int32) (hM : HM l D n0 yX4_told cX4_told 2 (some .int) f w [.ref (n0 + 0), .int p0] (κ, μ, o) (some (.int r)) (κ1, μ, o)) : HW l D n0 yL_told cL_told 4 [(0, 9, 12, 13)] [.ref (n0 + 0), .int p0, .ref (n0 + 126)] (κ, μ, o) 0 (κ1, μ, r.toInt64) := by
  refine HW.of (by decide) (by simp [Value.category]) (by simp) ?_
  intro pp ee ss mm aa bb me cd Q C K htab hret
  show ZZ pp l ee (rmx 9 300) ss mm aa bb me cd D n0 127 4 0 0 Q _ 0 [some (.ref (n0 + 0)), some (.int p0), some (.ref (n0 + 126)), none] []
  refine z_aload_n C rfl dL_told_0 ?_
  refine z_iconst (v := 0) C (by decide +kernel) dL_told_1 ?_
  refine z_aload_n C rfl dL_told_2 ?_
  refine z_iload_n C rfl dL_told_3 ?_
  refine z_callV (As := [.int p0]) (r := (some (.int r))) (σ1 := (κ1, μ, o)) (st := [.int 0, .ref (n0 + 126)]) (st1 := .int r :: [.int 0, .ref (n0 + 126)]) C K ok_L_86 hM enc_0 (by decide) rfl rfl ⟨by show f + 1 ≤ 9; omega, by show 8 + (2 + 11) + w ≤ 300; omega⟩ ⟨Nat.zero_le _, Nat.zero_le _⟩ (by simp [Value.category]) dL_told_4 rfl rfl ?_
  refine z_i2l C dL_told_7 ?_
  refine z_last C (by decide) dL_told_8 ?_
  refine z_goto (tgt := 15) C dL_told_9 (by decide) ?_
  refine z_iconst (v := 0) C (by decide +kernel) dL_told_15 ?_
  refine z_widen (k := 1) (n := 6) (by decide) (by decide) ?_
  exact hret _ _ dL_told_16
set_option maxHeartbeats 4000000 in
set_option maxRecDepth 100000 in
theorem w_told_cIO (l : Launch) (D : DD) (n0 : Nat) (κ μ : KH) (o : Int64) (p0 : Int32) (f w : Nat) (hf : f ≤ 8) (hw : w ≤ 250) (hM : HT l D n0 yX4_told cX4_told 2 (some .int) f w [.ref (n0 + 0), .int p0] (κ, μ, o) cIO) : HW l D n0 yL_told cL_told 4 [(0, 9, 12, 13)] [.ref (n0 + 0), .int p0, .ref (n0 + 126)] (κ, μ, o) 1 (κ, μ, o) := by
  refine HW.of (by decide) (by simp [Value.category]) (by simp) ?_
  intro pp ee ss mm aa bb me cd Q C K htab hret
  show ZZ pp l ee (rmx 9 300) ss mm aa bb me cd D n0 127 4 0 0 Q _ 0 [some (.ref (n0 + 0)), some (.int p0), some (.ref (n0 + 126)), none] []
  refine z_aload_n C rfl dL_told_0 ?_
  refine z_iconst (v := 0) C (by decide +kernel) dL_told_1 ?_
  refine z_aload_n C rfl dL_told_2 ?_
  refine z_iload_n C rfl dL_told_3 ?_
  refine z_callVT (As := [.int p0]) (E := cIO) (st := [.int 0, .ref (n0 + 126)]) C K ok_L_86 hM enc_0 (by decide) rfl rfl ⟨by show f + 1 ≤ 9; omega, by show 8 + (2 + 11) + w ≤ 300; omega⟩ ⟨Nat.le_refl _, Nat.le_refl _⟩ (by simp [Value.category]) dL_told_4 rfl ?_
  refine fun H locs lsA q9 ce hP hS hl h1 h2 h3 => z_catch C K [] (0, 9, 12, 13) [] htab (by decide +kernel) (fun z hz => absurd hz List.not_mem_nil) (by decide) (by decide) (by decide) lk_IO (fun q9 => ?_) hP hS hl h1 h2 h3
  refine z_astore_n (ls' := [some (.ref (n0 + 0)), some (.int p0), some (.ref (n0 + 126)), some (.ref q9)]) C (by decide) rfl dL_told_12 ?_
  refine z_iconst (v := 1) C (by decide +kernel) dL_told_13 ?_
  exact hret _ _ dL_told_14

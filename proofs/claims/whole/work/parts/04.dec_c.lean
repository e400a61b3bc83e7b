theorem dL_house_0 : decode cL_house 0 = .ok (.aload_n 2, 1) := by decide +kernel
theorem dL_house_1 : decode cL_house 1 = .ok (.iconst 0, 1) := by decide +kernel
theorem dL_house_2 : decode cL_house 2 = .ok (.aload_n 0, 1) := by decide +kernel
theorem dL_house_3 : decode cL_house 3 = .ok (.iload_n 1, 1) := by decide +kernel
theorem dL_house_4 : decode cL_house 4 = .ok (.invokevirtual 7, 3) := by decide +kernel
theorem dL_house_7 : decode cL_house 7 = .ok (.i2l, 1) := by decide +kernel
theorem dL_house_8 : decode cL_house 8 = .ok (.lastore, 1) := by decide +kernel
theorem dL_house_9 : decode cL_house 9 = .ok (.goto 6, 3) := by decide +kernel
theorem dL_house_12 : decode cL_house 12 = .ok (.astore_n 3, 1) := by decide +kernel
theorem dL_house_13 : decode cL_house 13 = .ok (.iconst 1, 1) := by decide +kernel
theorem dL_house_14 : decode cL_house 14 = .ok (.ireturn, 1) := by decide +kernel
theorem dL_house_15 : decode cL_house 15 = .ok (.iconst 0, 1) := by decide +kernel
theorem dL_house_16 : decode cL_house 16 = .ok (.ireturn, 1) := by decide +kernel
theorem dL_law_0 : decode cL_law 0 = .ok (.aload_n 2, 1) := by decide +kernel
theorem dL_law_1 : decode cL_law 1 = .ok (.iconst 0, 1) := by decide +kernel
theorem dL_law_2 : decode cL_law 2 = .ok (.aload_n 0, 1) := by decide +kernel
theorem dL_law_3 : decode cL_law 3 = .ok (.iload_n 1, 1) := by decide +kernel
theorem dL_law_4 : decode cL_law 4 = .ok (.invokevirtual 15, 3) := by decide +kernel
theorem dL_law_7 : decode cL_law 7 = .ok (.i2l, 1) := by decide +kernel
theorem dL_law_8 : decode cL_law 8 = .ok (.lastore, 1) := by decide +kernel
theorem dL_law_9 : decode cL_law 9 = .ok (.goto 6, 3) := by decide +kernel
theorem dL_law_12 : decode cL_law 12 = .ok (.astore_n 3, 1) := by decide +kernel
theorem dL_law_13 : decode cL_law 13 = .ok (.iconst 1, 1) := by decide +kernel
theorem dL_law_14 : decode cL_law 14 = .ok (.ireturn, 1) := by decide +kernel
theorem dL_law_15 : decode cL_law 15 = .ok (.iconst 0, 1) := by decide +kernel
theorem dL_law_16 : decode cL_law 16 = .ok (.ireturn, 1) := by decide +kernel
theorem dL_work_0 : decode cL_work 0 = .ok (.aload_n 2, 1) := by decide +kernel
theorem dL_work_1 : decode cL_work 1 = .ok (.iconst 0, 1) := by decide +kernel
theorem dL_work_2 : decode cL_work 2 = .ok (.aload_n 0, 1) := by decide +kernel
theorem dL_work_3 : decode cL_work 3 = .ok (.iload_n 1, 1) := by decide +kernel
theorem dL_work_4 : decode cL_work 4 = .ok (.invokevirtual 18, 3) := by decide +kernel
theorem dL_work_7 : decode cL_work 7 = .ok (.i2l, 1) := by decide +kernel
theorem dL_work_8 : decode cL_work 8 = .ok (.lastore, 1) := by decide +kernel
theorem dL_work_9 : decode cL_work 9 = .ok (.goto 6, 3) := by decide +kernel
theorem dL_work_12 : decode cL_work 12 = .ok (.astore_n 3, 1) := by decide +kernel
theorem dL_work_13 : decode cL_work 13 = .ok (.iconst 1, 1) := by decide +kernel
theorem dL_work_14 : decode cL_work 14 = .ok (.ireturn, 1) := by decide +kernel
theorem dL_work_15 : decode cL_work 15 = .ok (.iconst 0, 1) := by decide +kernel
theorem dL_work_16 : decode cL_work 16 = .ok (.ireturn, 1) := by decide +kernel
theorem dL_book_0 : decode cL_book 0 = .ok (.aload_n 2, 1) := by decide +kernel
theorem dL_book_1 : decode cL_book 1 = .ok (.iconst 0, 1) := by decide +kernel
theorem dL_book_2 : decode cL_book 2 = .ok (.aload_n 0, 1) := by decide +kernel
theorem dL_book_3 : decode cL_book 3 = .ok (.iload_n 1, 1) := by decide +kernel
theorem dL_book_4 : decode cL_book 4 = .ok (.invokevirtual 21, 3) := by decide +kernel
theorem dL_book_7 : decode cL_book 7 = .ok (.i2l, 1) := by decide +kernel
theorem dL_book_8 : decode cL_book 8 = .ok (.lastore, 1) := by decide +kernel
theorem dL_book_9 : decode cL_book 9 = .ok (.goto 6, 3) := by decide +kernel
theorem dL_book_12 : decode cL_book 12 = .ok (.astore_n 3, 1) := by decide +kernel
theorem dL_book_13 : decode cL_book 13 = .ok (.iconst 1, 1) := by decide +kernel
theorem dL_book_14 : decode cL_book 14 = .ok (.ireturn, 1) := by decide +kernel
theorem dL_book_15 : decode cL_book 15 = .ok (.iconst 0, 1) := by decide +kernel
theorem dL_book_16 : decode cL_book 16 = .ok (.ireturn, 1) := by decide +kernel
theorem dL_told_0 : decode cL_told 0 = .ok (.aload_n 2, 1) := by decide +kernel
theorem dL_told_1 : decode cL_told 1 = .ok (.iconst 0, 1) := by decide +kernel
theorem dL_told_2 : decode cL_told 2 = .ok (.aload_n 0, 1) := by decide +kernel
theorem dL_told_3 : decode cL_told 3 = .ok (.iload_n 1, 1) := by decide +kernel
theorem dL_told_4 : decode cL_told 4 = .ok (.invokevirtual 24, 3) := by decide +kernel
theorem dL_told_7 : decode cL_told 7 = .ok (.i2l, 1) := by decide +kernel
theorem dL_told_8 : decode cL_told 8 = .ok (.lastore, 1) := by decide +kernel
theorem dL_told_9 : decode cL_told 9 = .ok (.goto 6, 3) := by decide +kernel
theorem dL_told_12 : decode cL_told 12 = .ok (.astore_n 3, 1) := by decide +kernel
theorem dL_told_13 : decode cL_told 13 = .ok (.iconst 1, 1) := by decide +kernel
theorem dL_told_14 : decode cL_told 14 = .ok (.ireturn, 1) := by decide +kernel
theorem dL_told_15 : decode cL_told 15 = .ok (.iconst 0, 1) := by decide +kernel
theorem dL_told_16 : decode cL_told 16 = .ok (.ireturn, 1) := by decide +kernel
theorem dL_room_0 : decode cL_room 0 = .ok (.aload_n 3, 1) := by decide +kernel
theorem dL_room_1 : decode cL_room 1 = .ok (.iconst 0, 1) := by decide +kernel
theorem dL_room_2 : decode cL_room 2 = .ok (.aload_n 0, 1) := by decide +kernel
theorem dL_room_3 : decode cL_room 3 = .ok (.iload_n 1, 1) := by decide +kernel
theorem dL_room_4 : decode cL_room 4 = .ok (.iload_n 2, 1) := by decide +kernel
theorem dL_room_5 : decode cL_room 5 = .ok (.invokevirtual 27, 3) := by decide +kernel
theorem dL_room_8 : decode cL_room 8 = .ok (.i2l, 1) := by decide +kernel
theorem dL_room_9 : decode cL_room 9 = .ok (.lastore, 1) := by decide +kernel
theorem dL_room_10 : decode cL_room 10 = .ok (.goto 11, 3) := by decide +kernel
theorem dL_room_13 : decode cL_room 13 = .ok (.astore 4, 2) := by decide +kernel
theorem dL_room_15 : decode cL_room 15 = .ok (.iconst 1, 1) := by decide +kernel
theorem dL_room_16 : decode cL_room 16 = .ok (.ireturn, 1) := by decide +kernel
theorem dL_room_17 : decode cL_room 17 = .ok (.astore 4, 2) := by decide +kernel
theorem dL_room_19 : decode cL_room 19 = .ok (.iconst 2, 1) := by decide +kernel
theorem dL_room_20 : decode cL_room 20 = .ok (.ireturn, 1) := by decide +kernel
theorem dL_room_21 : decode cL_room 21 = .ok (.iconst 0, 1) := by decide +kernel
theorem dL_room_22 : decode cL_room 22 = .ok (.ireturn, 1) := by decide +kernel
theorem dL_way_0 : decode cL_way 0 = .ok (.aload_n 3, 1) := by decide +kernel
theorem dL_way_1 : decode cL_way 1 = .ok (.iconst 0, 1) := by decide +kernel
theorem dL_way_2 : decode cL_way 2 = .ok (.aload_n 0, 1) := by decide +kernel
theorem dL_way_3 : decode cL_way 3 = .ok (.iload_n 1, 1) := by decide +kernel
theorem dL_way_4 : decode cL_way 4 = .ok (.iload_n 2, 1) := by decide +kernel
theorem dL_way_5 : decode cL_way 5 = .ok (.invokevirtual 33, 3) := by decide +kernel
theorem dL_way_8 : decode cL_way 8 = .ok (.i2l, 1) := by decide +kernel
theorem dL_way_9 : decode cL_way 9 = .ok (.lastore, 1) := by decide +kernel
theorem dL_way_10 : decode cL_way 10 = .ok (.goto 11, 3) := by decide +kernel
theorem dL_way_13 : decode cL_way 13 = .ok (.astore 4, 2) := by decide +kernel
theorem dL_way_15 : decode cL_way 15 = .ok (.iconst 1, 1) := by decide +kernel
theorem dL_way_16 : decode cL_way 16 = .ok (.ireturn, 1) := by decide +kernel
theorem dL_way_17 : decode cL_way 17 = .ok (.astore 4, 2) := by decide +kernel
theorem dL_way_19 : decode cL_way 19 = .ok (.iconst 2, 1) := by decide +kernel
theorem dL_way_20 : decode cL_way 20 = .ok (.ireturn, 1) := by decide +kernel
theorem dL_way_21 : decode cL_way 21 = .ok (.iconst 0, 1) := by decide +kernel
theorem dL_way_22 : decode cL_way 22 = .ok (.ireturn, 1) := by decide +kernel
theorem dL_scheme_0 : decode cL_scheme 0 = .ok (.aload_n 3, 1) := by decide +kernel
theorem dL_scheme_1 : decode cL_scheme 1 = .ok (.iconst 0, 1) := by decide +kernel
theorem dL_scheme_2 : decode cL_scheme 2 = .ok (.aload_n 0, 1) := by decide +kernel
theorem dL_scheme_3 : decode cL_scheme 3 = .ok (.iload_n 1, 1) := by decide +kernel
theorem dL_scheme_4 : decode cL_scheme 4 = .ok (.iload_n 2, 1) := by decide +kernel
theorem dL_scheme_5 : decode cL_scheme 5 = .ok (.invokevirtual 36, 3) := by decide +kernel
theorem dL_scheme_8 : decode cL_scheme 8 = .ok (.i2l, 1) := by decide +kernel
theorem dL_scheme_9 : decode cL_scheme 9 = .ok (.lastore, 1) := by decide +kernel
theorem dL_scheme_10 : decode cL_scheme 10 = .ok (.goto 11, 3) := by decide +kernel
theorem dL_scheme_13 : decode cL_scheme 13 = .ok (.astore 4, 2) := by decide +kernel
theorem dL_scheme_15 : decode cL_scheme 15 = .ok (.iconst 1, 1) := by decide +kernel
theorem dL_scheme_16 : decode cL_scheme 16 = .ok (.ireturn, 1) := by decide +kernel
theorem dL_scheme_17 : decode cL_scheme 17 = .ok (.astore 4, 2) := by decide +kernel
theorem dL_scheme_19 : decode cL_scheme 19 = .ok (.iconst 2, 1) := by decide +kernel
theorem dL_scheme_20 : decode cL_scheme 20 = .ok (.ireturn, 1) := by decide +kernel
theorem dL_scheme_21 : decode cL_scheme 21 = .ok (.iconst 0, 1) := by decide +kernel
theorem dL_scheme_22 : decode cL_scheme 22 = .ok (.ireturn, 1) := by decide +kernel
theorem dL_cat_0 : decode cL_cat 0 = .ok (.aload_n 3, 1) := by decide +kernel
theorem dL_cat_1 : decode cL_cat 1 = .ok (.iconst 0, 1) := by decide +kernel
theorem dL_cat_2 : decode cL_cat 2 = .ok (.aload_n 0, 1) := by decide +kernel
theorem dL_cat_3 : decode cL_cat 3 = .ok (.iload_n 1, 1) := by decide +kernel
theorem dL_cat_4 : decode cL_cat 4 = .ok (.iload_n 2, 1) := by decide +kernel
theorem dL_cat_5 : decode cL_cat 5 = .ok (.invokevirtual 39, 3) := by decide +kernel
theorem dL_cat_8 : decode cL_cat 8 = .ok (.i2l, 1) := by decide +kernel
theorem dL_cat_9 : decode cL_cat 9 = .ok (.lastore, 1) := by decide +kernel
theorem dL_cat_10 : decode cL_cat 10 = .ok (.goto 11, 3) := by decide +kernel
theorem dL_cat_13 : decode cL_cat 13 = .ok (.astore 4, 2) := by decide +kernel
theorem dL_cat_15 : decode cL_cat 15 = .ok (.iconst 1, 1) := by decide +kernel
theorem dL_cat_16 : decode cL_cat 16 = .ok (.ireturn, 1) := by decide +kernel
theorem dL_cat_17 : decode cL_cat 17 = .ok (.astore 4, 2) := by decide +kernel
theorem dL_cat_19 : decode cL_cat 19 = .ok (.iconst 2, 1) := by decide +kernel
theorem dL_cat_20 : decode cL_cat 20 = .ok (.ireturn, 1) := by decide +kernel
theorem dL_cat_21 : decode cL_cat 21 = .ok (.iconst 0, 1) := by decide +kernel
theorem dL_cat_22 : decode cL_cat 22 = .ok (.ireturn, 1) := by decide +kernel
theorem dL_more_0 : decode cL_more 0 = .ok (.aload_n 2, 1) := by decide +kernel
theorem dL_more_1 : decode cL_more 1 = .ok (.iconst 0, 1) := by decide +kernel
theorem dL_more_2 : decode cL_more 2 = .ok (.aload_n 0, 1) := by decide +kernel
theorem dL_more_3 : decode cL_more 3 = .ok (.iload_n 1, 1) := by decide +kernel
theorem dL_more_4 : decode cL_more 4 = .ok (.invokevirtual 42, 3) := by decide +kernel
theorem dL_more_7 : decode cL_more 7 = .ok (.i2l, 1) := by decide +kernel
theorem dL_more_8 : decode cL_more 8 = .ok (.lastore, 1) := by decide +kernel
theorem dL_more_9 : decode cL_more 9 = .ok (.goto 6, 3) := by decide +kernel
theorem dL_more_12 : decode cL_more 12 = .ok (.astore_n 3, 1) := by decide +kernel
theorem dL_more_13 : decode cL_more 13 = .ok (.iconst 1, 1) := by decide +kernel
theorem dL_more_14 : decode cL_more 14 = .ok (.ireturn, 1) := by decide +kernel
theorem dL_more_15 : decode cL_more 15 = .ok (.iconst 0, 1) := by decide +kernel
theorem dL_more_16 : decode cL_more 16 = .ok (.ireturn, 1) := by decide +kernel
theorem dL_would_0 : decode cL_would 0 = .ok (.aload 8, 2) := by decide +kernel
theorem dL_would_2 : decode cL_would 2 = .ok (.iconst 0, 1) := by decide +kernel
theorem dL_would_3 : decode cL_would 3 = .ok (.aload_n 0, 1) := by decide +kernel
theorem dL_would_4 : decode cL_would 4 = .ok (.iload_n 1, 1) := by decide +kernel
theorem dL_would_5 : decode cL_would 5 = .ok (.iload_n 2, 1) := by decide +kernel
theorem dL_would_6 : decode cL_would 6 = .ok (.iload_n 3, 1) := by decide +kernel
theorem dL_would_7 : decode cL_would 7 = .ok (.iload 4, 2) := by decide +kernel
theorem dL_would_9 : decode cL_would 9 = .ok (.iload 5, 2) := by decide +kernel
theorem dL_would_11 : decode cL_would 11 = .ok (.iload 6, 2) := by decide +kernel
theorem dL_would_13 : decode cL_would 13 = .ok (.iload 7, 2) := by decide +kernel
theorem dL_would_15 : decode cL_would 15 = .ok (.invokevirtual 45, 3) := by decide +kernel
theorem dL_would_18 : decode cL_would 18 = .ok (.i2l, 1) := by decide +kernel
theorem dL_would_19 : decode cL_would 19 = .ok (.lastore, 1) := by decide +kernel
theorem dL_would_20 : decode cL_would 20 = .ok (.goto 7, 3) := by decide +kernel
theorem dL_would_23 : decode cL_would 23 = .ok (.astore 9, 2) := by decide +kernel
theorem dL_would_25 : decode cL_would 25 = .ok (.iconst 1, 1) := by decide +kernel
theorem dL_would_26 : decode cL_would 26 = .ok (.ireturn, 1) := by decide +kernel
theorem dL_would_27 : decode cL_would 27 = .ok (.iconst 0, 1) := by decide +kernel
theorem dL_would_28 : decode cL_would 28 = .ok (.ireturn, 1) := by decide +kernel
theorem dL_ahead_0 : decode cL_ahead 0 = .ok (.aload_n 3, 1) := by decide +kernel
theorem dL_ahead_1 : decode cL_ahead 1 = .ok (.iconst 0, 1) := by decide +kernel
theorem dL_ahead_2 : decode cL_ahead 2 = .ok (.aload_n 0, 1) := by decide +kernel
theorem dL_ahead_3 : decode cL_ahead 3 = .ok (.iload_n 1, 1) := by decide +kernel
theorem dL_ahead_4 : decode cL_ahead 4 = .ok (.iload_n 2, 1) := by decide +kernel
theorem dL_ahead_5 : decode cL_ahead 5 = .ok (.invokevirtual 49, 3) := by decide +kernel
theorem dL_ahead_8 : decode cL_ahead 8 = .ok (.i2l, 1) := by decide +kernel
theorem dL_ahead_9 : decode cL_ahead 9 = .ok (.lastore, 1) := by decide +kernel
theorem dL_ahead_10 : decode cL_ahead 10 = .ok (.goto 7, 3) := by decide +kernel
theorem dL_ahead_13 : decode cL_ahead 13 = .ok (.astore 4, 2) := by decide +kernel
theorem dL_ahead_15 : decode cL_ahead 15 = .ok (.iconst 1, 1) := by decide +kernel
theorem dL_ahead_16 : decode cL_ahead 16 = .ok (.ireturn, 1) := by decide +kernel
theorem dL_ahead_17 : decode cL_ahead 17 = .ok (.iconst 0, 1) := by decide +kernel
theorem dL_ahead_18 : decode cL_ahead 18 = .ok (.ireturn, 1) := by decide +kernel
theorem dL_far_0 : decode cL_far 0 = .ok (.aload_n 3, 1) := by decide +kernel
theorem dL_far_1 : decode cL_far 1 = .ok (.iconst 0, 1) := by decide +kernel
theorem dL_far_2 : decode cL_far 2 = .ok (.aload_n 0, 1) := by decide +kernel
theorem dL_far_3 : decode cL_far 3 = .ok (.iload_n 1, 1) := by decide +kernel
theorem dL_far_4 : decode cL_far 4 = .ok (.iload_n 2, 1) := by decide +kernel
theorem dL_far_5 : decode cL_far 5 = .ok (.invokevirtual 52, 3) := by decide +kernel
theorem dL_far_8 : decode cL_far 8 = .ok (.i2l, 1) := by decide +kernel
theorem dL_far_9 : decode cL_far 9 = .ok (.lastore, 1) := by decide +kernel
theorem dL_far_10 : decode cL_far 10 = .ok (.goto 7, 3) := by decide +kernel
theorem dL_far_13 : decode cL_far 13 = .ok (.astore 4, 2) := by decide +kernel
theorem dL_far_15 : decode cL_far 15 = .ok (.iconst 1, 1) := by decide +kernel
theorem dL_far_16 : decode cL_far 16 = .ok (.ireturn, 1) := by decide +kernel
theorem dL_far_17 : decode cL_far 17 = .ok (.iconst 0, 1) := by decide +kernel
theorem dL_far_18 : decode cL_far 18 = .ok (.ireturn, 1) := by decide +kernel
theorem dL_lasts_0 : decode cL_lasts 0 = .ok (.aload_n 2, 1) := by decide +kernel
theorem dL_lasts_1 : decode cL_lasts 1 = .ok (.iconst 0, 1) := by decide +kernel
theorem dL_lasts_2 : decode cL_lasts 2 = .ok (.aload_n 0, 1) := by decide +kernel
theorem dL_lasts_3 : decode cL_lasts 3 = .ok (.iload_n 1, 1) := by decide +kernel
theorem dL_lasts_4 : decode cL_lasts 4 = .ok (.invokevirtual 55, 3) := by decide +kernel
theorem dL_lasts_7 : decode cL_lasts 7 = .ok (.i2l, 1) := by decide +kernel
theorem dL_lasts_8 : decode cL_lasts 8 = .ok (.lastore, 1) := by decide +kernel
theorem dL_lasts_9 : decode cL_lasts 9 = .ok (.goto 6, 3) := by decide +kernel
theorem dL_lasts_12 : decode cL_lasts 12 = .ok (.astore_n 3, 1) := by decide +kernel
theorem dL_lasts_13 : decode cL_lasts 13 = .ok (.iconst 1, 1) := by decide +kernel
theorem dL_lasts_14 : decode cL_lasts 14 = .ok (.ireturn, 1) := by decide +kernel
theorem dL_lasts_15 : decode cL_lasts 15 = .ok (.iconst 0, 1) := by decide +kernel
theorem dL_lasts_16 : decode cL_lasts 16 = .ok (.ireturn, 1) := by decide +kernel
theorem dL_slips_0 : decode cL_slips 0 = .ok (.aload_n 3, 1) := by decide +kernel
theorem dL_slips_1 : decode cL_slips 1 = .ok (.iconst 0, 1) := by decide +kernel
theorem dL_slips_2 : decode cL_slips 2 = .ok (.aload_n 0, 1) := by decide +kernel
theorem dL_slips_3 : decode cL_slips 3 = .ok (.iload_n 1, 1) := by decide +kernel
theorem dL_slips_4 : decode cL_slips 4 = .ok (.iload_n 2, 1) := by decide +kernel
theorem dL_slips_5 : decode cL_slips 5 = .ok (.invokevirtual 58, 3) := by decide +kernel
theorem dL_slips_8 : decode cL_slips 8 = .ok (.i2l, 1) := by decide +kernel
theorem dL_slips_9 : decode cL_slips 9 = .ok (.lastore, 1) := by decide +kernel
theorem dL_slips_10 : decode cL_slips 10 = .ok (.goto 7, 3) := by decide +kernel
theorem dL_slips_13 : decode cL_slips 13 = .ok (.astore 4, 2) := by decide +kernel
theorem dL_slips_15 : decode cL_slips 15 = .ok (.iconst 1, 1) := by decide +kernel
theorem dL_slips_16 : decode cL_slips 16 = .ok (.ireturn, 1) := by decide +kernel
theorem dL_slips_17 : decode cL_slips 17 = .ok (.iconst 0, 1) := by decide +kernel
theorem dL_slips_18 : decode cL_slips 18 = .ok (.ireturn, 1) := by decide +kernel
theorem dL_hunt_0 : decode cL_hunt 0 = .ok (.aload_n 2, 1) := by decide +kernel
theorem dL_hunt_1 : decode cL_hunt 1 = .ok (.iconst 0, 1) := by decide +kernel
theorem dL_hunt_2 : decode cL_hunt 2 = .ok (.aload_n 0, 1) := by decide +kernel
theorem dL_hunt_3 : decode cL_hunt 3 = .ok (.iload_n 1, 1) := by decide +kernel
theorem dL_hunt_4 : decode cL_hunt 4 = .ok (.invokevirtual 61, 3) := by decide +kernel
theorem dL_hunt_7 : decode cL_hunt 7 = .ok (.i2l, 1) := by decide +kernel
theorem dL_hunt_8 : decode cL_hunt 8 = .ok (.lastore, 1) := by decide +kernel
theorem dL_hunt_9 : decode cL_hunt 9 = .ok (.goto 6, 3) := by decide +kernel
theorem dL_hunt_12 : decode cL_hunt 12 = .ok (.astore_n 3, 1) := by decide +kernel
theorem dL_hunt_13 : decode cL_hunt 13 = .ok (.iconst 1, 1) := by decide +kernel
theorem dL_hunt_14 : decode cL_hunt 14 = .ok (.ireturn, 1) := by decide +kernel
theorem dL_hunt_15 : decode cL_hunt 15 = .ok (.iconst 0, 1) := by decide +kernel
theorem dL_hunt_16 : decode cL_hunt 16 = .ok (.ireturn, 1) := by decide +kernel
theorem dL_prey_0 : decode cL_prey 0 = .ok (.aload_n 2, 1) := by decide +kernel
theorem dL_prey_1 : decode cL_prey 1 = .ok (.iconst 0, 1) := by decide +kernel
theorem dL_prey_2 : decode cL_prey 2 = .ok (.aload_n 0, 1) := by decide +kernel
theorem dL_prey_3 : decode cL_prey 3 = .ok (.iload_n 1, 1) := by decide +kernel
theorem dL_prey_4 : decode cL_prey 4 = .ok (.invokevirtual 64, 3) := by decide +kernel
theorem dL_prey_7 : decode cL_prey 7 = .ok (.i2l, 1) := by decide +kernel
theorem dL_prey_8 : decode cL_prey 8 = .ok (.lastore, 1) := by decide +kernel
theorem dL_prey_9 : decode cL_prey 9 = .ok (.goto 6, 3) := by decide +kernel
theorem dL_prey_12 : decode cL_prey 12 = .ok (.astore_n 3, 1) := by decide +kernel
theorem dL_prey_13 : decode cL_prey 13 = .ok (.iconst 1, 1) := by decide +kernel
theorem dL_prey_14 : decode cL_prey 14 = .ok (.ireturn, 1) := by decide +kernel
theorem dL_prey_15 : decode cL_prey 15 = .ok (.iconst 0, 1) := by decide +kernel
theorem dL_prey_16 : decode cL_prey 16 = .ok (.ireturn, 1) := by decide +kernel
theorem dL_sums_0 : decode cL_sums 0 = .ok (.aload_n 3, 1) := by decide +kernel
theorem dL_sums_1 : decode cL_sums 1 = .ok (.iconst 0, 1) := by decide +kernel
theorem dL_sums_2 : decode cL_sums 2 = .ok (.aload_n 0, 1) := by decide +kernel
theorem dL_sums_3 : decode cL_sums 3 = .ok (.iload_n 1, 1) := by decide +kernel
theorem dL_sums_4 : decode cL_sums 4 = .ok (.iload_n 2, 1) := by decide +kernel
theorem dL_sums_5 : decode cL_sums 5 = .ok (.invokevirtual 67, 3) := by decide +kernel
theorem dL_sums_8 : decode cL_sums 8 = .ok (.i2l, 1) := by decide +kernel
theorem dL_sums_9 : decode cL_sums 9 = .ok (.lastore, 1) := by decide +kernel
theorem dL_sums_10 : decode cL_sums 10 = .ok (.goto 11, 3) := by decide +kernel
theorem dL_sums_13 : decode cL_sums 13 = .ok (.astore 4, 2) := by decide +kernel
theorem dL_sums_15 : decode cL_sums 15 = .ok (.iconst 1, 1) := by decide +kernel
theorem dL_sums_16 : decode cL_sums 16 = .ok (.ireturn, 1) := by decide +kernel
theorem dL_sums_17 : decode cL_sums 17 = .ok (.astore 4, 2) := by decide +kernel
theorem dL_sums_19 : decode cL_sums 19 = .ok (.iconst 2, 1) := by decide +kernel
theorem dL_sums_20 : decode cL_sums 20 = .ok (.ireturn, 1) := by decide +kernel
theorem dL_sums_21 : decode cL_sums 21 = .ok (.iconst 0, 1) := by decide +kernel
theorem dL_sums_22 : decode cL_sums 22 = .ok (.ireturn, 1) := by decide +kernel
theorem dL_fits_0 : decode cL_fits 0 = .ok (.aload_n 2, 1) := by decide +kernel
theorem dL_fits_1 : decode cL_fits 1 = .ok (.iconst 0, 1) := by decide +kernel
theorem dL_fits_2 : decode cL_fits 2 = .ok (.aload_n 0, 1) := by decide +kernel
theorem dL_fits_3 : decode cL_fits 3 = .ok (.iload_n 1, 1) := by decide +kernel
theorem dL_fits_4 : decode cL_fits 4 = .ok (.invokevirtual 70, 3) := by decide +kernel
theorem dL_fits_7 : decode cL_fits 7 = .ok (.i2l, 1) := by decide +kernel
theorem dL_fits_8 : decode cL_fits 8 = .ok (.lastore, 1) := by decide +kernel
theorem dL_fits_9 : decode cL_fits 9 = .ok (.goto 6, 3) := by decide +kernel
theorem dL_fits_12 : decode cL_fits 12 = .ok (.astore_n 3, 1) := by decide +kernel
theorem dL_fits_13 : decode cL_fits 13 = .ok (.iconst 1, 1) := by decide +kernel
theorem dL_fits_14 : decode cL_fits 14 = .ok (.ireturn, 1) := by decide +kernel
theorem dL_fits_15 : decode cL_fits 15 = .ok (.iconst 0, 1) := by decide +kernel
theorem dL_fits_16 : decode cL_fits 16 = .ok (.ireturn, 1) := by decide +kernel
theorem dL_look_0 : decode cL_look 0 = .ok (.aload_n 2, 1) := by decide +kernel
theorem dL_look_1 : decode cL_look 1 = .ok (.iconst 0, 1) := by decide +kernel
theorem dL_look_2 : decode cL_look 2 = .ok (.aload_n 0, 1) := by decide +kernel
theorem dL_look_3 : decode cL_look 3 = .ok (.iload_n 1, 1) := by decide +kernel
theorem dL_look_4 : decode cL_look 4 = .ok (.invokevirtual 73, 3) := by decide +kernel
theorem dL_look_7 : decode cL_look 7 = .ok (.i2l, 1) := by decide +kernel
theorem dL_look_8 : decode cL_look 8 = .ok (.lastore, 1) := by decide +kernel
theorem dL_look_9 : decode cL_look 9 = .ok (.goto 6, 3) := by decide +kernel
theorem dL_look_12 : decode cL_look 12 = .ok (.astore_n 3, 1) := by decide +kernel
theorem dL_look_13 : decode cL_look 13 = .ok (.iconst 1, 1) := by decide +kernel
theorem dL_look_14 : decode cL_look 14 = .ok (.ireturn, 1) := by decide +kernel
theorem dL_look_15 : decode cL_look 15 = .ok (.iconst 0, 1) := by decide +kernel
theorem dL_look_16 : decode cL_look 16 = .ok (.ireturn, 1) := by decide +kernel
theorem dL_uncle_0 : decode cL_uncle 0 = .ok (.aload 4, 2) := by decide +kernel
theorem dL_uncle_2 : decode cL_uncle 2 = .ok (.iconst 0, 1) := by decide +kernel
theorem dL_uncle_3 : decode cL_uncle 3 = .ok (.aload_n 0, 1) := by decide +kernel
theorem dL_uncle_4 : decode cL_uncle 4 = .ok (.iload_n 1, 1) := by decide +kernel
theorem dL_uncle_5 : decode cL_uncle 5 = .ok (.iload_n 2, 1) := by decide +kernel
theorem dL_uncle_6 : decode cL_uncle 6 = .ok (.iload_n 3, 1) := by decide +kernel
theorem dL_uncle_7 : decode cL_uncle 7 = .ok (.invokevirtual 76, 3) := by decide +kernel
theorem dL_uncle_10 : decode cL_uncle 10 = .ok (.i2l, 1) := by decide +kernel
theorem dL_uncle_11 : decode cL_uncle 11 = .ok (.lastore, 1) := by decide +kernel
theorem dL_uncle_12 : decode cL_uncle 12 = .ok (.goto 7, 3) := by decide +kernel
theorem dL_uncle_15 : decode cL_uncle 15 = .ok (.astore 5, 2) := by decide +kernel
theorem dL_uncle_17 : decode cL_uncle 17 = .ok (.iconst 1, 1) := by decide +kernel
theorem dL_uncle_18 : decode cL_uncle 18 = .ok (.ireturn, 1) := by decide +kernel
theorem dL_uncle_19 : decode cL_uncle 19 = .ok (.iconst 0, 1) := by decide +kernel
theorem dL_uncle_20 : decode cL_uncle 20 = .ok (.ireturn, 1) := by decide +kernel
theorem dL_boat_0 : decode cL_boat 0 = .ok (.aload 5, 2) := by decide +kernel
theorem dL_boat_2 : decode cL_boat 2 = .ok (.iconst 0, 1) := by decide +kernel
theorem dL_boat_3 : decode cL_boat 3 = .ok (.aload_n 0, 1) := by decide +kernel
theorem dL_boat_4 : decode cL_boat 4 = .ok (.iload_n 1, 1) := by decide +kernel
theorem dL_boat_5 : decode cL_boat 5 = .ok (.iload_n 2, 1) := by decide +kernel
theorem dL_boat_6 : decode cL_boat 6 = .ok (.iload_n 3, 1) := by decide +kernel
theorem dL_boat_7 : decode cL_boat 7 = .ok (.iload 4, 2) := by decide +kernel
theorem dL_boat_9 : decode cL_boat 9 = .ok (.invokevirtual 80, 3) := by decide +kernel
theorem dL_boat_12 : decode cL_boat 12 = .ok (.lastore, 1) := by decide +kernel
theorem dL_boat_13 : decode cL_boat 13 = .ok (.goto 7, 3) := by decide +kernel
theorem dL_boat_16 : decode cL_boat 16 = .ok (.astore 6, 2) := by decide +kernel
theorem dL_boat_18 : decode cL_boat 18 = .ok (.iconst 1, 1) := by decide +kernel
theorem dL_boat_19 : decode cL_boat 19 = .ok (.ireturn, 1) := by decide +kernel
theorem dL_boat_20 : decode cL_boat 20 = .ok (.iconst 0, 1) := by decide +kernel
theorem dL_boat_21 : decode cL_boat 21 = .ok (.ireturn, 1) := by decide +kernel
theorem dL_crumbs_0 : decode cL_crumbs 0 = .ok (.aload 4, 2) := by decide +kernel
theorem dL_crumbs_2 : decode cL_crumbs 2 = .ok (.iconst 0, 1) := by decide +kernel
theorem dL_crumbs_3 : decode cL_crumbs 3 = .ok (.aload_n 0, 1) := by decide +kernel
theorem dL_crumbs_4 : decode cL_crumbs 4 = .ok (.iload_n 1, 1) := by decide +kernel
theorem dL_crumbs_5 : decode cL_crumbs 5 = .ok (.iload_n 2, 1) := by decide +kernel
theorem dL_crumbs_6 : decode cL_crumbs 6 = .ok (.iload_n 3, 1) := by decide +kernel
theorem dL_crumbs_7 : decode cL_crumbs 7 = .ok (.invokevirtual 84, 3) := by decide +kernel
theorem dL_crumbs_10 : decode cL_crumbs 10 = .ok (.i2l, 1) := by decide +kernel
theorem dL_crumbs_11 : decode cL_crumbs 11 = .ok (.lastore, 1) := by decide +kernel
theorem dL_crumbs_12 : decode cL_crumbs 12 = .ok (.goto 11, 3) := by decide +kernel
theorem dL_crumbs_15 : decode cL_crumbs 15 = .ok (.astore 5, 2) := by decide +kernel
theorem dL_crumbs_17 : decode cL_crumbs 17 = .ok (.iconst 1, 1) := by decide +kernel
theorem dL_crumbs_18 : decode cL_crumbs 18 = .ok (.ireturn, 1) := by decide +kernel
theorem dL_crumbs_19 : decode cL_crumbs 19 = .ok (.astore 5, 2) := by decide +kernel
theorem dL_crumbs_21 : decode cL_crumbs 21 = .ok (.iconst 2, 1) := by decide +kernel
theorem dL_crumbs_22 : decode cL_crumbs 22 = .ok (.ireturn, 1) := by decide +kernel
theorem dL_crumbs_23 : decode cL_crumbs 23 = .ok (.iconst 0, 1) := by decide +kernel
theorem dL_crumbs_24 : decode cL_crumbs 24 = .ok (.ireturn, 1) := by decide +kernel
theorem dL_greatest_0 : decode cL_greatest 0 = .ok (.aload_n 2, 1) := by decide +kernel
theorem dL_greatest_1 : decode cL_greatest 1 = .ok (.iconst 0, 1) := by decide +kernel
theorem dL_greatest_2 : decode cL_greatest 2 = .ok (.aload_n 0, 1) := by decide +kernel
theorem dL_greatest_3 : decode cL_greatest 3 = .ok (.iload_n 1, 1) := by decide +kernel
theorem dL_greatest_4 : decode cL_greatest 4 = .ok (.invokevirtual 87, 3) := by decide +kernel
theorem dL_greatest_7 : decode cL_greatest 7 = .ok (.i2l, 1) := by decide +kernel
theorem dL_greatest_8 : decode cL_greatest 8 = .ok (.lastore, 1) := by decide +kernel
theorem dL_greatest_9 : decode cL_greatest 9 = .ok (.goto 6, 3) := by decide +kernel
theorem dL_greatest_12 : decode cL_greatest 12 = .ok (.astore_n 3, 1) := by decide +kernel
theorem dL_greatest_13 : decode cL_greatest 13 = .ok (.iconst 1, 1) := by decide +kernel
theorem dL_greatest_14 : decode cL_greatest 14 = .ok (.ireturn, 1) := by decide +kernel
theorem dL_greatest_15 : decode cL_greatest 15 = .ok (.iconst 0, 1) := by decide +kernel
theorem dL_greatest_16 : decode cL_greatest 16 = .ok (.ireturn, 1) := by decide +kernel
theorem dL_proudest_0 : decode cL_proudest 0 = .ok (.aload_n 2, 1) := by decide +kernel
theorem dL_proudest_1 : decode cL_proudest 1 = .ok (.iconst 0, 1) := by decide +kernel
theorem dL_proudest_2 : decode cL_proudest 2 = .ok (.aload_n 0, 1) := by decide +kernel
theorem dL_proudest_3 : decode cL_proudest 3 = .ok (.iload_n 1, 1) := by decide +kernel
theorem dL_proudest_4 : decode cL_proudest 4 = .ok (.invokevirtual 90, 3) := by decide +kernel
theorem dL_proudest_7 : decode cL_proudest 7 = .ok (.i2l, 1) := by decide +kernel
theorem dL_proudest_8 : decode cL_proudest 8 = .ok (.lastore, 1) := by decide +kernel
theorem dL_proudest_9 : decode cL_proudest 9 = .ok (.goto 6, 3) := by decide +kernel
theorem dL_proudest_12 : decode cL_proudest 12 = .ok (.astore_n 3, 1) := by decide +kernel
theorem dL_proudest_13 : decode cL_proudest 13 = .ok (.iconst 1, 1) := by decide +kernel
theorem dL_proudest_14 : decode cL_proudest 14 = .ok (.ireturn, 1) := by decide +kernel
theorem dL_proudest_15 : decode cL_proudest 15 = .ok (.iconst 0, 1) := by decide +kernel
theorem dL_proudest_16 : decode cL_proudest 16 = .ok (.ireturn, 1) := by decide +kernel
theorem dL_havens_0 : decode cL_havens 0 = .ok (.aload_n 2, 1) := by decide +kernel
theorem dL_havens_1 : decode cL_havens 1 = .ok (.iconst 0, 1) := by decide +kernel
theorem dL_havens_2 : decode cL_havens 2 = .ok (.aload_n 0, 1) := by decide +kernel
theorem dL_havens_3 : decode cL_havens 3 = .ok (.iload_n 1, 1) := by decide +kernel
theorem dL_havens_4 : decode cL_havens 4 = .ok (.invokevirtual 93, 3) := by decide +kernel
theorem dL_havens_7 : decode cL_havens 7 = .ok (.i2l, 1) := by decide +kernel
theorem dL_havens_8 : decode cL_havens 8 = .ok (.lastore, 1) := by decide +kernel
theorem dL_havens_9 : decode cL_havens 9 = .ok (.goto 6, 3) := by decide +kernel
theorem dL_havens_12 : decode cL_havens 12 = .ok (.astore_n 3, 1) := by decide +kernel
theorem dL_havens_13 : decode cL_havens 13 = .ok (.iconst 1, 1) := by decide +kernel
theorem dL_havens_14 : decode cL_havens 14 = .ok (.ireturn, 1) := by decide +kernel
theorem dL_havens_15 : decode cL_havens 15 = .ok (.iconst 0, 1) := by decide +kernel
theorem dL_havens_16 : decode cL_havens 16 = .ok (.ireturn, 1) := by decide +kernel
theorem dL_crowd_0 : decode cL_crowd 0 = .ok (.aload_n 2, 1) := by decide +kernel
theorem dL_crowd_1 : decode cL_crowd 1 = .ok (.iconst 0, 1) := by decide +kernel
theorem dL_crowd_2 : decode cL_crowd 2 = .ok (.aload_n 0, 1) := by decide +kernel
theorem dL_crowd_3 : decode cL_crowd 3 = .ok (.iload_n 1, 1) := by decide +kernel
theorem dL_crowd_4 : decode cL_crowd 4 = .ok (.invokevirtual 96, 3) := by decide +kernel
theorem dL_crowd_7 : decode cL_crowd 7 = .ok (.i2l, 1) := by decide +kernel
theorem dL_crowd_8 : decode cL_crowd 8 = .ok (.lastore, 1) := by decide +kernel
theorem dL_crowd_9 : decode cL_crowd 9 = .ok (.goto 6, 3) := by decide +kernel
theorem dL_crowd_12 : decode cL_crowd 12 = .ok (.astore_n 3, 1) := by decide +kernel
theorem dL_crowd_13 : decode cL_crowd 13 = .ok (.iconst 1, 1) := by decide +kernel
theorem dL_crowd_14 : decode cL_crowd 14 = .ok (.ireturn, 1) := by decide +kernel
theorem dL_crowd_15 : decode cL_crowd 15 = .ok (.iconst 0, 1) := by decide +kernel
theorem dL_crowd_16 : decode cL_crowd 16 = .ok (.ireturn, 1) := by decide +kernel
theorem dL_grown_0 : decode cL_grown 0 = .ok (.aload_n 3, 1) := by decide +kernel
theorem dL_grown_1 : decode cL_grown 1 = .ok (.iconst 0, 1) := by decide +kernel
theorem dL_grown_2 : decode cL_grown 2 = .ok (.aload_n 0, 1) := by decide +kernel
theorem dL_grown_3 : decode cL_grown 3 = .ok (.iload_n 1, 1) := by decide +kernel
theorem dL_grown_4 : decode cL_grown 4 = .ok (.iload_n 2, 1) := by decide +kernel
theorem dL_grown_5 : decode cL_grown 5 = .ok (.invokevirtual 99, 3) := by decide +kernel
theorem dL_grown_8 : decode cL_grown 8 = .ok (.i2l, 1) := by decide +kernel
theorem dL_grown_9 : decode cL_grown 9 = .ok (.lastore, 1) := by decide +kernel
theorem dL_grown_10 : decode cL_grown 10 = .ok (.goto 11, 3) := by decide +kernel
theorem dL_grown_13 : decode cL_grown 13 = .ok (.astore 4, 2) := by decide +kernel
theorem dL_grown_15 : decode cL_grown 15 = .ok (.iconst 1, 1) := by decide +kernel
theorem dL_grown_16 : decode cL_grown 16 = .ok (.ireturn, 1) := by decide +kernel
theorem dL_grown_17 : decode cL_grown 17 = .ok (.astore 4, 2) := by decide +kernel
theorem dL_grown_19 : decode cL_grown 19 = .ok (.iconst 2, 1) := by decide +kernel
theorem dL_grown_20 : decode cL_grown 20 = .ok (.ireturn, 1) := by decide +kernel
theorem dL_grown_21 : decode cL_grown 21 = .ok (.iconst 0, 1) := by decide +kernel
theorem dL_grown_22 : decode cL_grown 22 = .ok (.ireturn, 1) := by decide +kernel
theorem dL_escapes_0 : decode cL_escapes 0 = .ok (.aload_n 2, 1) := by decide +kernel
theorem dL_escapes_1 : decode cL_escapes 1 = .ok (.iconst 0, 1) := by decide +kernel
theorem dL_escapes_2 : decode cL_escapes 2 = .ok (.aload_n 0, 1) := by decide +kernel
theorem dL_escapes_3 : decode cL_escapes 3 = .ok (.iload_n 1, 1) := by decide +kernel
theorem dL_escapes_4 : decode cL_escapes 4 = .ok (.invokevirtual 102, 3) := by decide +kernel
theorem dL_escapes_7 : decode cL_escapes 7 = .ok (.i2l, 1) := by decide +kernel
theorem dL_escapes_8 : decode cL_escapes 8 = .ok (.lastore, 1) := by decide +kernel
theorem dL_escapes_9 : decode cL_escapes 9 = .ok (.goto 6, 3) := by decide +kernel
theorem dL_escapes_12 : decode cL_escapes 12 = .ok (.astore_n 3, 1) := by decide +kernel
theorem dL_escapes_13 : decode cL_escapes 13 = .ok (.iconst 1, 1) := by decide +kernel
theorem dL_escapes_14 : decode cL_escapes 14 = .ok (.ireturn, 1) := by decide +kernel
theorem dL_escapes_15 : decode cL_escapes 15 = .ok (.iconst 0, 1) := by decide +kernel
theorem dL_escapes_16 : decode cL_escapes 16 = .ok (.ireturn, 1) := by decide +kernel
theorem dL_weight_0 : decode cL_weight 0 = .ok (.aload_n 2, 1) := by decide +kernel
theorem dL_weight_1 : decode cL_weight 1 = .ok (.iconst 0, 1) := by decide +kernel
theorem dL_weight_2 : decode cL_weight 2 = .ok (.aload_n 0, 1) := by decide +kernel
theorem dL_weight_3 : decode cL_weight 3 = .ok (.iload_n 1, 1) := by decide +kernel
theorem dL_weight_4 : decode cL_weight 4 = .ok (.invokevirtual 105, 3) := by decide +kernel
theorem dL_weight_7 : decode cL_weight 7 = .ok (.i2l, 1) := by decide +kernel
theorem dL_weight_8 : decode cL_weight 8 = .ok (.lastore, 1) := by decide +kernel
theorem dL_weight_9 : decode cL_weight 9 = .ok (.goto 6, 3) := by decide +kernel
theorem dL_weight_12 : decode cL_weight 12 = .ok (.astore_n 3, 1) := by decide +kernel
theorem dL_weight_13 : decode cL_weight 13 = .ok (.iconst 1, 1) := by decide +kernel
theorem dL_weight_14 : decode cL_weight 14 = .ok (.ireturn, 1) := by decide +kernel
theorem dL_weight_15 : decode cL_weight 15 = .ok (.iconst 0, 1) := by decide +kernel
theorem dL_weight_16 : decode cL_weight 16 = .ok (.ireturn, 1) := by decide +kernel
theorem dL_season_0 : decode cL_season 0 = .ok (.aload 5, 2) := by decide +kernel
theorem dL_season_2 : decode cL_season 2 = .ok (.iconst 0, 1) := by decide +kernel
theorem dL_season_3 : decode cL_season 3 = .ok (.aload_n 0, 1) := by decide +kernel
theorem dL_season_4 : decode cL_season 4 = .ok (.iload_n 1, 1) := by decide +kernel
theorem dL_season_5 : decode cL_season 5 = .ok (.iload_n 2, 1) := by decide +kernel
theorem dL_season_6 : decode cL_season 6 = .ok (.iload_n 3, 1) := by decide +kernel
theorem dL_season_7 : decode cL_season 7 = .ok (.iload 4, 2) := by decide +kernel
theorem dL_season_9 : decode cL_season 9 = .ok (.invokevirtual 108, 3) := by decide +kernel
theorem dL_season_12 : decode cL_season 12 = .ok (.i2l, 1) := by decide +kernel
theorem dL_season_13 : decode cL_season 13 = .ok (.lastore, 1) := by decide +kernel
theorem dL_season_14 : decode cL_season 14 = .ok (.goto 7, 3) := by decide +kernel
theorem dL_season_17 : decode cL_season 17 = .ok (.astore 6, 2) := by decide +kernel
theorem dL_season_19 : decode cL_season 19 = .ok (.iconst 1, 1) := by decide +kernel
theorem dL_season_20 : decode cL_season 20 = .ok (.ireturn, 1) := by decide +kernel
theorem dL_season_21 : decode cL_season 21 = .ok (.iconst 0, 1) := by decide +kernel
theorem dL_season_22 : decode cL_season 22 = .ok (.ireturn, 1) := by decide +kernel
theorem dL_span_0 : decode cL_span 0 = .ok (.aload 7, 2) := by decide +kernel
theorem dL_span_2 : decode cL_span 2 = .ok (.iconst 0, 1) := by decide +kernel
theorem dL_span_3 : decode cL_span 3 = .ok (.aload_n 0, 1) := by decide +kernel
theorem dL_span_4 : decode cL_span 4 = .ok (.iload_n 1, 1) := by decide +kernel
theorem dL_span_5 : decode cL_span 5 = .ok (.iload_n 2, 1) := by decide +kernel
theorem dL_span_6 : decode cL_span 6 = .ok (.iload_n 3, 1) := by decide +kernel
theorem dL_span_7 : decode cL_span 7 = .ok (.iload 4, 2) := by decide +kernel
theorem dL_span_9 : decode cL_span 9 = .ok (.iload 5, 2) := by decide +kernel
theorem dL_span_11 : decode cL_span 11 = .ok (.iload 6, 2) := by decide +kernel
theorem dL_span_13 : decode cL_span 13 = .ok (.invokevirtual 112, 3) := by decide +kernel
theorem dL_span_16 : decode cL_span 16 = .ok (.i2l, 1) := by decide +kernel
theorem dL_span_17 : decode cL_span 17 = .ok (.lastore, 1) := by decide +kernel
theorem dL_span_18 : decode cL_span 18 = .ok (.goto 7, 3) := by decide +kernel
theorem dL_span_21 : decode cL_span 21 = .ok (.astore 8, 2) := by decide +kernel
theorem dL_span_23 : decode cL_span 23 = .ok (.iconst 1, 1) := by decide +kernel
theorem dL_span_24 : decode cL_span 24 = .ok (.ireturn, 1) := by decide +kernel
theorem dL_span_25 : decode cL_span 25 = .ok (.iconst 0, 1) := by decide +kernel
theorem dL_span_26 : decode cL_span 26 = .ok (.ireturn, 1) := by decide +kernel
theorem dL_law__0 : decode cL_law_ 0 = .ok (.new 8, 3) := by decide +kernel
theorem dL_law__3 : decode cL_law_ 3 = .ok (.dup, 1) := by decide +kernel
theorem dL_law__4 : decode cL_law_ 4 = .ok (.invokespecial 116, 3) := by decide +kernel
theorem dL_law__7 : decode cL_law_ 7 = .ok (.astore_n 1, 1) := by decide +kernel
theorem dL_law__8 : decode cL_law_ 8 = .ok (.new 117, 3) := by decide +kernel
theorem dL_law__11 : decode cL_law_ 11 = .ok (.dup, 1) := by decide +kernel
theorem dL_law__12 : decode cL_law_ 12 = .ok (.invokespecial 119, 3) := by decide +kernel
theorem dL_law__15 : decode cL_law_ 15 = .ok (.astore_n 2, 1) := by decide +kernel
theorem dL_law__16 : decode cL_law_ 16 = .ok (.iconst 1, 1) := by decide +kernel
theorem dL_law__17 : decode cL_law_ 17 = .ok (.newarray .long, 2) := by decide +kernel
theorem dL_law__19 : decode cL_law_ 19 = .ok (.astore_n 3, 1) := by decide +kernel
theorem dL_law__20 : decode cL_law_ 20 = .ok (.iconst 0, 1) := by decide +kernel
theorem dL_law__21 : decode cL_law_ 21 = .ok (.istore 4, 2) := by decide +kernel
theorem dL_law__23 : decode cL_law_ 23 = .ok (.iload 4, 2) := by decide +kernel
theorem dL_law__25 : decode cL_law_ 25 = .ok (.aload_n 0, 1) := by decide +kernel
theorem dL_law__26 : decode cL_law_ 26 = .ok (.arraylength, 1) := by decide +kernel
theorem dL_law__27 : decode cL_law_ 27 = .ok (.bipush 8, 2) := by decide +kernel
theorem dL_law__29 : decode cL_law_ 29 = .ok (.isub, 1) := by decide +kernel
theorem dL_law__30 : decode cL_law_ 30 = .ok (.if_icmp .gt 2571, 3) := by decide +kernel
theorem dL_law__33 : decode cL_law_ 33 = .ok (.aload_n 0, 1) := by decide +kernel
theorem dL_law__34 : decode cL_law_ 34 = .ok (.iload 4, 2) := by decide +kernel
theorem dL_law__36 : decode cL_law_ 36 = .ok (.iaload, 1) := by decide +kernel
theorem dL_law__37 : decode cL_law_ 37 = .ok (.bipush 63, 2) := by decide +kernel
theorem dL_law__39 : decode cL_law_ 39 = .ok (.iand, 1) := by decide +kernel
theorem dL_law__40 : decode cL_law_ 40 = .ok (.tableswitch 2555 0 41 #[184, 257, 313, 369, 425, 481, 494, 507, 563, 631, 699, 767, 835, 891, 1023, 1091, 1159, 1215, 1283, 1339, 1395, 1463, 1519, 1575, 1655, 1746, 1826, 1882, 1938, 1951, 1964, 2020, 2033, 2089, 2157, 2213, 2269, 2361, 2479, 2492, 2505, 2530], 184) := by decide +kernel
theorem dL_law__224 : decode cL_law_ 224 = .ok (.aload_n 1, 1) := by decide +kernel
theorem dL_law__225 : decode cL_law_ 225 = .ok (.aload_n 0, 1) := by decide +kernel
theorem dL_law__226 : decode cL_law_ 226 = .ok (.iload 4, 2) := by decide +kernel
theorem dL_law__228 : decode cL_law_ 228 = .ok (.iconst 1, 1) := by decide +kernel
theorem dL_law__229 : decode cL_law_ 229 = .ok (.iadd, 1) := by decide +kernel
theorem dL_law__230 : decode cL_law_ 230 = .ok (.iaload, 1) := by decide +kernel
theorem dL_law__231 : decode cL_law_ 231 = .ok (.aload_n 0, 1) := by decide +kernel
theorem dL_law__232 : decode cL_law_ 232 = .ok (.iload 4, 2) := by decide +kernel
theorem dL_law__234 : decode cL_law_ 234 = .ok (.iconst 2, 1) := by decide +kernel
theorem dL_law__235 : decode cL_law_ 235 = .ok (.iadd, 1) := by decide +kernel
theorem dL_law__236 : decode cL_law_ 236 = .ok (.iaload, 1) := by decide +kernel
theorem dL_law__237 : decode cL_law_ 237 = .ok (.aload_n 0, 1) := by decide +kernel
theorem dL_law__238 : decode cL_law_ 238 = .ok (.iload 4, 2) := by decide +kernel
theorem dL_law__240 : decode cL_law_ 240 = .ok (.iconst 3, 1) := by decide +kernel
theorem dL_law__241 : decode cL_law_ 241 = .ok (.iadd, 1) := by decide +kernel
theorem dL_law__242 : decode cL_law_ 242 = .ok (.iaload, 1) := by decide +kernel
theorem dL_law__243 : decode cL_law_ 243 = .ok (.aload_n 0, 1) := by decide +kernel
theorem dL_law__244 : decode cL_law_ 244 = .ok (.iload 4, 2) := by decide +kernel
theorem dL_law__246 : decode cL_law_ 246 = .ok (.iconst 4, 1) := by decide +kernel
theorem dL_law__247 : decode cL_law_ 247 = .ok (.iadd, 1) := by decide +kernel
theorem dL_law__248 : decode cL_law_ 248 = .ok (.iaload, 1) := by decide +kernel
theorem dL_law__249 : decode cL_law_ 249 = .ok (.aload_n 0, 1) := by decide +kernel
theorem dL_law__250 : decode cL_law_ 250 = .ok (.iload 4, 2) := by decide +kernel
theorem dL_law__252 : decode cL_law_ 252 = .ok (.iconst 5, 1) := by decide +kernel
theorem dL_law__253 : decode cL_law_ 253 = .ok (.iadd, 1) := by decide +kernel
theorem dL_law__254 : decode cL_law_ 254 = .ok (.iaload, 1) := by decide +kernel
theorem dL_law__255 : decode cL_law_ 255 = .ok (.invokevirtual 120, 3) := by decide +kernel
theorem dL_law__258 : decode cL_law_ 258 = .ok (.aload_n 2, 1) := by decide +kernel
theorem dL_law__259 : decode cL_law_ 259 = .ok (.aload_n 0, 1) := by decide +kernel
theorem dL_law__260 : decode cL_law_ 260 = .ok (.iload 4, 2) := by decide +kernel
theorem dL_law__262 : decode cL_law_ 262 = .ok (.iconst 1, 1) := by decide +kernel
theorem dL_law__263 : decode cL_law_ 263 = .ok (.iadd, 1) := by decide +kernel
theorem dL_law__264 : decode cL_law_ 264 = .ok (.iaload, 1) := by decide +kernel
theorem dL_law__265 : decode cL_law_ 265 = .ok (.aload_n 0, 1) := by decide +kernel
theorem dL_law__266 : decode cL_law_ 266 = .ok (.iload 4, 2) := by decide +kernel
theorem dL_law__268 : decode cL_law_ 268 = .ok (.iconst 2, 1) := by decide +kernel
theorem dL_law__269 : decode cL_law_ 269 = .ok (.iadd, 1) := by decide +kernel
theorem dL_law__270 : decode cL_law_ 270 = .ok (.iaload, 1) := by decide +kernel
theorem dL_law__271 : decode cL_law_ 271 = .ok (.aload_n 0, 1) := by decide +kernel
theorem dL_law__272 : decode cL_law_ 272 = .ok (.iload 4, 2) := by decide +kernel
theorem dL_law__274 : decode cL_law_ 274 = .ok (.iconst 3, 1) := by decide +kernel
theorem dL_law__275 : decode cL_law_ 275 = .ok (.iadd, 1) := by decide +kernel
theorem dL_law__276 : decode cL_law_ 276 = .ok (.iaload, 1) := by decide +kernel
theorem dL_law__277 : decode cL_law_ 277 = .ok (.aload_n 0, 1) := by decide +kernel
theorem dL_law__278 : decode cL_law_ 278 = .ok (.iload 4, 2) := by decide +kernel
theorem dL_law__280 : decode cL_law_ 280 = .ok (.iconst 4, 1) := by decide +kernel
theorem dL_law__281 : decode cL_law_ 281 = .ok (.iadd, 1) := by decide +kernel
theorem dL_law__282 : decode cL_law_ 282 = .ok (.iaload, 1) := by decide +kernel
theorem dL_law__283 : decode cL_law_ 283 = .ok (.aload_n 0, 1) := by decide +kernel
theorem dL_law__284 : decode cL_law_ 284 = .ok (.iload 4, 2) := by decide +kernel
theorem dL_law__286 : decode cL_law_ 286 = .ok (.iconst 5, 1) := by decide +kernel
theorem dL_law__287 : decode cL_law_ 287 = .ok (.iadd, 1) := by decide +kernel
theorem dL_law__288 : decode cL_law_ 288 = .ok (.iaload, 1) := by decide +kernel
theorem dL_law__289 : decode cL_law_ 289 = .ok (.invokevirtual 124, 3) := by decide +kernel
theorem dL_law__292 : decode cL_law_ 292 = .ok (.if_icmp .eq 2303, 3) := by decide +kernel
theorem dL_law__295 : decode cL_law_ 295 = .ok (.iconst 0, 1) := by decide +kernel
theorem dL_law__296 : decode cL_law_ 296 = .ok (.ireturn, 1) := by decide +kernel
theorem dL_law__297 : decode cL_law_ 297 = .ok (.aload_n 1, 1) := by decide +kernel
theorem dL_law__298 : decode cL_law_ 298 = .ok (.aload_n 0, 1) := by decide +kernel
theorem dL_law__299 : decode cL_law_ 299 = .ok (.iload 4, 2) := by decide +kernel
theorem dL_law__301 : decode cL_law_ 301 = .ok (.iconst 1, 1) := by decide +kernel
theorem dL_law__302 : decode cL_law_ 302 = .ok (.iadd, 1) := by decide +kernel
theorem dL_law__303 : decode cL_law_ 303 = .ok (.iaload, 1) := by decide +kernel
theorem dL_law__304 : decode cL_law_ 304 = .ok (.aload_n 3, 1) := by decide +kernel
theorem dL_law__305 : decode cL_law_ 305 = .ok (.invokestatic 125, 3) := by decide +kernel
theorem dL_law__308 : decode cL_law_ 308 = .ok (.istore 5, 2) := by decide +kernel
theorem dL_law__310 : decode cL_law_ 310 = .ok (.aload_n 2, 1) := by decide +kernel
theorem dL_law__311 : decode cL_law_ 311 = .ok (.aload_n 0, 1) := by decide +kernel
theorem dL_law__312 : decode cL_law_ 312 = .ok (.iload 4, 2) := by decide +kernel
theorem dL_law__314 : decode cL_law_ 314 = .ok (.iconst 1, 1) := by decide +kernel
theorem dL_law__315 : decode cL_law_ 315 = .ok (.iadd, 1) := by decide +kernel
theorem dL_law__316 : decode cL_law_ 316 = .ok (.iaload, 1) := by decide +kernel
theorem dL_law__317 : decode cL_law_ 317 = .ok (.invokevirtual 130, 3) := by decide +kernel
theorem dL_law__320 : decode cL_law_ 320 = .ok (.istore 6, 2) := by decide +kernel
theorem dL_law__322 : decode cL_law_ 322 = .ok (.aload_n 2, 1) := by decide +kernel
theorem dL_law__323 : decode cL_law_ 323 = .ok (.invokevirtual 131, 3) := by decide +kernel
theorem dL_law__326 : decode cL_law_ 326 = .ok (.iload 5, 2) := by decide +kernel
theorem dL_law__328 : decode cL_law_ 328 = .ok (.if_icmp .eq 5, 3) := by decide +kernel
theorem dL_law__331 : decode cL_law_ 331 = .ok (.iconst 0, 1) := by decide +kernel
theorem dL_law__332 : decode cL_law_ 332 = .ok (.ireturn, 1) := by decide +kernel
theorem dL_law__333 : decode cL_law_ 333 = .ok (.iload 5, 2) := by decide +kernel
theorem dL_law__335 : decode cL_law_ 335 = .ok (.ifCond .ne 15, 3) := by decide +kernel
theorem dL_law__338 : decode cL_law_ 338 = .ok (.aload_n 3, 1) := by decide +kernel
theorem dL_law__339 : decode cL_law_ 339 = .ok (.iconst 0, 1) := by decide +kernel
theorem dL_law__340 : decode cL_law_ 340 = .ok (.laload, 1) := by decide +kernel
theorem dL_law__341 : decode cL_law_ 341 = .ok (.iload 6, 2) := by decide +kernel
theorem dL_law__343 : decode cL_law_ 343 = .ok (.i2l, 1) := by decide +kernel
theorem dL_law__344 : decode cL_law_ 344 = .ok (.lcmp, 1) := by decide +kernel
theorem dL_law__345 : decode cL_law_ 345 = .ok (.ifCond .eq 5, 3) := by decide +kernel
theorem dL_law__348 : decode cL_law_ 348 = .ok (.iconst 0, 1) := by decide +kernel
theorem dL_law__349 : decode cL_law_ 349 = .ok (.ireturn, 1) := by decide +kernel
theorem dL_law__350 : decode cL_law_ 350 = .ok (.goto 2245, 3) := by decide +kernel
theorem dL_law__353 : decode cL_law_ 353 = .ok (.aload_n 1, 1) := by decide +kernel
theorem dL_law__354 : decode cL_law_ 354 = .ok (.aload_n 0, 1) := by decide +kernel
theorem dL_law__355 : decode cL_law_ 355 = .ok (.iload 4, 2) := by decide +kernel
theorem dL_law__357 : decode cL_law_ 357 = .ok (.iconst 1, 1) := by decide +kernel
theorem dL_law__358 : decode cL_law_ 358 = .ok (.iadd, 1) := by decide +kernel
theorem dL_law__359 : decode cL_law_ 359 = .ok (.iaload, 1) := by decide +kernel
theorem dL_law__360 : decode cL_law_ 360 = .ok (.aload_n 3, 1) := by decide +kernel
theorem dL_law__361 : decode cL_law_ 361 = .ok (.invokestatic 135, 3) := by decide +kernel
theorem dL_law__364 : decode cL_law_ 364 = .ok (.istore 5, 2) := by decide +kernel
theorem dL_law__366 : decode cL_law_ 366 = .ok (.aload_n 2, 1) := by decide +kernel
theorem dL_law__367 : decode cL_law_ 367 = .ok (.aload_n 0, 1) := by decide +kernel
theorem dL_law__368 : decode cL_law_ 368 = .ok (.iload 4, 2) := by decide +kernel
theorem dL_law__370 : decode cL_law_ 370 = .ok (.iconst 1, 1) := by decide +kernel
theorem dL_law__371 : decode cL_law_ 371 = .ok (.iadd, 1) := by decide +kernel
theorem dL_law__372 : decode cL_law_ 372 = .ok (.iaload, 1) := by decide +kernel
theorem dL_law__373 : decode cL_law_ 373 = .ok (.invokevirtual 137, 3) := by decide +kernel
theorem dL_law__376 : decode cL_law_ 376 = .ok (.istore 6, 2) := by decide +kernel
theorem dL_law__378 : decode cL_law_ 378 = .ok (.aload_n 2, 1) := by decide +kernel
theorem dL_law__379 : decode cL_law_ 379 = .ok (.invokevirtual 131, 3) := by decide +kernel
theorem dL_law__382 : decode cL_law_ 382 = .ok (.iload 5, 2) := by decide +kernel
theorem dL_law__384 : decode cL_law_ 384 = .ok (.if_icmp .eq 5, 3) := by decide +kernel
theorem dL_law__387 : decode cL_law_ 387 = .ok (.iconst 0, 1) := by decide +kernel
theorem dL_law__388 : decode cL_law_ 388 = .ok (.ireturn, 1) := by decide +kernel
theorem dL_law__389 : decode cL_law_ 389 = .ok (.iload 5, 2) := by decide +kernel
theorem dL_law__391 : decode cL_law_ 391 = .ok (.ifCond .ne 15, 3) := by decide +kernel
theorem dL_law__394 : decode cL_law_ 394 = .ok (.aload_n 3, 1) := by decide +kernel
theorem dL_law__395 : decode cL_law_ 395 = .ok (.iconst 0, 1) := by decide +kernel
theorem dL_law__396 : decode cL_law_ 396 = .ok (.laload, 1) := by decide +kernel
theorem dL_law__397 : decode cL_law_ 397 = .ok (.iload 6, 2) := by decide +kernel
theorem dL_law__399 : decode cL_law_ 399 = .ok (.i2l, 1) := by decide +kernel
theorem dL_law__400 : decode cL_law_ 400 = .ok (.lcmp, 1) := by decide +kernel
theorem dL_law__401 : decode cL_law_ 401 = .ok (.ifCond .eq 5, 3) := by decide +kernel
theorem dL_law__404 : decode cL_law_ 404 = .ok (.iconst 0, 1) := by decide +kernel
theorem dL_law__405 : decode cL_law_ 405 = .ok (.ireturn, 1) := by decide +kernel
theorem dL_law__406 : decode cL_law_ 406 = .ok (.goto 2189, 3) := by decide +kernel
theorem dL_law__409 : decode cL_law_ 409 = .ok (.aload_n 1, 1) := by decide +kernel
theorem dL_law__410 : decode cL_law_ 410 = .ok (.aload_n 0, 1) := by decide +kernel
theorem dL_law__411 : decode cL_law_ 411 = .ok (.iload 4, 2) := by decide +kernel
theorem dL_law__413 : decode cL_law_ 413 = .ok (.iconst 1, 1) := by decide +kernel
theorem dL_law__414 : decode cL_law_ 414 = .ok (.iadd, 1) := by decide +kernel
theorem dL_law__415 : decode cL_law_ 415 = .ok (.iaload, 1) := by decide +kernel
theorem dL_law__416 : decode cL_law_ 416 = .ok (.aload_n 3, 1) := by decide +kernel
theorem dL_law__417 : decode cL_law_ 417 = .ok (.invokestatic 138, 3) := by decide +kernel
theorem dL_law__420 : decode cL_law_ 420 = .ok (.istore 5, 2) := by decide +kernel
theorem dL_law__422 : decode cL_law_ 422 = .ok (.aload_n 2, 1) := by decide +kernel
theorem dL_law__423 : decode cL_law_ 423 = .ok (.aload_n 0, 1) := by decide +kernel
theorem dL_law__424 : decode cL_law_ 424 = .ok (.iload 4, 2) := by decide +kernel
theorem dL_law__426 : decode cL_law_ 426 = .ok (.iconst 1, 1) := by decide +kernel
theorem dL_law__427 : decode cL_law_ 427 = .ok (.iadd, 1) := by decide +kernel
theorem dL_law__428 : decode cL_law_ 428 = .ok (.iaload, 1) := by decide +kernel
theorem dL_law__429 : decode cL_law_ 429 = .ok (.invokevirtual 140, 3) := by decide +kernel
theorem dL_law__432 : decode cL_law_ 432 = .ok (.istore 6, 2) := by decide +kernel
theorem dL_law__434 : decode cL_law_ 434 = .ok (.aload_n 2, 1) := by decide +kernel
theorem dL_law__435 : decode cL_law_ 435 = .ok (.invokevirtual 131, 3) := by decide +kernel
theorem dL_law__438 : decode cL_law_ 438 = .ok (.iload 5, 2) := by decide +kernel
theorem dL_law__440 : decode cL_law_ 440 = .ok (.if_icmp .eq 5, 3) := by decide +kernel
theorem dL_law__443 : decode cL_law_ 443 = .ok (.iconst 0, 1) := by decide +kernel
theorem dL_law__444 : decode cL_law_ 444 = .ok (.ireturn, 1) := by decide +kernel
theorem dL_law__445 : decode cL_law_ 445 = .ok (.iload 5, 2) := by decide +kernel
theorem dL_law__447 : decode cL_law_ 447 = .ok (.ifCond .ne 15, 3) := by decide +kernel
theorem dL_law__450 : decode cL_law_ 450 = .ok (.aload_n 3, 1) := by decide +kernel
theorem dL_law__451 : decode cL_law_ 451 = .ok (.iconst 0, 1) := by decide +kernel
theorem dL_law__452 : decode cL_law_ 452 = .ok (.laload, 1) := by decide +kernel
theorem dL_law__453 : decode cL_law_ 453 = .ok (.iload 6, 2) := by decide +kernel
theorem dL_law__455 : decode cL_law_ 455 = .ok (.i2l, 1) := by decide +kernel
theorem dL_law__456 : decode cL_law_ 456 = .ok (.lcmp, 1) := by decide +kernel
theorem dL_law__457 : decode cL_law_ 457 = .ok (.ifCond .eq 5, 3) := by decide +kernel
theorem dL_law__460 : decode cL_law_ 460 = .ok (.iconst 0, 1) := by decide +kernel
theorem dL_law__461 : decode cL_law_ 461 = .ok (.ireturn, 1) := by decide +kernel
theorem dL_law__462 : decode cL_law_ 462 = .ok (.goto 2133, 3) := by decide +kernel
theorem dL_law__465 : decode cL_law_ 465 = .ok (.aload_n 1, 1) := by decide +kernel
theorem dL_law__466 : decode cL_law_ 466 = .ok (.aload_n 0, 1) := by decide +kernel
theorem dL_law__467 : decode cL_law_ 467 = .ok (.iload 4, 2) := by decide +kernel
theorem dL_law__469 : decode cL_law_ 469 = .ok (.iconst 1, 1) := by decide +kernel
theorem dL_law__470 : decode cL_law_ 470 = .ok (.iadd, 1) := by decide +kernel
theorem dL_law__471 : decode cL_law_ 471 = .ok (.iaload, 1) := by decide +kernel
theorem dL_law__472 : decode cL_law_ 472 = .ok (.aload_n 3, 1) := by decide +kernel
theorem dL_law__473 : decode cL_law_ 473 = .ok (.invokestatic 141, 3) := by decide +kernel
theorem dL_law__476 : decode cL_law_ 476 = .ok (.istore 5, 2) := by decide +kernel
theorem dL_law__478 : decode cL_law_ 478 = .ok (.aload_n 2, 1) := by decide +kernel
theorem dL_law__479 : decode cL_law_ 479 = .ok (.aload_n 0, 1) := by decide +kernel
theorem dL_law__480 : decode cL_law_ 480 = .ok (.iload 4, 2) := by decide +kernel
theorem dL_law__482 : decode cL_law_ 482 = .ok (.iconst 1, 1) := by decide +kernel
theorem dL_law__483 : decode cL_law_ 483 = .ok (.iadd, 1) := by decide +kernel
theorem dL_law__484 : decode cL_law_ 484 = .ok (.iaload, 1) := by decide +kernel
theorem dL_law__485 : decode cL_law_ 485 = .ok (.invokevirtual 143, 3) := by decide +kernel
theorem dL_law__488 : decode cL_law_ 488 = .ok (.istore 6, 2) := by decide +kernel
theorem dL_law__490 : decode cL_law_ 490 = .ok (.aload_n 2, 1) := by decide +kernel
theorem dL_law__491 : decode cL_law_ 491 = .ok (.invokevirtual 131, 3) := by decide +kernel
theorem dL_law__494 : decode cL_law_ 494 = .ok (.iload 5, 2) := by decide +kernel
theorem dL_law__496 : decode cL_law_ 496 = .ok (.if_icmp .eq 5, 3) := by decide +kernel
theorem dL_law__499 : decode cL_law_ 499 = .ok (.iconst 0, 1) := by decide +kernel
theorem dL_law__500 : decode cL_law_ 500 = .ok (.ireturn, 1) := by decide +kernel
theorem dL_law__501 : decode cL_law_ 501 = .ok (.iload 5, 2) := by decide +kernel
theorem dL_law__503 : decode cL_law_ 503 = .ok (.ifCond .ne 15, 3) := by decide +kernel
theorem dL_law__506 : decode cL_law_ 506 = .ok (.aload_n 3, 1) := by decide +kernel
theorem dL_law__507 : decode cL_law_ 507 = .ok (.iconst 0, 1) := by decide +kernel
theorem dL_law__508 : decode cL_law_ 508 = .ok (.laload, 1) := by decide +kernel
theorem dL_law__509 : decode cL_law_ 509 = .ok (.iload 6, 2) := by decide +kernel
theorem dL_law__511 : decode cL_law_ 511 = .ok (.i2l, 1) := by decide +kernel
theorem dL_law__512 : decode cL_law_ 512 = .ok (.lcmp, 1) := by decide +kernel
theorem dL_law__513 : decode cL_law_ 513 = .ok (.ifCond .eq 5, 3) := by decide +kernel
theorem dL_law__516 : decode cL_law_ 516 = .ok (.iconst 0, 1) := by decide +kernel
theorem dL_law__517 : decode cL_law_ 517 = .ok (.ireturn, 1) := by decide +kernel
theorem dL_law__518 : decode cL_law_ 518 = .ok (.goto 2077, 3) := by decide +kernel
theorem dL_law__521 : decode cL_law_ 521 = .ok (.aload_n 1, 1) := by decide +kernel
theorem dL_law__522 : decode cL_law_ 522 = .ok (.invokevirtual 144, 3) := by decide +kernel
theorem dL_law__525 : decode cL_law_ 525 = .ok (.aload_n 2, 1) := by decide +kernel
theorem dL_law__526 : decode cL_law_ 526 = .ok (.invokevirtual 147, 3) := by decide +kernel
theorem dL_law__529 : decode cL_law_ 529 = .ok (.if_icmp .eq 2066, 3) := by decide +kernel
theorem dL_law__532 : decode cL_law_ 532 = .ok (.iconst 0, 1) := by decide +kernel
theorem dL_law__533 : decode cL_law_ 533 = .ok (.ireturn, 1) := by decide +kernel
theorem dL_law__534 : decode cL_law_ 534 = .ok (.aload_n 1, 1) := by decide +kernel
theorem dL_law__535 : decode cL_law_ 535 = .ok (.invokevirtual 148, 3) := by decide +kernel
theorem dL_law__538 : decode cL_law_ 538 = .ok (.aload_n 2, 1) := by decide +kernel
theorem dL_law__539 : decode cL_law_ 539 = .ok (.invokevirtual 151, 3) := by decide +kernel
theorem dL_law__542 : decode cL_law_ 542 = .ok (.if_icmp .eq 2053, 3) := by decide +kernel
theorem dL_law__545 : decode cL_law_ 545 = .ok (.iconst 0, 1) := by decide +kernel
theorem dL_law__546 : decode cL_law_ 546 = .ok (.ireturn, 1) := by decide +kernel
theorem dL_law__547 : decode cL_law_ 547 = .ok (.aload_n 1, 1) := by decide +kernel
theorem dL_law__548 : decode cL_law_ 548 = .ok (.aload_n 0, 1) := by decide +kernel
theorem dL_law__549 : decode cL_law_ 549 = .ok (.iload 4, 2) := by decide +kernel
theorem dL_law__551 : decode cL_law_ 551 = .ok (.iconst 1, 1) := by decide +kernel
theorem dL_law__552 : decode cL_law_ 552 = .ok (.iadd, 1) := by decide +kernel
theorem dL_law__553 : decode cL_law_ 553 = .ok (.iaload, 1) := by decide +kernel
theorem dL_law__554 : decode cL_law_ 554 = .ok (.aload_n 3, 1) := by decide +kernel
theorem dL_law__555 : decode cL_law_ 555 = .ok (.invokestatic 152, 3) := by decide +kernel
theorem dL_law__558 : decode cL_law_ 558 = .ok (.istore 5, 2) := by decide +kernel
theorem dL_law__560 : decode cL_law_ 560 = .ok (.aload_n 2, 1) := by decide +kernel
theorem dL_law__561 : decode cL_law_ 561 = .ok (.aload_n 0, 1) := by decide +kernel
theorem dL_law__562 : decode cL_law_ 562 = .ok (.iload 4, 2) := by decide +kernel
theorem dL_law__564 : decode cL_law_ 564 = .ok (.iconst 1, 1) := by decide +kernel
theorem dL_law__565 : decode cL_law_ 565 = .ok (.iadd, 1) := by decide +kernel
theorem dL_law__566 : decode cL_law_ 566 = .ok (.iaload, 1) := by decide +kernel
theorem dL_law__567 : decode cL_law_ 567 = .ok (.invokevirtual 154, 3) := by decide +kernel
theorem dL_law__570 : decode cL_law_ 570 = .ok (.istore 6, 2) := by decide +kernel
theorem dL_law__572 : decode cL_law_ 572 = .ok (.aload_n 2, 1) := by decide +kernel
theorem dL_law__573 : decode cL_law_ 573 = .ok (.invokevirtual 131, 3) := by decide +kernel
theorem dL_law__576 : decode cL_law_ 576 = .ok (.iload 5, 2) := by decide +kernel
theorem dL_law__578 : decode cL_law_ 578 = .ok (.if_icmp .eq 5, 3) := by decide +kernel
theorem dL_law__581 : decode cL_law_ 581 = .ok (.iconst 0, 1) := by decide +kernel
theorem dL_law__582 : decode cL_law_ 582 = .ok (.ireturn, 1) := by decide +kernel
theorem dL_law__583 : decode cL_law_ 583 = .ok (.iload 5, 2) := by decide +kernel
theorem dL_law__585 : decode cL_law_ 585 = .ok (.ifCond .ne 15, 3) := by decide +kernel
theorem dL_law__588 : decode cL_law_ 588 = .ok (.aload_n 3, 1) := by decide +kernel
theorem dL_law__589 : decode cL_law_ 589 = .ok (.iconst 0, 1) := by decide +kernel
theorem dL_law__590 : decode cL_law_ 590 = .ok (.laload, 1) := by decide +kernel
theorem dL_law__591 : decode cL_law_ 591 = .ok (.iload 6, 2) := by decide +kernel
theorem dL_law__593 : decode cL_law_ 593 = .ok (.i2l, 1) := by decide +kernel
theorem dL_law__594 : decode cL_law_ 594 = .ok (.lcmp, 1) := by decide +kernel
theorem dL_law__595 : decode cL_law_ 595 = .ok (.ifCond .eq 5, 3) := by decide +kernel
theorem dL_law__598 : decode cL_law_ 598 = .ok (.iconst 0, 1) := by decide +kernel
theorem dL_law__599 : decode cL_law_ 599 = .ok (.ireturn, 1) := by decide +kernel
theorem dL_law__600 : decode cL_law_ 600 = .ok (.goto 1995, 3) := by decide +kernel
theorem dL_law__603 : decode cL_law_ 603 = .ok (.aload_n 1, 1) := by decide +kernel
theorem dL_law__604 : decode cL_law_ 604 = .ok (.aload_n 0, 1) := by decide +kernel
theorem dL_law__605 : decode cL_law_ 605 = .ok (.iload 4, 2) := by decide +kernel
theorem dL_law__607 : decode cL_law_ 607 = .ok (.iconst 1, 1) := by decide +kernel
theorem dL_law__608 : decode cL_law_ 608 = .ok (.iadd, 1) := by decide +kernel
theorem dL_law__609 : decode cL_law_ 609 = .ok (.iaload, 1) := by decide +kernel
theorem dL_law__610 : decode cL_law_ 610 = .ok (.aload_n 0, 1) := by decide +kernel
theorem dL_law__611 : decode cL_law_ 611 = .ok (.iload 4, 2) := by decide +kernel
theorem dL_law__613 : decode cL_law_ 613 = .ok (.iconst 2, 1) := by decide +kernel
theorem dL_law__614 : decode cL_law_ 614 = .ok (.iadd, 1) := by decide +kernel
theorem dL_law__615 : decode cL_law_ 615 = .ok (.iaload, 1) := by decide +kernel
theorem dL_law__616 : decode cL_law_ 616 = .ok (.aload_n 3, 1) := by decide +kernel
theorem dL_law__617 : decode cL_law_ 617 = .ok (.invokestatic 155, 3) := by decide +kernel
theorem dL_law__620 : decode cL_law_ 620 = .ok (.istore 5, 2) := by decide +kernel
theorem dL_law__622 : decode cL_law_ 622 = .ok (.aload_n 2, 1) := by decide +kernel
theorem dL_law__623 : decode cL_law_ 623 = .ok (.aload_n 0, 1) := by decide +kernel
theorem dL_law__624 : decode cL_law_ 624 = .ok (.iload 4, 2) := by decide +kernel
theorem dL_law__626 : decode cL_law_ 626 = .ok (.iconst 1, 1) := by decide +kernel
theorem dL_law__627 : decode cL_law_ 627 = .ok (.iadd, 1) := by decide +kernel
theorem dL_law__628 : decode cL_law_ 628 = .ok (.iaload, 1) := by decide +kernel
theorem dL_law__629 : decode cL_law_ 629 = .ok (.aload_n 0, 1) := by decide +kernel
theorem dL_law__630 : decode cL_law_ 630 = .ok (.iload 4, 2) := by decide +kernel
theorem dL_law__632 : decode cL_law_ 632 = .ok (.iconst 2, 1) := by decide +kernel
theorem dL_law__633 : decode cL_law_ 633 = .ok (.iadd, 1) := by decide +kernel
theorem dL_law__634 : decode cL_law_ 634 = .ok (.iaload, 1) := by decide +kernel
theorem dL_law__635 : decode cL_law_ 635 = .ok (.invokevirtual 158, 3) := by decide +kernel
theorem dL_law__638 : decode cL_law_ 638 = .ok (.istore 6, 2) := by decide +kernel
theorem dL_law__640 : decode cL_law_ 640 = .ok (.aload_n 2, 1) := by decide +kernel
theorem dL_law__641 : decode cL_law_ 641 = .ok (.invokevirtual 131, 3) := by decide +kernel
theorem dL_law__644 : decode cL_law_ 644 = .ok (.iload 5, 2) := by decide +kernel
theorem dL_law__646 : decode cL_law_ 646 = .ok (.if_icmp .eq 5, 3) := by decide +kernel
theorem dL_law__649 : decode cL_law_ 649 = .ok (.iconst 0, 1) := by decide +kernel
theorem dL_law__650 : decode cL_law_ 650 = .ok (.ireturn, 1) := by decide +kernel
theorem dL_law__651 : decode cL_law_ 651 = .ok (.iload 5, 2) := by decide +kernel
theorem dL_law__653 : decode cL_law_ 653 = .ok (.ifCond .ne 15, 3) := by decide +kernel
theorem dL_law__656 : decode cL_law_ 656 = .ok (.aload_n 3, 1) := by decide +kernel
theorem dL_law__657 : decode cL_law_ 657 = .ok (.iconst 0, 1) := by decide +kernel
theorem dL_law__658 : decode cL_law_ 658 = .ok (.laload, 1) := by decide +kernel
theorem dL_law__659 : decode cL_law_ 659 = .ok (.iload 6, 2) := by decide +kernel
theorem dL_law__661 : decode cL_law_ 661 = .ok (.i2l, 1) := by decide +kernel
theorem dL_law__662 : decode cL_law_ 662 = .ok (.lcmp, 1) := by decide +kernel
theorem dL_law__663 : decode cL_law_ 663 = .ok (.ifCond .eq 5, 3) := by decide +kernel
theorem dL_law__666 : decode cL_law_ 666 = .ok (.iconst 0, 1) := by decide +kernel
theorem dL_law__667 : decode cL_law_ 667 = .ok (.ireturn, 1) := by decide +kernel
theorem dL_law__668 : decode cL_law_ 668 = .ok (.goto 1927, 3) := by decide +kernel
theorem dL_law__671 : decode cL_law_ 671 = .ok (.aload_n 1, 1) := by decide +kernel
theorem dL_law__672 : decode cL_law_ 672 = .ok (.aload_n 0, 1) := by decide +kernel
theorem dL_law__673 : decode cL_law_ 673 = .ok (.iload 4, 2) := by decide +kernel
theorem dL_law__675 : decode cL_law_ 675 = .ok (.iconst 1, 1) := by decide +kernel
theorem dL_law__676 : decode cL_law_ 676 = .ok (.iadd, 1) := by decide +kernel
theorem dL_law__677 : decode cL_law_ 677 = .ok (.iaload, 1) := by decide +kernel
theorem dL_law__678 : decode cL_law_ 678 = .ok (.aload_n 0, 1) := by decide +kernel
theorem dL_law__679 : decode cL_law_ 679 = .ok (.iload 4, 2) := by decide +kernel
theorem dL_law__681 : decode cL_law_ 681 = .ok (.iconst 2, 1) := by decide +kernel
theorem dL_law__682 : decode cL_law_ 682 = .ok (.iadd, 1) := by decide +kernel
theorem dL_law__683 : decode cL_law_ 683 = .ok (.iaload, 1) := by decide +kernel
theorem dL_law__684 : decode cL_law_ 684 = .ok (.aload_n 3, 1) := by decide +kernel
theorem dL_law__685 : decode cL_law_ 685 = .ok (.invokestatic 159, 3) := by decide +kernel
theorem dL_law__688 : decode cL_law_ 688 = .ok (.istore 5, 2) := by decide +kernel
theorem dL_law__690 : decode cL_law_ 690 = .ok (.aload_n 2, 1) := by decide +kernel
theorem dL_law__691 : decode cL_law_ 691 = .ok (.aload_n 0, 1) := by decide +kernel
theorem dL_law__692 : decode cL_law_ 692 = .ok (.iload 4, 2) := by decide +kernel
theorem dL_law__694 : decode cL_law_ 694 = .ok (.iconst 1, 1) := by decide +kernel
theorem dL_law__695 : decode cL_law_ 695 = .ok (.iadd, 1) := by decide +kernel
theorem dL_law__696 : decode cL_law_ 696 = .ok (.iaload, 1) := by decide +kernel
theorem dL_law__697 : decode cL_law_ 697 = .ok (.aload_n 0, 1) := by decide +kernel
theorem dL_law__698 : decode cL_law_ 698 = .ok (.iload 4, 2) := by decide +kernel
theorem dL_law__700 : decode cL_law_ 700 = .ok (.iconst 2, 1) := by decide +kernel
theorem dL_law__701 : decode cL_law_ 701 = .ok (.iadd, 1) := by decide +kernel
theorem dL_law__702 : decode cL_law_ 702 = .ok (.iaload, 1) := by decide +kernel
theorem dL_law__703 : decode cL_law_ 703 = .ok (.invokevirtual 161, 3) := by decide +kernel
theorem dL_law__706 : decode cL_law_ 706 = .ok (.istore 6, 2) := by decide +kernel
theorem dL_law__708 : decode cL_law_ 708 = .ok (.aload_n 2, 1) := by decide +kernel
theorem dL_law__709 : decode cL_law_ 709 = .ok (.invokevirtual 131, 3) := by decide +kernel
theorem dL_law__712 : decode cL_law_ 712 = .ok (.iload 5, 2) := by decide +kernel
theorem dL_law__714 : decode cL_law_ 714 = .ok (.if_icmp .eq 5, 3) := by decide +kernel
theorem dL_law__717 : decode cL_law_ 717 = .ok (.iconst 0, 1) := by decide +kernel
theorem dL_law__718 : decode cL_law_ 718 = .ok (.ireturn, 1) := by decide +kernel
theorem dL_law__719 : decode cL_law_ 719 = .ok (.iload 5, 2) := by decide +kernel
theorem dL_law__721 : decode cL_law_ 721 = .ok (.ifCond .ne 15, 3) := by decide +kernel
theorem dL_law__724 : decode cL_law_ 724 = .ok (.aload_n 3, 1) := by decide +kernel
theorem dL_law__725 : decode cL_law_ 725 = .ok (.iconst 0, 1) := by decide +kernel
theorem dL_law__726 : decode cL_law_ 726 = .ok (.laload, 1) := by decide +kernel
theorem dL_law__727 : decode cL_law_ 727 = .ok (.iload 6, 2) := by decide +kernel
theorem dL_law__729 : decode cL_law_ 729 = .ok (.i2l, 1) := by decide +kernel
theorem dL_law__730 : decode cL_law_ 730 = .ok (.lcmp, 1) := by decide +kernel
theorem dL_law__731 : decode cL_law_ 731 = .ok (.ifCond .eq 5, 3) := by decide +kernel
theorem dL_law__734 : decode cL_law_ 734 = .ok (.iconst 0, 1) := by decide +kernel
theorem dL_law__735 : decode cL_law_ 735 = .ok (.ireturn, 1) := by decide +kernel
theorem dL_law__736 : decode cL_law_ 736 = .ok (.goto 1859, 3) := by decide +kernel
theorem dL_law__739 : decode cL_law_ 739 = .ok (.aload_n 1, 1) := by decide +kernel
theorem dL_law__740 : decode cL_law_ 740 = .ok (.aload_n 0, 1) := by decide +kernel
theorem dL_law__741 : decode cL_law_ 741 = .ok (.iload 4, 2) := by decide +kernel
theorem dL_law__743 : decode cL_law_ 743 = .ok (.iconst 1, 1) := by decide +kernel
theorem dL_law__744 : decode cL_law_ 744 = .ok (.iadd, 1) := by decide +kernel
theorem dL_law__745 : decode cL_law_ 745 = .ok (.iaload, 1) := by decide +kernel
theorem dL_law__746 : decode cL_law_ 746 = .ok (.aload_n 0, 1) := by decide +kernel
theorem dL_law__747 : decode cL_law_ 747 = .ok (.iload 4, 2) := by decide +kernel
theorem dL_law__749 : decode cL_law_ 749 = .ok (.iconst 2, 1) := by decide +kernel
theorem dL_law__750 : decode cL_law_ 750 = .ok (.iadd, 1) := by decide +kernel
theorem dL_law__751 : decode cL_law_ 751 = .ok (.iaload, 1) := by decide +kernel
theorem dL_law__752 : decode cL_law_ 752 = .ok (.aload_n 3, 1) := by decide +kernel
theorem dL_law__753 : decode cL_law_ 753 = .ok (.invokestatic 162, 3) := by decide +kernel
theorem dL_law__756 : decode cL_law_ 756 = .ok (.istore 5, 2) := by decide +kernel
theorem dL_law__758 : decode cL_law_ 758 = .ok (.aload_n 2, 1) := by decide +kernel
theorem dL_law__759 : decode cL_law_ 759 = .ok (.aload_n 0, 1) := by decide +kernel
theorem dL_law__760 : decode cL_law_ 760 = .ok (.iload 4, 2) := by decide +kernel
theorem dL_law__762 : decode cL_law_ 762 = .ok (.iconst 1, 1) := by decide +kernel
theorem dL_law__763 : decode cL_law_ 763 = .ok (.iadd, 1) := by decide +kernel
theorem dL_law__764 : decode cL_law_ 764 = .ok (.iaload, 1) := by decide +kernel
theorem dL_law__765 : decode cL_law_ 765 = .ok (.aload_n 0, 1) := by decide +kernel
theorem dL_law__766 : decode cL_law_ 766 = .ok (.iload 4, 2) := by decide +kernel
theorem dL_law__768 : decode cL_law_ 768 = .ok (.iconst 2, 1) := by decide +kernel
theorem dL_law__769 : decode cL_law_ 769 = .ok (.iadd, 1) := by decide +kernel
theorem dL_law__770 : decode cL_law_ 770 = .ok (.iaload, 1) := by decide +kernel
theorem dL_law__771 : decode cL_law_ 771 = .ok (.invokevirtual 164, 3) := by decide +kernel
theorem dL_law__774 : decode cL_law_ 774 = .ok (.istore 6, 2) := by decide +kernel
theorem dL_law__776 : decode cL_law_ 776 = .ok (.aload_n 2, 1) := by decide +kernel
theorem dL_law__777 : decode cL_law_ 777 = .ok (.invokevirtual 131, 3) := by decide +kernel
theorem dL_law__780 : decode cL_law_ 780 = .ok (.iload 5, 2) := by decide +kernel
theorem dL_law__782 : decode cL_law_ 782 = .ok (.if_icmp .eq 5, 3) := by decide +kernel
theorem dL_law__785 : decode cL_law_ 785 = .ok (.iconst 0, 1) := by decide +kernel
theorem dL_law__786 : decode cL_law_ 786 = .ok (.ireturn, 1) := by decide +kernel
theorem dL_law__787 : decode cL_law_ 787 = .ok (.iload 5, 2) := by decide +kernel
theorem dL_law__789 : decode cL_law_ 789 = .ok (.ifCond .ne 15, 3) := by decide +kernel
theorem dL_law__792 : decode cL_law_ 792 = .ok (.aload_n 3, 1) := by decide +kernel
theorem dL_law__793 : decode cL_law_ 793 = .ok (.iconst 0, 1) := by decide +kernel
theorem dL_law__794 : decode cL_law_ 794 = .ok (.laload, 1) := by decide +kernel
theorem dL_law__795 : decode cL_law_ 795 = .ok (.iload 6, 2) := by decide +kernel
theorem dL_law__797 : decode cL_law_ 797 = .ok (.i2l, 1) := by decide +kernel
theorem dL_law__798 : decode cL_law_ 798 = .ok (.lcmp, 1) := by decide +kernel
theorem dL_law__799 : decode cL_law_ 799 = .ok (.ifCond .eq 5, 3) := by decide +kernel
theorem dL_law__802 : decode cL_law_ 802 = .ok (.iconst 0, 1) := by decide +kernel
theorem dL_law__803 : decode cL_law_ 803 = .ok (.ireturn, 1) := by decide +kernel
theorem dL_law__804 : decode cL_law_ 804 = .ok (.goto 1791, 3) := by decide +kernel
theorem dL_law__807 : decode cL_law_ 807 = .ok (.aload_n 1, 1) := by decide +kernel
theorem dL_law__808 : decode cL_law_ 808 = .ok (.aload_n 0, 1) := by decide +kernel
theorem dL_law__809 : decode cL_law_ 809 = .ok (.iload 4, 2) := by decide +kernel
theorem dL_law__811 : decode cL_law_ 811 = .ok (.iconst 1, 1) := by decide +kernel
theorem dL_law__812 : decode cL_law_ 812 = .ok (.iadd, 1) := by decide +kernel
theorem dL_law__813 : decode cL_law_ 813 = .ok (.iaload, 1) := by decide +kernel
theorem dL_law__814 : decode cL_law_ 814 = .ok (.aload_n 0, 1) := by decide +kernel
theorem dL_law__815 : decode cL_law_ 815 = .ok (.iload 4, 2) := by decide +kernel
theorem dL_law__817 : decode cL_law_ 817 = .ok (.iconst 2, 1) := by decide +kernel
theorem dL_law__818 : decode cL_law_ 818 = .ok (.iadd, 1) := by decide +kernel
theorem dL_law__819 : decode cL_law_ 819 = .ok (.iaload, 1) := by decide +kernel
theorem dL_law__820 : decode cL_law_ 820 = .ok (.aload_n 3, 1) := by decide +kernel
theorem dL_law__821 : decode cL_law_ 821 = .ok (.invokestatic 165, 3) := by decide +kernel
theorem dL_law__824 : decode cL_law_ 824 = .ok (.istore 5, 2) := by decide +kernel
theorem dL_law__826 : decode cL_law_ 826 = .ok (.aload_n 2, 1) := by decide +kernel
theorem dL_law__827 : decode cL_law_ 827 = .ok (.aload_n 0, 1) := by decide +kernel
theorem dL_law__828 : decode cL_law_ 828 = .ok (.iload 4, 2) := by decide +kernel
theorem dL_law__830 : decode cL_law_ 830 = .ok (.iconst 1, 1) := by decide +kernel
theorem dL_law__831 : decode cL_law_ 831 = .ok (.iadd, 1) := by decide +kernel
theorem dL_law__832 : decode cL_law_ 832 = .ok (.iaload, 1) := by decide +kernel
theorem dL_law__833 : decode cL_law_ 833 = .ok (.aload_n 0, 1) := by decide +kernel
theorem dL_law__834 : decode cL_law_ 834 = .ok (.iload 4, 2) := by decide +kernel
theorem dL_law__836 : decode cL_law_ 836 = .ok (.iconst 2, 1) := by decide +kernel
theorem dL_law__837 : decode cL_law_ 837 = .ok (.iadd, 1) := by decide +kernel
theorem dL_law__838 : decode cL_law_ 838 = .ok (.iaload, 1) := by decide +kernel
theorem dL_law__839 : decode cL_law_ 839 = .ok (.invokevirtual 167, 3) := by decide +kernel
theorem dL_law__842 : decode cL_law_ 842 = .ok (.istore 6, 2) := by decide +kernel
theorem dL_law__844 : decode cL_law_ 844 = .ok (.aload_n 2, 1) := by decide +kernel
theorem dL_law__845 : decode cL_law_ 845 = .ok (.invokevirtual 131, 3) := by decide +kernel
theorem dL_law__848 : decode cL_law_ 848 = .ok (.iload 5, 2) := by decide +kernel
theorem dL_law__850 : decode cL_law_ 850 = .ok (.if_icmp .eq 5, 3) := by decide +kernel
theorem dL_law__853 : decode cL_law_ 853 = .ok (.iconst 0, 1) := by decide +kernel
theorem dL_law__854 : decode cL_law_ 854 = .ok (.ireturn, 1) := by decide +kernel
theorem dL_law__855 : decode cL_law_ 855 = .ok (.iload 5, 2) := by decide +kernel
theorem dL_law__857 : decode cL_law_ 857 = .ok (.ifCond .ne 15, 3) := by decide +kernel
theorem dL_law__860 : decode cL_law_ 860 = .ok (.aload_n 3, 1) := by decide +kernel
theorem dL_law__861 : decode cL_law_ 861 = .ok (.iconst 0, 1) := by decide +kernel
theorem dL_law__862 : decode cL_law_ 862 = .ok (.laload, 1) := by decide +kernel
theorem dL_law__863 : decode cL_law_ 863 = .ok (.iload 6, 2) := by decide +kernel
theorem dL_law__865 : decode cL_law_ 865 = .ok (.i2l, 1) := by decide +kernel
theorem dL_law__866 : decode cL_law_ 866 = .ok (.lcmp, 1) := by decide +kernel
theorem dL_law__867 : decode cL_law_ 867 = .ok (.ifCond .eq 5, 3) := by decide +kernel
theorem dL_law__870 : decode cL_law_ 870 = .ok (.iconst 0, 1) := by decide +kernel
theorem dL_law__871 : decode cL_law_ 871 = .ok (.ireturn, 1) := by decide +kernel
theorem dL_law__872 : decode cL_law_ 872 = .ok (.goto 1723, 3) := by decide +kernel
theorem dL_law__875 : decode cL_law_ 875 = .ok (.aload_n 1, 1) := by decide +kernel
theorem dL_law__876 : decode cL_law_ 876 = .ok (.aload_n 0, 1) := by decide +kernel
theorem dL_law__877 : decode cL_law_ 877 = .ok (.iload 4, 2) := by decide +kernel
theorem dL_law__879 : decode cL_law_ 879 = .ok (.iconst 1, 1) := by decide +kernel
theorem dL_law__880 : decode cL_law_ 880 = .ok (.iadd, 1) := by decide +kernel
theorem dL_law__881 : decode cL_law_ 881 = .ok (.iaload, 1) := by decide +kernel
theorem dL_law__882 : decode cL_law_ 882 = .ok (.aload_n 3, 1) := by decide +kernel
theorem dL_law__883 : decode cL_law_ 883 = .ok (.invokestatic 168, 3) := by decide +kernel
theorem dL_law__886 : decode cL_law_ 886 = .ok (.istore 5, 2) := by decide +kernel
theorem dL_law__888 : decode cL_law_ 888 = .ok (.aload_n 2, 1) := by decide +kernel
theorem dL_law__889 : decode cL_law_ 889 = .ok (.aload_n 0, 1) := by decide +kernel
theorem dL_law__890 : decode cL_law_ 890 = .ok (.iload 4, 2) := by decide +kernel
theorem dL_law__892 : decode cL_law_ 892 = .ok (.iconst 1, 1) := by decide +kernel
theorem dL_law__893 : decode cL_law_ 893 = .ok (.iadd, 1) := by decide +kernel
theorem dL_law__894 : decode cL_law_ 894 = .ok (.iaload, 1) := by decide +kernel
theorem dL_law__895 : decode cL_law_ 895 = .ok (.invokevirtual 170, 3) := by decide +kernel
theorem dL_law__898 : decode cL_law_ 898 = .ok (.istore 6, 2) := by decide +kernel
theorem dL_law__900 : decode cL_law_ 900 = .ok (.aload_n 2, 1) := by decide +kernel
theorem dL_law__901 : decode cL_law_ 901 = .ok (.invokevirtual 131, 3) := by decide +kernel
theorem dL_law__904 : decode cL_law_ 904 = .ok (.iload 5, 2) := by decide +kernel
theorem dL_law__906 : decode cL_law_ 906 = .ok (.if_icmp .eq 5, 3) := by decide +kernel
theorem dL_law__909 : decode cL_law_ 909 = .ok (.iconst 0, 1) := by decide +kernel
theorem dL_law__910 : decode cL_law_ 910 = .ok (.ireturn, 1) := by decide +kernel
theorem dL_law__911 : decode cL_law_ 911 = .ok (.iload 5, 2) := by decide +kernel
theorem dL_law__913 : decode cL_law_ 913 = .ok (.ifCond .ne 15, 3) := by decide +kernel
theorem dL_law__916 : decode cL_law_ 916 = .ok (.aload_n 3, 1) := by decide +kernel
theorem dL_law__917 : decode cL_law_ 917 = .ok (.iconst 0, 1) := by decide +kernel
theorem dL_law__918 : decode cL_law_ 918 = .ok (.laload, 1) := by decide +kernel
theorem dL_law__919 : decode cL_law_ 919 = .ok (.iload 6, 2) := by decide +kernel
theorem dL_law__921 : decode cL_law_ 921 = .ok (.i2l, 1) := by decide +kernel
theorem dL_law__922 : decode cL_law_ 922 = .ok (.lcmp, 1) := by decide +kernel
theorem dL_law__923 : decode cL_law_ 923 = .ok (.ifCond .eq 5, 3) := by decide +kernel
theorem dL_law__926 : decode cL_law_ 926 = .ok (.iconst 0, 1) := by decide +kernel
theorem dL_law__927 : decode cL_law_ 927 = .ok (.ireturn, 1) := by decide +kernel
theorem dL_law__928 : decode cL_law_ 928 = .ok (.goto 1667, 3) := by decide +kernel
theorem dL_law__931 : decode cL_law_ 931 = .ok (.aload_n 1, 1) := by decide +kernel
theorem dL_law__932 : decode cL_law_ 932 = .ok (.aload_n 0, 1) := by decide +kernel
theorem dL_law__933 : decode cL_law_ 933 = .ok (.iload 4, 2) := by decide +kernel
theorem dL_law__935 : decode cL_law_ 935 = .ok (.iconst 1, 1) := by decide +kernel
theorem dL_law__936 : decode cL_law_ 936 = .ok (.iadd, 1) := by decide +kernel
theorem dL_law__937 : decode cL_law_ 937 = .ok (.iaload, 1) := by decide +kernel
theorem dL_law__938 : decode cL_law_ 938 = .ok (.aload_n 0, 1) := by decide +kernel
theorem dL_law__939 : decode cL_law_ 939 = .ok (.iload 4, 2) := by decide +kernel
theorem dL_law__941 : decode cL_law_ 941 = .ok (.iconst 2, 1) := by decide +kernel
theorem dL_law__942 : decode cL_law_ 942 = .ok (.iadd, 1) := by decide +kernel
theorem dL_law__943 : decode cL_law_ 943 = .ok (.iaload, 1) := by decide +kernel
theorem dL_law__944 : decode cL_law_ 944 = .ok (.aload_n 0, 1) := by decide +kernel
theorem dL_law__945 : decode cL_law_ 945 = .ok (.iload 4, 2) := by decide +kernel
theorem dL_law__947 : decode cL_law_ 947 = .ok (.iconst 3, 1) := by decide +kernel
theorem dL_law__948 : decode cL_law_ 948 = .ok (.iadd, 1) := by decide +kernel
theorem dL_law__949 : decode cL_law_ 949 = .ok (.iaload, 1) := by decide +kernel
theorem dL_law__950 : decode cL_law_ 950 = .ok (.aload_n 0, 1) := by decide +kernel
theorem dL_law__951 : decode cL_law_ 951 = .ok (.iload 4, 2) := by decide +kernel
theorem dL_law__953 : decode cL_law_ 953 = .ok (.iconst 4, 1) := by decide +kernel
theorem dL_law__954 : decode cL_law_ 954 = .ok (.iadd, 1) := by decide +kernel
theorem dL_law__955 : decode cL_law_ 955 = .ok (.iaload, 1) := by decide +kernel
theorem dL_law__956 : decode cL_law_ 956 = .ok (.aload_n 0, 1) := by decide +kernel
theorem dL_law__957 : decode cL_law_ 957 = .ok (.iload 4, 2) := by decide +kernel
theorem dL_law__959 : decode cL_law_ 959 = .ok (.iconst 5, 1) := by decide +kernel
theorem dL_law__960 : decode cL_law_ 960 = .ok (.iadd, 1) := by decide +kernel
theorem dL_law__961 : decode cL_law_ 961 = .ok (.iaload, 1) := by decide +kernel
theorem dL_law__962 : decode cL_law_ 962 = .ok (.aload_n 0, 1) := by decide +kernel
theorem dL_law__963 : decode cL_law_ 963 = .ok (.iload 4, 2) := by decide +kernel
theorem dL_law__965 : decode cL_law_ 965 = .ok (.bipush 6, 2) := by decide +kernel
theorem dL_law__967 : decode cL_law_ 967 = .ok (.iadd, 1) := by decide +kernel
theorem dL_law__968 : decode cL_law_ 968 = .ok (.iaload, 1) := by decide +kernel
theorem dL_law__969 : decode cL_law_ 969 = .ok (.aload_n 0, 1) := by decide +kernel
theorem dL_law__970 : decode cL_law_ 970 = .ok (.iload 4, 2) := by decide +kernel
theorem dL_law__972 : decode cL_law_ 972 = .ok (.bipush 7, 2) := by decide +kernel
theorem dL_law__974 : decode cL_law_ 974 = .ok (.iadd, 1) := by decide +kernel
theorem dL_law__975 : decode cL_law_ 975 = .ok (.iaload, 1) := by decide +kernel
theorem dL_law__976 : decode cL_law_ 976 = .ok (.aload_n 3, 1) := by decide +kernel
theorem dL_law__977 : decode cL_law_ 977 = .ok (.invokestatic 171, 3) := by decide +kernel
theorem dL_law__980 : decode cL_law_ 980 = .ok (.istore 5, 2) := by decide +kernel
theorem dL_law__982 : decode cL_law_ 982 = .ok (.aload_n 2, 1) := by decide +kernel
theorem dL_law__983 : decode cL_law_ 983 = .ok (.aload_n 0, 1) := by decide +kernel
theorem dL_law__984 : decode cL_law_ 984 = .ok (.iload 4, 2) := by decide +kernel
theorem dL_law__986 : decode cL_law_ 986 = .ok (.iconst 1, 1) := by decide +kernel
theorem dL_law__987 : decode cL_law_ 987 = .ok (.iadd, 1) := by decide +kernel
theorem dL_law__988 : decode cL_law_ 988 = .ok (.iaload, 1) := by decide +kernel
theorem dL_law__989 : decode cL_law_ 989 = .ok (.aload_n 0, 1) := by decide +kernel
theorem dL_law__990 : decode cL_law_ 990 = .ok (.iload 4, 2) := by decide +kernel
theorem dL_law__992 : decode cL_law_ 992 = .ok (.iconst 2, 1) := by decide +kernel
theorem dL_law__993 : decode cL_law_ 993 = .ok (.iadd, 1) := by decide +kernel
theorem dL_law__994 : decode cL_law_ 994 = .ok (.iaload, 1) := by decide +kernel
theorem dL_law__995 : decode cL_law_ 995 = .ok (.aload_n 0, 1) := by decide +kernel
theorem dL_law__996 : decode cL_law_ 996 = .ok (.iload 4, 2) := by decide +kernel
theorem dL_law__998 : decode cL_law_ 998 = .ok (.iconst 3, 1) := by decide +kernel
theorem dL_law__999 : decode cL_law_ 999 = .ok (.iadd, 1) := by decide +kernel
theorem dL_law__1000 : decode cL_law_ 1000 = .ok (.iaload, 1) := by decide +kernel
theorem dL_law__1001 : decode cL_law_ 1001 = .ok (.aload_n 0, 1) := by decide +kernel
theorem dL_law__1002 : decode cL_law_ 1002 = .ok (.iload 4, 2) := by decide +kernel
theorem dL_law__1004 : decode cL_law_ 1004 = .ok (.iconst 4, 1) := by decide +kernel
theorem dL_law__1005 : decode cL_law_ 1005 = .ok (.iadd, 1) := by decide +kernel
theorem dL_law__1006 : decode cL_law_ 1006 = .ok (.iaload, 1) := by decide +kernel
theorem dL_law__1007 : decode cL_law_ 1007 = .ok (.aload_n 0, 1) := by decide +kernel
theorem dL_law__1008 : decode cL_law_ 1008 = .ok (.iload 4, 2) := by decide +kernel
theorem dL_law__1010 : decode cL_law_ 1010 = .ok (.iconst 5, 1) := by decide +kernel
theorem dL_law__1011 : decode cL_law_ 1011 = .ok (.iadd, 1) := by decide +kernel
theorem dL_law__1012 : decode cL_law_ 1012 = .ok (.iaload, 1) := by decide +kernel
theorem dL_law__1013 : decode cL_law_ 1013 = .ok (.aload_n 0, 1) := by decide +kernel
theorem dL_law__1014 : decode cL_law_ 1014 = .ok (.iload 4, 2) := by decide +kernel
theorem dL_law__1016 : decode cL_law_ 1016 = .ok (.bipush 6, 2) := by decide +kernel
theorem dL_law__1018 : decode cL_law_ 1018 = .ok (.iadd, 1) := by decide +kernel
theorem dL_law__1019 : decode cL_law_ 1019 = .ok (.iaload, 1) := by decide +kernel
theorem dL_law__1020 : decode cL_law_ 1020 = .ok (.aload_n 0, 1) := by decide +kernel
theorem dL_law__1021 : decode cL_law_ 1021 = .ok (.iload 4, 2) := by decide +kernel
theorem dL_law__1023 : decode cL_law_ 1023 = .ok (.bipush 7, 2) := by decide +kernel
theorem dL_law__1025 : decode cL_law_ 1025 = .ok (.iadd, 1) := by decide +kernel
theorem dL_law__1026 : decode cL_law_ 1026 = .ok (.iaload, 1) := by decide +kernel
theorem dL_law__1027 : decode cL_law_ 1027 = .ok (.invokevirtual 174, 3) := by decide +kernel
theorem dL_law__1030 : decode cL_law_ 1030 = .ok (.istore 6, 2) := by decide +kernel
theorem dL_law__1032 : decode cL_law_ 1032 = .ok (.aload_n 2, 1) := by decide +kernel
theorem dL_law__1033 : decode cL_law_ 1033 = .ok (.invokevirtual 131, 3) := by decide +kernel
theorem dL_law__1036 : decode cL_law_ 1036 = .ok (.iload 5, 2) := by decide +kernel
theorem dL_law__1038 : decode cL_law_ 1038 = .ok (.if_icmp .eq 5, 3) := by decide +kernel
theorem dL_law__1041 : decode cL_law_ 1041 = .ok (.iconst 0, 1) := by decide +kernel
theorem dL_law__1042 : decode cL_law_ 1042 = .ok (.ireturn, 1) := by decide +kernel
theorem dL_law__1043 : decode cL_law_ 1043 = .ok (.iload 5, 2) := by decide +kernel
theorem dL_law__1045 : decode cL_law_ 1045 = .ok (.ifCond .ne 15, 3) := by decide +kernel
theorem dL_law__1048 : decode cL_law_ 1048 = .ok (.aload_n 3, 1) := by decide +kernel
theorem dL_law__1049 : decode cL_law_ 1049 = .ok (.iconst 0, 1) := by decide +kernel
theorem dL_law__1050 : decode cL_law_ 1050 = .ok (.laload, 1) := by decide +kernel
theorem dL_law__1051 : decode cL_law_ 1051 = .ok (.iload 6, 2) := by decide +kernel
theorem dL_law__1053 : decode cL_law_ 1053 = .ok (.i2l, 1) := by decide +kernel
theorem dL_law__1054 : decode cL_law_ 1054 = .ok (.lcmp, 1) := by decide +kernel
theorem dL_law__1055 : decode cL_law_ 1055 = .ok (.ifCond .eq 5, 3) := by decide +kernel
theorem dL_law__1058 : decode cL_law_ 1058 = .ok (.iconst 0, 1) := by decide +kernel
theorem dL_law__1059 : decode cL_law_ 1059 = .ok (.ireturn, 1) := by decide +kernel
theorem dL_law__1060 : decode cL_law_ 1060 = .ok (.goto 1535, 3) := by decide +kernel
theorem dL_law__1063 : decode cL_law_ 1063 = .ok (.aload_n 1, 1) := by decide +kernel
theorem dL_law__1064 : decode cL_law_ 1064 = .ok (.aload_n 0, 1) := by decide +kernel
theorem dL_law__1065 : decode cL_law_ 1065 = .ok (.iload 4, 2) := by decide +kernel
theorem dL_law__1067 : decode cL_law_ 1067 = .ok (.iconst 1, 1) := by decide +kernel
theorem dL_law__1068 : decode cL_law_ 1068 = .ok (.iadd, 1) := by decide +kernel
theorem dL_law__1069 : decode cL_law_ 1069 = .ok (.iaload, 1) := by decide +kernel
theorem dL_law__1070 : decode cL_law_ 1070 = .ok (.aload_n 0, 1) := by decide +kernel
theorem dL_law__1071 : decode cL_law_ 1071 = .ok (.iload 4, 2) := by decide +kernel
theorem dL_law__1073 : decode cL_law_ 1073 = .ok (.iconst 2, 1) := by decide +kernel
theorem dL_law__1074 : decode cL_law_ 1074 = .ok (.iadd, 1) := by decide +kernel
theorem dL_law__1075 : decode cL_law_ 1075 = .ok (.iaload, 1) := by decide +kernel
theorem dL_law__1076 : decode cL_law_ 1076 = .ok (.aload_n 3, 1) := by decide +kernel
theorem dL_law__1077 : decode cL_law_ 1077 = .ok (.invokestatic 175, 3) := by decide +kernel
theorem dL_law__1080 : decode cL_law_ 1080 = .ok (.istore 5, 2) := by decide +kernel
theorem dL_law__1082 : decode cL_law_ 1082 = .ok (.aload_n 2, 1) := by decide +kernel
theorem dL_law__1083 : decode cL_law_ 1083 = .ok (.aload_n 0, 1) := by decide +kernel
theorem dL_law__1084 : decode cL_law_ 1084 = .ok (.iload 4, 2) := by decide +kernel
theorem dL_law__1086 : decode cL_law_ 1086 = .ok (.iconst 1, 1) := by decide +kernel
theorem dL_law__1087 : decode cL_law_ 1087 = .ok (.iadd, 1) := by decide +kernel
theorem dL_law__1088 : decode cL_law_ 1088 = .ok (.iaload, 1) := by decide +kernel
theorem dL_law__1089 : decode cL_law_ 1089 = .ok (.aload_n 0, 1) := by decide +kernel
theorem dL_law__1090 : decode cL_law_ 1090 = .ok (.iload 4, 2) := by decide +kernel
theorem dL_law__1092 : decode cL_law_ 1092 = .ok (.iconst 2, 1) := by decide +kernel
theorem dL_law__1093 : decode cL_law_ 1093 = .ok (.iadd, 1) := by decide +kernel
theorem dL_law__1094 : decode cL_law_ 1094 = .ok (.iaload, 1) := by decide +kernel
theorem dL_law__1095 : decode cL_law_ 1095 = .ok (.invokevirtual 177, 3) := by decide +kernel
theorem dL_law__1098 : decode cL_law_ 1098 = .ok (.istore 6, 2) := by decide +kernel
theorem dL_law__1100 : decode cL_law_ 1100 = .ok (.aload_n 2, 1) := by decide +kernel
theorem dL_law__1101 : decode cL_law_ 1101 = .ok (.invokevirtual 131, 3) := by decide +kernel
theorem dL_law__1104 : decode cL_law_ 1104 = .ok (.iload 5, 2) := by decide +kernel
theorem dL_law__1106 : decode cL_law_ 1106 = .ok (.if_icmp .eq 5, 3) := by decide +kernel
theorem dL_law__1109 : decode cL_law_ 1109 = .ok (.iconst 0, 1) := by decide +kernel
theorem dL_law__1110 : decode cL_law_ 1110 = .ok (.ireturn, 1) := by decide +kernel
theorem dL_law__1111 : decode cL_law_ 1111 = .ok (.iload 5, 2) := by decide +kernel
theorem dL_law__1113 : decode cL_law_ 1113 = .ok (.ifCond .ne 15, 3) := by decide +kernel
theorem dL_law__1116 : decode cL_law_ 1116 = .ok (.aload_n 3, 1) := by decide +kernel
theorem dL_law__1117 : decode cL_law_ 1117 = .ok (.iconst 0, 1) := by decide +kernel
theorem dL_law__1118 : decode cL_law_ 1118 = .ok (.laload, 1) := by decide +kernel
theorem dL_law__1119 : decode cL_law_ 1119 = .ok (.iload 6, 2) := by decide +kernel
theorem dL_law__1121 : decode cL_law_ 1121 = .ok (.i2l, 1) := by decide +kernel
theorem dL_law__1122 : decode cL_law_ 1122 = .ok (.lcmp, 1) := by decide +kernel
theorem dL_law__1123 : decode cL_law_ 1123 = .ok (.ifCond .eq 5, 3) := by decide +kernel
theorem dL_law__1126 : decode cL_law_ 1126 = .ok (.iconst 0, 1) := by decide +kernel
theorem dL_law__1127 : decode cL_law_ 1127 = .ok (.ireturn, 1) := by decide +kernel
theorem dL_law__1128 : decode cL_law_ 1128 = .ok (.goto 1467, 3) := by decide +kernel
theorem dL_law__1131 : decode cL_law_ 1131 = .ok (.aload_n 1, 1) := by decide +kernel
theorem dL_law__1132 : decode cL_law_ 1132 = .ok (.aload_n 0, 1) := by decide +kernel
theorem dL_law__1133 : decode cL_law_ 1133 = .ok (.iload 4, 2) := by decide +kernel
theorem dL_law__1135 : decode cL_law_ 1135 = .ok (.iconst 1, 1) := by decide +kernel
theorem dL_law__1136 : decode cL_law_ 1136 = .ok (.iadd, 1) := by decide +kernel
theorem dL_law__1137 : decode cL_law_ 1137 = .ok (.iaload, 1) := by decide +kernel
theorem dL_law__1138 : decode cL_law_ 1138 = .ok (.aload_n 0, 1) := by decide +kernel
theorem dL_law__1139 : decode cL_law_ 1139 = .ok (.iload 4, 2) := by decide +kernel
theorem dL_law__1141 : decode cL_law_ 1141 = .ok (.iconst 2, 1) := by decide +kernel
theorem dL_law__1142 : decode cL_law_ 1142 = .ok (.iadd, 1) := by decide +kernel
theorem dL_law__1143 : decode cL_law_ 1143 = .ok (.iaload, 1) := by decide +kernel
theorem dL_law__1144 : decode cL_law_ 1144 = .ok (.aload_n 3, 1) := by decide +kernel
theorem dL_law__1145 : decode cL_law_ 1145 = .ok (.invokestatic 178, 3) := by decide +kernel
theorem dL_law__1148 : decode cL_law_ 1148 = .ok (.istore 5, 2) := by decide +kernel
theorem dL_law__1150 : decode cL_law_ 1150 = .ok (.aload_n 2, 1) := by decide +kernel
theorem dL_law__1151 : decode cL_law_ 1151 = .ok (.aload_n 0, 1) := by decide +kernel
theorem dL_law__1152 : decode cL_law_ 1152 = .ok (.iload 4, 2) := by decide +kernel
theorem dL_law__1154 : decode cL_law_ 1154 = .ok (.iconst 1, 1) := by decide +kernel
theorem dL_law__1155 : decode cL_law_ 1155 = .ok (.iadd, 1) := by decide +kernel
theorem dL_law__1156 : decode cL_law_ 1156 = .ok (.iaload, 1) := by decide +kernel
theorem dL_law__1157 : decode cL_law_ 1157 = .ok (.aload_n 0, 1) := by decide +kernel
theorem dL_law__1158 : decode cL_law_ 1158 = .ok (.iload 4, 2) := by decide +kernel
theorem dL_law__1160 : decode cL_law_ 1160 = .ok (.iconst 2, 1) := by decide +kernel
theorem dL_law__1161 : decode cL_law_ 1161 = .ok (.iadd, 1) := by decide +kernel
theorem dL_law__1162 : decode cL_law_ 1162 = .ok (.iaload, 1) := by decide +kernel
theorem dL_law__1163 : decode cL_law_ 1163 = .ok (.invokevirtual 180, 3) := by decide +kernel
theorem dL_law__1166 : decode cL_law_ 1166 = .ok (.istore 6, 2) := by decide +kernel
theorem dL_law__1168 : decode cL_law_ 1168 = .ok (.aload_n 2, 1) := by decide +kernel
theorem dL_law__1169 : decode cL_law_ 1169 = .ok (.invokevirtual 131, 3) := by decide +kernel
theorem dL_law__1172 : decode cL_law_ 1172 = .ok (.iload 5, 2) := by decide +kernel
theorem dL_law__1174 : decode cL_law_ 1174 = .ok (.if_icmp .eq 5, 3) := by decide +kernel
theorem dL_law__1177 : decode cL_law_ 1177 = .ok (.iconst 0, 1) := by decide +kernel
theorem dL_law__1178 : decode cL_law_ 1178 = .ok (.ireturn, 1) := by decide +kernel
theorem dL_law__1179 : decode cL_law_ 1179 = .ok (.iload 5, 2) := by decide +kernel
theorem dL_law__1181 : decode cL_law_ 1181 = .ok (.ifCond .ne 15, 3) := by decide +kernel
theorem dL_law__1184 : decode cL_law_ 1184 = .ok (.aload_n 3, 1) := by decide +kernel
theorem dL_law__1185 : decode cL_law_ 1185 = .ok (.iconst 0, 1) := by decide +kernel
theorem dL_law__1186 : decode cL_law_ 1186 = .ok (.laload, 1) := by decide +kernel
theorem dL_law__1187 : decode cL_law_ 1187 = .ok (.iload 6, 2) := by decide +kernel
theorem dL_law__1189 : decode cL_law_ 1189 = .ok (.i2l, 1) := by decide +kernel
theorem dL_law__1190 : decode cL_law_ 1190 = .ok (.lcmp, 1) := by decide +kernel
theorem dL_law__1191 : decode cL_law_ 1191 = .ok (.ifCond .eq 5, 3) := by decide +kernel
theorem dL_law__1194 : decode cL_law_ 1194 = .ok (.iconst 0, 1) := by decide +kernel
theorem dL_law__1195 : decode cL_law_ 1195 = .ok (.ireturn, 1) := by decide +kernel
theorem dL_law__1196 : decode cL_law_ 1196 = .ok (.goto 1399, 3) := by decide +kernel
theorem dL_law__1199 : decode cL_law_ 1199 = .ok (.aload_n 1, 1) := by decide +kernel
theorem dL_law__1200 : decode cL_law_ 1200 = .ok (.aload_n 0, 1) := by decide +kernel
theorem dL_law__1201 : decode cL_law_ 1201 = .ok (.iload 4, 2) := by decide +kernel
theorem dL_law__1203 : decode cL_law_ 1203 = .ok (.iconst 1, 1) := by decide +kernel
theorem dL_law__1204 : decode cL_law_ 1204 = .ok (.iadd, 1) := by decide +kernel
theorem dL_law__1205 : decode cL_law_ 1205 = .ok (.iaload, 1) := by decide +kernel
theorem dL_law__1206 : decode cL_law_ 1206 = .ok (.aload_n 3, 1) := by decide +kernel
theorem dL_law__1207 : decode cL_law_ 1207 = .ok (.invokestatic 181, 3) := by decide +kernel
theorem dL_law__1210 : decode cL_law_ 1210 = .ok (.istore 5, 2) := by decide +kernel
theorem dL_law__1212 : decode cL_law_ 1212 = .ok (.aload_n 2, 1) := by decide +kernel
theorem dL_law__1213 : decode cL_law_ 1213 = .ok (.aload_n 0, 1) := by decide +kernel
theorem dL_law__1214 : decode cL_law_ 1214 = .ok (.iload 4, 2) := by decide +kernel
theorem dL_law__1216 : decode cL_law_ 1216 = .ok (.iconst 1, 1) := by decide +kernel
theorem dL_law__1217 : decode cL_law_ 1217 = .ok (.iadd, 1) := by decide +kernel
theorem dL_law__1218 : decode cL_law_ 1218 = .ok (.iaload, 1) := by decide +kernel
theorem dL_law__1219 : decode cL_law_ 1219 = .ok (.invokevirtual 183, 3) := by decide +kernel
theorem dL_law__1222 : decode cL_law_ 1222 = .ok (.istore 6, 2) := by decide +kernel
theorem dL_law__1224 : decode cL_law_ 1224 = .ok (.aload_n 2, 1) := by decide +kernel
theorem dL_law__1225 : decode cL_law_ 1225 = .ok (.invokevirtual 131, 3) := by decide +kernel
theorem dL_law__1228 : decode cL_law_ 1228 = .ok (.iload 5, 2) := by decide +kernel
theorem dL_law__1230 : decode cL_law_ 1230 = .ok (.if_icmp .eq 5, 3) := by decide +kernel
theorem dL_law__1233 : decode cL_law_ 1233 = .ok (.iconst 0, 1) := by decide +kernel
theorem dL_law__1234 : decode cL_law_ 1234 = .ok (.ireturn, 1) := by decide +kernel
theorem dL_law__1235 : decode cL_law_ 1235 = .ok (.iload 5, 2) := by decide +kernel
theorem dL_law__1237 : decode cL_law_ 1237 = .ok (.ifCond .ne 15, 3) := by decide +kernel
theorem dL_law__1240 : decode cL_law_ 1240 = .ok (.aload_n 3, 1) := by decide +kernel
theorem dL_law__1241 : decode cL_law_ 1241 = .ok (.iconst 0, 1) := by decide +kernel
theorem dL_law__1242 : decode cL_law_ 1242 = .ok (.laload, 1) := by decide +kernel
theorem dL_law__1243 : decode cL_law_ 1243 = .ok (.iload 6, 2) := by decide +kernel
theorem dL_law__1245 : decode cL_law_ 1245 = .ok (.i2l, 1) := by decide +kernel
theorem dL_law__1246 : decode cL_law_ 1246 = .ok (.lcmp, 1) := by decide +kernel
theorem dL_law__1247 : decode cL_law_ 1247 = .ok (.ifCond .eq 5, 3) := by decide +kernel
theorem dL_law__1250 : decode cL_law_ 1250 = .ok (.iconst 0, 1) := by decide +kernel
theorem dL_law__1251 : decode cL_law_ 1251 = .ok (.ireturn, 1) := by decide +kernel
theorem dL_law__1252 : decode cL_law_ 1252 = .ok (.goto 1343, 3) := by decide +kernel
theorem dL_law__1255 : decode cL_law_ 1255 = .ok (.aload_n 1, 1) := by decide +kernel
theorem dL_law__1256 : decode cL_law_ 1256 = .ok (.aload_n 0, 1) := by decide +kernel
theorem dL_law__1257 : decode cL_law_ 1257 = .ok (.iload 4, 2) := by decide +kernel
theorem dL_law__1259 : decode cL_law_ 1259 = .ok (.iconst 1, 1) := by decide +kernel
theorem dL_law__1260 : decode cL_law_ 1260 = .ok (.iadd, 1) := by decide +kernel
theorem dL_law__1261 : decode cL_law_ 1261 = .ok (.iaload, 1) := by decide +kernel
theorem dL_law__1262 : decode cL_law_ 1262 = .ok (.aload_n 0, 1) := by decide +kernel
theorem dL_law__1263 : decode cL_law_ 1263 = .ok (.iload 4, 2) := by decide +kernel
theorem dL_law__1265 : decode cL_law_ 1265 = .ok (.iconst 2, 1) := by decide +kernel
theorem dL_law__1266 : decode cL_law_ 1266 = .ok (.iadd, 1) := by decide +kernel
theorem dL_law__1267 : decode cL_law_ 1267 = .ok (.iaload, 1) := by decide +kernel
theorem dL_law__1268 : decode cL_law_ 1268 = .ok (.aload_n 3, 1) := by decide +kernel
theorem dL_law__1269 : decode cL_law_ 1269 = .ok (.invokestatic 184, 3) := by decide +kernel
theorem dL_law__1272 : decode cL_law_ 1272 = .ok (.istore 5, 2) := by decide +kernel
theorem dL_law__1274 : decode cL_law_ 1274 = .ok (.aload_n 2, 1) := by decide +kernel
theorem dL_law__1275 : decode cL_law_ 1275 = .ok (.aload_n 0, 1) := by decide +kernel
theorem dL_law__1276 : decode cL_law_ 1276 = .ok (.iload 4, 2) := by decide +kernel
theorem dL_law__1278 : decode cL_law_ 1278 = .ok (.iconst 1, 1) := by decide +kernel
theorem dL_law__1279 : decode cL_law_ 1279 = .ok (.iadd, 1) := by decide +kernel
theorem dL_law__1280 : decode cL_law_ 1280 = .ok (.iaload, 1) := by decide +kernel
theorem dL_law__1281 : decode cL_law_ 1281 = .ok (.aload_n 0, 1) := by decide +kernel
theorem dL_law__1282 : decode cL_law_ 1282 = .ok (.iload 4, 2) := by decide +kernel
theorem dL_law__1284 : decode cL_law_ 1284 = .ok (.iconst 2, 1) := by decide +kernel
theorem dL_law__1285 : decode cL_law_ 1285 = .ok (.iadd, 1) := by decide +kernel
theorem dL_law__1286 : decode cL_law_ 1286 = .ok (.iaload, 1) := by decide +kernel
theorem dL_law__1287 : decode cL_law_ 1287 = .ok (.invokevirtual 186, 3) := by decide +kernel
theorem dL_law__1290 : decode cL_law_ 1290 = .ok (.istore 6, 2) := by decide +kernel
theorem dL_law__1292 : decode cL_law_ 1292 = .ok (.aload_n 2, 1) := by decide +kernel
theorem dL_law__1293 : decode cL_law_ 1293 = .ok (.invokevirtual 131, 3) := by decide +kernel
theorem dL_law__1296 : decode cL_law_ 1296 = .ok (.iload 5, 2) := by decide +kernel
theorem dL_law__1298 : decode cL_law_ 1298 = .ok (.if_icmp .eq 5, 3) := by decide +kernel
theorem dL_law__1301 : decode cL_law_ 1301 = .ok (.iconst 0, 1) := by decide +kernel
theorem dL_law__1302 : decode cL_law_ 1302 = .ok (.ireturn, 1) := by decide +kernel
theorem dL_law__1303 : decode cL_law_ 1303 = .ok (.iload 5, 2) := by decide +kernel
theorem dL_law__1305 : decode cL_law_ 1305 = .ok (.ifCond .ne 15, 3) := by decide +kernel
theorem dL_law__1308 : decode cL_law_ 1308 = .ok (.aload_n 3, 1) := by decide +kernel
theorem dL_law__1309 : decode cL_law_ 1309 = .ok (.iconst 0, 1) := by decide +kernel
theorem dL_law__1310 : decode cL_law_ 1310 = .ok (.laload, 1) := by decide +kernel
theorem dL_law__1311 : decode cL_law_ 1311 = .ok (.iload 6, 2) := by decide +kernel
theorem dL_law__1313 : decode cL_law_ 1313 = .ok (.i2l, 1) := by decide +kernel
theorem dL_law__1314 : decode cL_law_ 1314 = .ok (.lcmp, 1) := by decide +kernel
theorem dL_law__1315 : decode cL_law_ 1315 = .ok (.ifCond .eq 5, 3) := by decide +kernel
theorem dL_law__1318 : decode cL_law_ 1318 = .ok (.iconst 0, 1) := by decide +kernel
theorem dL_law__1319 : decode cL_law_ 1319 = .ok (.ireturn, 1) := by decide +kernel
theorem dL_law__1320 : decode cL_law_ 1320 = .ok (.goto 1275, 3) := by decide +kernel
theorem dL_law__1323 : decode cL_law_ 1323 = .ok (.aload_n 1, 1) := by decide +kernel
theorem dL_law__1324 : decode cL_law_ 1324 = .ok (.aload_n 0, 1) := by decide +kernel
theorem dL_law__1325 : decode cL_law_ 1325 = .ok (.iload 4, 2) := by decide +kernel
theorem dL_law__1327 : decode cL_law_ 1327 = .ok (.iconst 1, 1) := by decide +kernel
theorem dL_law__1328 : decode cL_law_ 1328 = .ok (.iadd, 1) := by decide +kernel
theorem dL_law__1329 : decode cL_law_ 1329 = .ok (.iaload, 1) := by decide +kernel
theorem dL_law__1330 : decode cL_law_ 1330 = .ok (.aload_n 3, 1) := by decide +kernel
theorem dL_law__1331 : decode cL_law_ 1331 = .ok (.invokestatic 187, 3) := by decide +kernel
theorem dL_law__1334 : decode cL_law_ 1334 = .ok (.istore 5, 2) := by decide +kernel
theorem dL_law__1336 : decode cL_law_ 1336 = .ok (.aload_n 2, 1) := by decide +kernel
theorem dL_law__1337 : decode cL_law_ 1337 = .ok (.aload_n 0, 1) := by decide +kernel
theorem dL_law__1338 : decode cL_law_ 1338 = .ok (.iload 4, 2) := by decide +kernel
theorem dL_law__1340 : decode cL_law_ 1340 = .ok (.iconst 1, 1) := by decide +kernel
theorem dL_law__1341 : decode cL_law_ 1341 = .ok (.iadd, 1) := by decide +kernel
theorem dL_law__1342 : decode cL_law_ 1342 = .ok (.iaload, 1) := by decide +kernel
theorem dL_law__1343 : decode cL_law_ 1343 = .ok (.invokevirtual 189, 3) := by decide +kernel
theorem dL_law__1346 : decode cL_law_ 1346 = .ok (.istore 6, 2) := by decide +kernel
theorem dL_law__1348 : decode cL_law_ 1348 = .ok (.aload_n 2, 1) := by decide +kernel
theorem dL_law__1349 : decode cL_law_ 1349 = .ok (.invokevirtual 131, 3) := by decide +kernel
theorem dL_law__1352 : decode cL_law_ 1352 = .ok (.iload 5, 2) := by decide +kernel
theorem dL_law__1354 : decode cL_law_ 1354 = .ok (.if_icmp .eq 5, 3) := by decide +kernel
theorem dL_law__1357 : decode cL_law_ 1357 = .ok (.iconst 0, 1) := by decide +kernel
theorem dL_law__1358 : decode cL_law_ 1358 = .ok (.ireturn, 1) := by decide +kernel
theorem dL_law__1359 : decode cL_law_ 1359 = .ok (.iload 5, 2) := by decide +kernel
theorem dL_law__1361 : decode cL_law_ 1361 = .ok (.ifCond .ne 15, 3) := by decide +kernel
theorem dL_law__1364 : decode cL_law_ 1364 = .ok (.aload_n 3, 1) := by decide +kernel
theorem dL_law__1365 : decode cL_law_ 1365 = .ok (.iconst 0, 1) := by decide +kernel
theorem dL_law__1366 : decode cL_law_ 1366 = .ok (.laload, 1) := by decide +kernel
theorem dL_law__1367 : decode cL_law_ 1367 = .ok (.iload 6, 2) := by decide +kernel
theorem dL_law__1369 : decode cL_law_ 1369 = .ok (.i2l, 1) := by decide +kernel
theorem dL_law__1370 : decode cL_law_ 1370 = .ok (.lcmp, 1) := by decide +kernel
theorem dL_law__1371 : decode cL_law_ 1371 = .ok (.ifCond .eq 5, 3) := by decide +kernel
theorem dL_law__1374 : decode cL_law_ 1374 = .ok (.iconst 0, 1) := by decide +kernel
theorem dL_law__1375 : decode cL_law_ 1375 = .ok (.ireturn, 1) := by decide +kernel
theorem dL_law__1376 : decode cL_law_ 1376 = .ok (.goto 1219, 3) := by decide +kernel
theorem dL_law__1379 : decode cL_law_ 1379 = .ok (.aload_n 1, 1) := by decide +kernel
theorem dL_law__1380 : decode cL_law_ 1380 = .ok (.aload_n 0, 1) := by decide +kernel
theorem dL_law__1381 : decode cL_law_ 1381 = .ok (.iload 4, 2) := by decide +kernel
theorem dL_law__1383 : decode cL_law_ 1383 = .ok (.iconst 1, 1) := by decide +kernel
theorem dL_law__1384 : decode cL_law_ 1384 = .ok (.iadd, 1) := by decide +kernel
theorem dL_law__1385 : decode cL_law_ 1385 = .ok (.iaload, 1) := by decide +kernel
theorem dL_law__1386 : decode cL_law_ 1386 = .ok (.aload_n 3, 1) := by decide +kernel
theorem dL_law__1387 : decode cL_law_ 1387 = .ok (.invokestatic 190, 3) := by decide +kernel
theorem dL_law__1390 : decode cL_law_ 1390 = .ok (.istore 5, 2) := by decide +kernel
theorem dL_law__1392 : decode cL_law_ 1392 = .ok (.aload_n 2, 1) := by decide +kernel
theorem dL_law__1393 : decode cL_law_ 1393 = .ok (.aload_n 0, 1) := by decide +kernel
theorem dL_law__1394 : decode cL_law_ 1394 = .ok (.iload 4, 2) := by decide +kernel
theorem dL_law__1396 : decode cL_law_ 1396 = .ok (.iconst 1, 1) := by decide +kernel
theorem dL_law__1397 : decode cL_law_ 1397 = .ok (.iadd, 1) := by decide +kernel
theorem dL_law__1398 : decode cL_law_ 1398 = .ok (.iaload, 1) := by decide +kernel
theorem dL_law__1399 : decode cL_law_ 1399 = .ok (.invokevirtual 192, 3) := by decide +kernel
theorem dL_law__1402 : decode cL_law_ 1402 = .ok (.istore 6, 2) := by decide +kernel
theorem dL_law__1404 : decode cL_law_ 1404 = .ok (.aload_n 2, 1) := by decide +kernel
theorem dL_law__1405 : decode cL_law_ 1405 = .ok (.invokevirtual 131, 3) := by decide +kernel
theorem dL_law__1408 : decode cL_law_ 1408 = .ok (.iload 5, 2) := by decide +kernel
theorem dL_law__1410 : decode cL_law_ 1410 = .ok (.if_icmp .eq 5, 3) := by decide +kernel
theorem dL_law__1413 : decode cL_law_ 1413 = .ok (.iconst 0, 1) := by decide +kernel
theorem dL_law__1414 : decode cL_law_ 1414 = .ok (.ireturn, 1) := by decide +kernel
theorem dL_law__1415 : decode cL_law_ 1415 = .ok (.iload 5, 2) := by decide +kernel
theorem dL_law__1417 : decode cL_law_ 1417 = .ok (.ifCond .ne 15, 3) := by decide +kernel
theorem dL_law__1420 : decode cL_law_ 1420 = .ok (.aload_n 3, 1) := by decide +kernel
theorem dL_law__1421 : decode cL_law_ 1421 = .ok (.iconst 0, 1) := by decide +kernel
theorem dL_law__1422 : decode cL_law_ 1422 = .ok (.laload, 1) := by decide +kernel
theorem dL_law__1423 : decode cL_law_ 1423 = .ok (.iload 6, 2) := by decide +kernel
theorem dL_law__1425 : decode cL_law_ 1425 = .ok (.i2l, 1) := by decide +kernel
theorem dL_law__1426 : decode cL_law_ 1426 = .ok (.lcmp, 1) := by decide +kernel
theorem dL_law__1427 : decode cL_law_ 1427 = .ok (.ifCond .eq 5, 3) := by decide +kernel
theorem dL_law__1430 : decode cL_law_ 1430 = .ok (.iconst 0, 1) := by decide +kernel
theorem dL_law__1431 : decode cL_law_ 1431 = .ok (.ireturn, 1) := by decide +kernel
theorem dL_law__1432 : decode cL_law_ 1432 = .ok (.goto 1163, 3) := by decide +kernel
theorem dL_law__1435 : decode cL_law_ 1435 = .ok (.aload_n 1, 1) := by decide +kernel
theorem dL_law__1436 : decode cL_law_ 1436 = .ok (.aload_n 0, 1) := by decide +kernel
theorem dL_law__1437 : decode cL_law_ 1437 = .ok (.iload 4, 2) := by decide +kernel
theorem dL_law__1439 : decode cL_law_ 1439 = .ok (.iconst 1, 1) := by decide +kernel
theorem dL_law__1440 : decode cL_law_ 1440 = .ok (.iadd, 1) := by decide +kernel
theorem dL_law__1441 : decode cL_law_ 1441 = .ok (.iaload, 1) := by decide +kernel
theorem dL_law__1442 : decode cL_law_ 1442 = .ok (.aload_n 0, 1) := by decide +kernel
theorem dL_law__1443 : decode cL_law_ 1443 = .ok (.iload 4, 2) := by decide +kernel
theorem dL_law__1445 : decode cL_law_ 1445 = .ok (.iconst 2, 1) := by decide +kernel
theorem dL_law__1446 : decode cL_law_ 1446 = .ok (.iadd, 1) := by decide +kernel
theorem dL_law__1447 : decode cL_law_ 1447 = .ok (.iaload, 1) := by decide +kernel
theorem dL_law__1448 : decode cL_law_ 1448 = .ok (.aload_n 3, 1) := by decide +kernel
theorem dL_law__1449 : decode cL_law_ 1449 = .ok (.invokestatic 193, 3) := by decide +kernel
theorem dL_law__1452 : decode cL_law_ 1452 = .ok (.istore 5, 2) := by decide +kernel
theorem dL_law__1454 : decode cL_law_ 1454 = .ok (.aload_n 2, 1) := by decide +kernel
theorem dL_law__1455 : decode cL_law_ 1455 = .ok (.aload_n 0, 1) := by decide +kernel
theorem dL_law__1456 : decode cL_law_ 1456 = .ok (.iload 4, 2) := by decide +kernel
theorem dL_law__1458 : decode cL_law_ 1458 = .ok (.iconst 1, 1) := by decide +kernel
theorem dL_law__1459 : decode cL_law_ 1459 = .ok (.iadd, 1) := by decide +kernel
theorem dL_law__1460 : decode cL_law_ 1460 = .ok (.iaload, 1) := by decide +kernel
theorem dL_law__1461 : decode cL_law_ 1461 = .ok (.aload_n 0, 1) := by decide +kernel
theorem dL_law__1462 : decode cL_law_ 1462 = .ok (.iload 4, 2) := by decide +kernel
theorem dL_law__1464 : decode cL_law_ 1464 = .ok (.iconst 2, 1) := by decide +kernel
theorem dL_law__1465 : decode cL_law_ 1465 = .ok (.iadd, 1) := by decide +kernel
theorem dL_law__1466 : decode cL_law_ 1466 = .ok (.iaload, 1) := by decide +kernel
theorem dL_law__1467 : decode cL_law_ 1467 = .ok (.invokevirtual 195, 3) := by decide +kernel
theorem dL_law__1470 : decode cL_law_ 1470 = .ok (.istore 6, 2) := by decide +kernel
theorem dL_law__1472 : decode cL_law_ 1472 = .ok (.aload_n 2, 1) := by decide +kernel
theorem dL_law__1473 : decode cL_law_ 1473 = .ok (.invokevirtual 131, 3) := by decide +kernel
theorem dL_law__1476 : decode cL_law_ 1476 = .ok (.iload 5, 2) := by decide +kernel
theorem dL_law__1478 : decode cL_law_ 1478 = .ok (.if_icmp .eq 5, 3) := by decide +kernel
theorem dL_law__1481 : decode cL_law_ 1481 = .ok (.iconst 0, 1) := by decide +kernel
theorem dL_law__1482 : decode cL_law_ 1482 = .ok (.ireturn, 1) := by decide +kernel
theorem dL_law__1483 : decode cL_law_ 1483 = .ok (.iload 5, 2) := by decide +kernel
theorem dL_law__1485 : decode cL_law_ 1485 = .ok (.ifCond .ne 15, 3) := by decide +kernel
theorem dL_law__1488 : decode cL_law_ 1488 = .ok (.aload_n 3, 1) := by decide +kernel
theorem dL_law__1489 : decode cL_law_ 1489 = .ok (.iconst 0, 1) := by decide +kernel
theorem dL_law__1490 : decode cL_law_ 1490 = .ok (.laload, 1) := by decide +kernel
theorem dL_law__1491 : decode cL_law_ 1491 = .ok (.iload 6, 2) := by decide +kernel
theorem dL_law__1493 : decode cL_law_ 1493 = .ok (.i2l, 1) := by decide +kernel
theorem dL_law__1494 : decode cL_law_ 1494 = .ok (.lcmp, 1) := by decide +kernel
theorem dL_law__1495 : decode cL_law_ 1495 = .ok (.ifCond .eq 5, 3) := by decide +kernel
theorem dL_law__1498 : decode cL_law_ 1498 = .ok (.iconst 0, 1) := by decide +kernel
theorem dL_law__1499 : decode cL_law_ 1499 = .ok (.ireturn, 1) := by decide +kernel
theorem dL_law__1500 : decode cL_law_ 1500 = .ok (.goto 1095, 3) := by decide +kernel
theorem dL_law__1503 : decode cL_law_ 1503 = .ok (.aload_n 1, 1) := by decide +kernel
theorem dL_law__1504 : decode cL_law_ 1504 = .ok (.aload_n 0, 1) := by decide +kernel
theorem dL_law__1505 : decode cL_law_ 1505 = .ok (.iload 4, 2) := by decide +kernel
theorem dL_law__1507 : decode cL_law_ 1507 = .ok (.iconst 1, 1) := by decide +kernel
theorem dL_law__1508 : decode cL_law_ 1508 = .ok (.iadd, 1) := by decide +kernel
theorem dL_law__1509 : decode cL_law_ 1509 = .ok (.iaload, 1) := by decide +kernel
theorem dL_law__1510 : decode cL_law_ 1510 = .ok (.aload_n 3, 1) := by decide +kernel
theorem dL_law__1511 : decode cL_law_ 1511 = .ok (.invokestatic 196, 3) := by decide +kernel
theorem dL_law__1514 : decode cL_law_ 1514 = .ok (.istore 5, 2) := by decide +kernel
theorem dL_law__1516 : decode cL_law_ 1516 = .ok (.aload_n 2, 1) := by decide +kernel
theorem dL_law__1517 : decode cL_law_ 1517 = .ok (.aload_n 0, 1) := by decide +kernel
theorem dL_law__1518 : decode cL_law_ 1518 = .ok (.iload 4, 2) := by decide +kernel
theorem dL_law__1520 : decode cL_law_ 1520 = .ok (.iconst 1, 1) := by decide +kernel
theorem dL_law__1521 : decode cL_law_ 1521 = .ok (.iadd, 1) := by decide +kernel
theorem dL_law__1522 : decode cL_law_ 1522 = .ok (.iaload, 1) := by decide +kernel
theorem dL_law__1523 : decode cL_law_ 1523 = .ok (.invokevirtual 198, 3) := by decide +kernel
theorem dL_law__1526 : decode cL_law_ 1526 = .ok (.istore 6, 2) := by decide +kernel
theorem dL_law__1528 : decode cL_law_ 1528 = .ok (.aload_n 2, 1) := by decide +kernel
theorem dL_law__1529 : decode cL_law_ 1529 = .ok (.invokevirtual 131, 3) := by decide +kernel
theorem dL_law__1532 : decode cL_law_ 1532 = .ok (.iload 5, 2) := by decide +kernel
theorem dL_law__1534 : decode cL_law_ 1534 = .ok (.if_icmp .eq 5, 3) := by decide +kernel
theorem dL_law__1537 : decode cL_law_ 1537 = .ok (.iconst 0, 1) := by decide +kernel
theorem dL_law__1538 : decode cL_law_ 1538 = .ok (.ireturn, 1) := by decide +kernel
theorem dL_law__1539 : decode cL_law_ 1539 = .ok (.iload 5, 2) := by decide +kernel
theorem dL_law__1541 : decode cL_law_ 1541 = .ok (.ifCond .ne 15, 3) := by decide +kernel
theorem dL_law__1544 : decode cL_law_ 1544 = .ok (.aload_n 3, 1) := by decide +kernel
theorem dL_law__1545 : decode cL_law_ 1545 = .ok (.iconst 0, 1) := by decide +kernel
theorem dL_law__1546 : decode cL_law_ 1546 = .ok (.laload, 1) := by decide +kernel
theorem dL_law__1547 : decode cL_law_ 1547 = .ok (.iload 6, 2) := by decide +kernel
theorem dL_law__1549 : decode cL_law_ 1549 = .ok (.i2l, 1) := by decide +kernel
theorem dL_law__1550 : decode cL_law_ 1550 = .ok (.lcmp, 1) := by decide +kernel
theorem dL_law__1551 : decode cL_law_ 1551 = .ok (.ifCond .eq 5, 3) := by decide +kernel
theorem dL_law__1554 : decode cL_law_ 1554 = .ok (.iconst 0, 1) := by decide +kernel
theorem dL_law__1555 : decode cL_law_ 1555 = .ok (.ireturn, 1) := by decide +kernel
theorem dL_law__1556 : decode cL_law_ 1556 = .ok (.goto 1039, 3) := by decide +kernel
theorem dL_law__1559 : decode cL_law_ 1559 = .ok (.aload_n 1, 1) := by decide +kernel
theorem dL_law__1560 : decode cL_law_ 1560 = .ok (.aload_n 0, 1) := by decide +kernel
theorem dL_law__1561 : decode cL_law_ 1561 = .ok (.iload 4, 2) := by decide +kernel
theorem dL_law__1563 : decode cL_law_ 1563 = .ok (.iconst 1, 1) := by decide +kernel
theorem dL_law__1564 : decode cL_law_ 1564 = .ok (.iadd, 1) := by decide +kernel
theorem dL_law__1565 : decode cL_law_ 1565 = .ok (.iaload, 1) := by decide +kernel
theorem dL_law__1566 : decode cL_law_ 1566 = .ok (.aload_n 3, 1) := by decide +kernel
theorem dL_law__1567 : decode cL_law_ 1567 = .ok (.invokestatic 199, 3) := by decide +kernel
theorem dL_law__1570 : decode cL_law_ 1570 = .ok (.istore 5, 2) := by decide +kernel
theorem dL_law__1572 : decode cL_law_ 1572 = .ok (.aload_n 2, 1) := by decide +kernel
theorem dL_law__1573 : decode cL_law_ 1573 = .ok (.aload_n 0, 1) := by decide +kernel
theorem dL_law__1574 : decode cL_law_ 1574 = .ok (.iload 4, 2) := by decide +kernel
theorem dL_law__1576 : decode cL_law_ 1576 = .ok (.iconst 1, 1) := by decide +kernel
theorem dL_law__1577 : decode cL_law_ 1577 = .ok (.iadd, 1) := by decide +kernel
theorem dL_law__1578 : decode cL_law_ 1578 = .ok (.iaload, 1) := by decide +kernel
theorem dL_law__1579 : decode cL_law_ 1579 = .ok (.invokevirtual 201, 3) := by decide +kernel
theorem dL_law__1582 : decode cL_law_ 1582 = .ok (.istore 6, 2) := by decide +kernel
theorem dL_law__1584 : decode cL_law_ 1584 = .ok (.aload_n 2, 1) := by decide +kernel
theorem dL_law__1585 : decode cL_law_ 1585 = .ok (.invokevirtual 131, 3) := by decide +kernel
theorem dL_law__1588 : decode cL_law_ 1588 = .ok (.iload 5, 2) := by decide +kernel
theorem dL_law__1590 : decode cL_law_ 1590 = .ok (.if_icmp .eq 5, 3) := by decide +kernel
theorem dL_law__1593 : decode cL_law_ 1593 = .ok (.iconst 0, 1) := by decide +kernel
theorem dL_law__1594 : decode cL_law_ 1594 = .ok (.ireturn, 1) := by decide +kernel
theorem dL_law__1595 : decode cL_law_ 1595 = .ok (.iload 5, 2) := by decide +kernel
theorem dL_law__1597 : decode cL_law_ 1597 = .ok (.ifCond .ne 15, 3) := by decide +kernel
theorem dL_law__1600 : decode cL_law_ 1600 = .ok (.aload_n 3, 1) := by decide +kernel
theorem dL_law__1601 : decode cL_law_ 1601 = .ok (.iconst 0, 1) := by decide +kernel
theorem dL_law__1602 : decode cL_law_ 1602 = .ok (.laload, 1) := by decide +kernel
theorem dL_law__1603 : decode cL_law_ 1603 = .ok (.iload 6, 2) := by decide +kernel
theorem dL_law__1605 : decode cL_law_ 1605 = .ok (.i2l, 1) := by decide +kernel
theorem dL_law__1606 : decode cL_law_ 1606 = .ok (.lcmp, 1) := by decide +kernel
theorem dL_law__1607 : decode cL_law_ 1607 = .ok (.ifCond .eq 5, 3) := by decide +kernel
theorem dL_law__1610 : decode cL_law_ 1610 = .ok (.iconst 0, 1) := by decide +kernel
theorem dL_law__1611 : decode cL_law_ 1611 = .ok (.ireturn, 1) := by decide +kernel
theorem dL_law__1612 : decode cL_law_ 1612 = .ok (.goto 983, 3) := by decide +kernel
theorem dL_law__1615 : decode cL_law_ 1615 = .ok (.aload_n 1, 1) := by decide +kernel
theorem dL_law__1616 : decode cL_law_ 1616 = .ok (.aload_n 0, 1) := by decide +kernel
theorem dL_law__1617 : decode cL_law_ 1617 = .ok (.iload 4, 2) := by decide +kernel
theorem dL_law__1619 : decode cL_law_ 1619 = .ok (.iconst 1, 1) := by decide +kernel
theorem dL_law__1620 : decode cL_law_ 1620 = .ok (.iadd, 1) := by decide +kernel
theorem dL_law__1621 : decode cL_law_ 1621 = .ok (.iaload, 1) := by decide +kernel
theorem dL_law__1622 : decode cL_law_ 1622 = .ok (.aload_n 0, 1) := by decide +kernel
theorem dL_law__1623 : decode cL_law_ 1623 = .ok (.iload 4, 2) := by decide +kernel
theorem dL_law__1625 : decode cL_law_ 1625 = .ok (.iconst 2, 1) := by decide +kernel
theorem dL_law__1626 : decode cL_law_ 1626 = .ok (.iadd, 1) := by decide +kernel
theorem dL_law__1627 : decode cL_law_ 1627 = .ok (.iaload, 1) := by decide +kernel
theorem dL_law__1628 : decode cL_law_ 1628 = .ok (.aload_n 0, 1) := by decide +kernel
theorem dL_law__1629 : decode cL_law_ 1629 = .ok (.iload 4, 2) := by decide +kernel
theorem dL_law__1631 : decode cL_law_ 1631 = .ok (.iconst 3, 1) := by decide +kernel
theorem dL_law__1632 : decode cL_law_ 1632 = .ok (.iadd, 1) := by decide +kernel
theorem dL_law__1633 : decode cL_law_ 1633 = .ok (.iaload, 1) := by decide +kernel
theorem dL_law__1634 : decode cL_law_ 1634 = .ok (.aload_n 3, 1) := by decide +kernel
theorem dL_law__1635 : decode cL_law_ 1635 = .ok (.invokestatic 202, 3) := by decide +kernel
theorem dL_law__1638 : decode cL_law_ 1638 = .ok (.istore 5, 2) := by decide +kernel
theorem dL_law__1640 : decode cL_law_ 1640 = .ok (.aload_n 2, 1) := by decide +kernel
theorem dL_law__1641 : decode cL_law_ 1641 = .ok (.aload_n 0, 1) := by decide +kernel
theorem dL_law__1642 : decode cL_law_ 1642 = .ok (.iload 4, 2) := by decide +kernel
theorem dL_law__1644 : decode cL_law_ 1644 = .ok (.iconst 1, 1) := by decide +kernel
theorem dL_law__1645 : decode cL_law_ 1645 = .ok (.iadd, 1) := by decide +kernel
theorem dL_law__1646 : decode cL_law_ 1646 = .ok (.iaload, 1) := by decide +kernel
theorem dL_law__1647 : decode cL_law_ 1647 = .ok (.aload_n 0, 1) := by decide +kernel
theorem dL_law__1648 : decode cL_law_ 1648 = .ok (.iload 4, 2) := by decide +kernel
theorem dL_law__1650 : decode cL_law_ 1650 = .ok (.iconst 2, 1) := by decide +kernel
theorem dL_law__1651 : decode cL_law_ 1651 = .ok (.iadd, 1) := by decide +kernel
theorem dL_law__1652 : decode cL_law_ 1652 = .ok (.iaload, 1) := by decide +kernel
theorem dL_law__1653 : decode cL_law_ 1653 = .ok (.aload_n 0, 1) := by decide +kernel
theorem dL_law__1654 : decode cL_law_ 1654 = .ok (.iload 4, 2) := by decide +kernel
theorem dL_law__1656 : decode cL_law_ 1656 = .ok (.iconst 3, 1) := by decide +kernel
theorem dL_law__1657 : decode cL_law_ 1657 = .ok (.iadd, 1) := by decide +kernel
theorem dL_law__1658 : decode cL_law_ 1658 = .ok (.iaload, 1) := by decide +kernel
theorem dL_law__1659 : decode cL_law_ 1659 = .ok (.invokevirtual 205, 3) := by decide +kernel
theorem dL_law__1662 : decode cL_law_ 1662 = .ok (.istore 6, 2) := by decide +kernel
theorem dL_law__1664 : decode cL_law_ 1664 = .ok (.aload_n 2, 1) := by decide +kernel
theorem dL_law__1665 : decode cL_law_ 1665 = .ok (.invokevirtual 131, 3) := by decide +kernel
theorem dL_law__1668 : decode cL_law_ 1668 = .ok (.iload 5, 2) := by decide +kernel
theorem dL_law__1670 : decode cL_law_ 1670 = .ok (.if_icmp .eq 5, 3) := by decide +kernel
theorem dL_law__1673 : decode cL_law_ 1673 = .ok (.iconst 0, 1) := by decide +kernel
theorem dL_law__1674 : decode cL_law_ 1674 = .ok (.ireturn, 1) := by decide +kernel
theorem dL_law__1675 : decode cL_law_ 1675 = .ok (.iload 5, 2) := by decide +kernel
theorem dL_law__1677 : decode cL_law_ 1677 = .ok (.ifCond .ne 15, 3) := by decide +kernel
theorem dL_law__1680 : decode cL_law_ 1680 = .ok (.aload_n 3, 1) := by decide +kernel
theorem dL_law__1681 : decode cL_law_ 1681 = .ok (.iconst 0, 1) := by decide +kernel
theorem dL_law__1682 : decode cL_law_ 1682 = .ok (.laload, 1) := by decide +kernel
theorem dL_law__1683 : decode cL_law_ 1683 = .ok (.iload 6, 2) := by decide +kernel
theorem dL_law__1685 : decode cL_law_ 1685 = .ok (.i2l, 1) := by decide +kernel
theorem dL_law__1686 : decode cL_law_ 1686 = .ok (.lcmp, 1) := by decide +kernel
theorem dL_law__1687 : decode cL_law_ 1687 = .ok (.ifCond .eq 5, 3) := by decide +kernel
theorem dL_law__1690 : decode cL_law_ 1690 = .ok (.iconst 0, 1) := by decide +kernel
theorem dL_law__1691 : decode cL_law_ 1691 = .ok (.ireturn, 1) := by decide +kernel
theorem dL_law__1692 : decode cL_law_ 1692 = .ok (.goto 903, 3) := by decide +kernel
theorem dL_law__1695 : decode cL_law_ 1695 = .ok (.aload_n 1, 1) := by decide +kernel
theorem dL_law__1696 : decode cL_law_ 1696 = .ok (.aload_n 0, 1) := by decide +kernel
theorem dL_law__1697 : decode cL_law_ 1697 = .ok (.iload 4, 2) := by decide +kernel
theorem dL_law__1699 : decode cL_law_ 1699 = .ok (.iconst 1, 1) := by decide +kernel
theorem dL_law__1700 : decode cL_law_ 1700 = .ok (.iadd, 1) := by decide +kernel
theorem dL_law__1701 : decode cL_law_ 1701 = .ok (.iaload, 1) := by decide +kernel
theorem dL_law__1702 : decode cL_law_ 1702 = .ok (.aload_n 0, 1) := by decide +kernel
theorem dL_law__1703 : decode cL_law_ 1703 = .ok (.iload 4, 2) := by decide +kernel
theorem dL_law__1705 : decode cL_law_ 1705 = .ok (.iconst 2, 1) := by decide +kernel
theorem dL_law__1706 : decode cL_law_ 1706 = .ok (.iadd, 1) := by decide +kernel
theorem dL_law__1707 : decode cL_law_ 1707 = .ok (.iaload, 1) := by decide +kernel
theorem dL_law__1708 : decode cL_law_ 1708 = .ok (.aload_n 0, 1) := by decide +kernel
theorem dL_law__1709 : decode cL_law_ 1709 = .ok (.iload 4, 2) := by decide +kernel
theorem dL_law__1711 : decode cL_law_ 1711 = .ok (.iconst 3, 1) := by decide +kernel
theorem dL_law__1712 : decode cL_law_ 1712 = .ok (.iadd, 1) := by decide +kernel
theorem dL_law__1713 : decode cL_law_ 1713 = .ok (.iaload, 1) := by decide +kernel
theorem dL_law__1714 : decode cL_law_ 1714 = .ok (.aload_n 0, 1) := by decide +kernel
theorem dL_law__1715 : decode cL_law_ 1715 = .ok (.iload 4, 2) := by decide +kernel
theorem dL_law__1717 : decode cL_law_ 1717 = .ok (.iconst 4, 1) := by decide +kernel
theorem dL_law__1718 : decode cL_law_ 1718 = .ok (.iadd, 1) := by decide +kernel
theorem dL_law__1719 : decode cL_law_ 1719 = .ok (.iaload, 1) := by decide +kernel
theorem dL_law__1720 : decode cL_law_ 1720 = .ok (.aload_n 3, 1) := by decide +kernel
theorem dL_law__1721 : decode cL_law_ 1721 = .ok (.invokestatic 206, 3) := by decide +kernel
theorem dL_law__1724 : decode cL_law_ 1724 = .ok (.istore 5, 2) := by decide +kernel
theorem dL_law__1726 : decode cL_law_ 1726 = .ok (.aload_n 2, 1) := by decide +kernel
theorem dL_law__1727 : decode cL_law_ 1727 = .ok (.aload_n 0, 1) := by decide +kernel
theorem dL_law__1728 : decode cL_law_ 1728 = .ok (.iload 4, 2) := by decide +kernel
theorem dL_law__1730 : decode cL_law_ 1730 = .ok (.iconst 1, 1) := by decide +kernel
theorem dL_law__1731 : decode cL_law_ 1731 = .ok (.iadd, 1) := by decide +kernel
theorem dL_law__1732 : decode cL_law_ 1732 = .ok (.iaload, 1) := by decide +kernel
theorem dL_law__1733 : decode cL_law_ 1733 = .ok (.aload_n 0, 1) := by decide +kernel
theorem dL_law__1734 : decode cL_law_ 1734 = .ok (.iload 4, 2) := by decide +kernel
theorem dL_law__1736 : decode cL_law_ 1736 = .ok (.iconst 2, 1) := by decide +kernel
theorem dL_law__1737 : decode cL_law_ 1737 = .ok (.iadd, 1) := by decide +kernel
theorem dL_law__1738 : decode cL_law_ 1738 = .ok (.iaload, 1) := by decide +kernel
theorem dL_law__1739 : decode cL_law_ 1739 = .ok (.aload_n 0, 1) := by decide +kernel
theorem dL_law__1740 : decode cL_law_ 1740 = .ok (.iload 4, 2) := by decide +kernel
theorem dL_law__1742 : decode cL_law_ 1742 = .ok (.iconst 3, 1) := by decide +kernel
theorem dL_law__1743 : decode cL_law_ 1743 = .ok (.iadd, 1) := by decide +kernel
theorem dL_law__1744 : decode cL_law_ 1744 = .ok (.iaload, 1) := by decide +kernel
theorem dL_law__1745 : decode cL_law_ 1745 = .ok (.aload_n 0, 1) := by decide +kernel
theorem dL_law__1746 : decode cL_law_ 1746 = .ok (.iload 4, 2) := by decide +kernel
theorem dL_law__1748 : decode cL_law_ 1748 = .ok (.iconst 4, 1) := by decide +kernel
theorem dL_law__1749 : decode cL_law_ 1749 = .ok (.iadd, 1) := by decide +kernel
theorem dL_law__1750 : decode cL_law_ 1750 = .ok (.iaload, 1) := by decide +kernel
theorem dL_law__1751 : decode cL_law_ 1751 = .ok (.invokevirtual 209, 3) := by decide +kernel
theorem dL_law__1754 : decode cL_law_ 1754 = .ok (.lstore 6, 2) := by decide +kernel
theorem dL_law__1756 : decode cL_law_ 1756 = .ok (.aload_n 2, 1) := by decide +kernel
theorem dL_law__1757 : decode cL_law_ 1757 = .ok (.invokevirtual 131, 3) := by decide +kernel
theorem dL_law__1760 : decode cL_law_ 1760 = .ok (.iload 5, 2) := by decide +kernel
theorem dL_law__1762 : decode cL_law_ 1762 = .ok (.if_icmp .eq 5, 3) := by decide +kernel
theorem dL_law__1765 : decode cL_law_ 1765 = .ok (.iconst 0, 1) := by decide +kernel
theorem dL_law__1766 : decode cL_law_ 1766 = .ok (.ireturn, 1) := by decide +kernel
theorem dL_law__1767 : decode cL_law_ 1767 = .ok (.iload 5, 2) := by decide +kernel
theorem dL_law__1769 : decode cL_law_ 1769 = .ok (.ifCond .ne 14, 3) := by decide +kernel
theorem dL_law__1772 : decode cL_law_ 1772 = .ok (.aload_n 3, 1) := by decide +kernel
theorem dL_law__1773 : decode cL_law_ 1773 = .ok (.iconst 0, 1) := by decide +kernel
theorem dL_law__1774 : decode cL_law_ 1774 = .ok (.laload, 1) := by decide +kernel
theorem dL_law__1775 : decode cL_law_ 1775 = .ok (.lload 6, 2) := by decide +kernel
theorem dL_law__1777 : decode cL_law_ 1777 = .ok (.lcmp, 1) := by decide +kernel
theorem dL_law__1778 : decode cL_law_ 1778 = .ok (.ifCond .eq 5, 3) := by decide +kernel
theorem dL_law__1781 : decode cL_law_ 1781 = .ok (.iconst 0, 1) := by decide +kernel
theorem dL_law__1782 : decode cL_law_ 1782 = .ok (.ireturn, 1) := by decide +kernel
theorem dL_law__1783 : decode cL_law_ 1783 = .ok (.goto 812, 3) := by decide +kernel
theorem dL_law__1786 : decode cL_law_ 1786 = .ok (.aload_n 1, 1) := by decide +kernel
theorem dL_law__1787 : decode cL_law_ 1787 = .ok (.aload_n 0, 1) := by decide +kernel
theorem dL_law__1788 : decode cL_law_ 1788 = .ok (.iload 4, 2) := by decide +kernel
theorem dL_law__1790 : decode cL_law_ 1790 = .ok (.iconst 1, 1) := by decide +kernel
theorem dL_law__1791 : decode cL_law_ 1791 = .ok (.iadd, 1) := by decide +kernel
theorem dL_law__1792 : decode cL_law_ 1792 = .ok (.iaload, 1) := by decide +kernel
theorem dL_law__1793 : decode cL_law_ 1793 = .ok (.aload_n 0, 1) := by decide +kernel
theorem dL_law__1794 : decode cL_law_ 1794 = .ok (.iload 4, 2) := by decide +kernel
theorem dL_law__1796 : decode cL_law_ 1796 = .ok (.iconst 2, 1) := by decide +kernel
theorem dL_law__1797 : decode cL_law_ 1797 = .ok (.iadd, 1) := by decide +kernel
theorem dL_law__1798 : decode cL_law_ 1798 = .ok (.iaload, 1) := by decide +kernel
theorem dL_law__1799 : decode cL_law_ 1799 = .ok (.aload_n 0, 1) := by decide +kernel
theorem dL_law__1800 : decode cL_law_ 1800 = .ok (.iload 4, 2) := by decide +kernel
theorem dL_law__1802 : decode cL_law_ 1802 = .ok (.iconst 3, 1) := by decide +kernel
theorem dL_law__1803 : decode cL_law_ 1803 = .ok (.iadd, 1) := by decide +kernel
theorem dL_law__1804 : decode cL_law_ 1804 = .ok (.iaload, 1) := by decide +kernel
theorem dL_law__1805 : decode cL_law_ 1805 = .ok (.aload_n 3, 1) := by decide +kernel
theorem dL_law__1806 : decode cL_law_ 1806 = .ok (.invokestatic 210, 3) := by decide +kernel
theorem dL_law__1809 : decode cL_law_ 1809 = .ok (.istore 5, 2) := by decide +kernel
theorem dL_law__1811 : decode cL_law_ 1811 = .ok (.aload_n 2, 1) := by decide +kernel
theorem dL_law__1812 : decode cL_law_ 1812 = .ok (.aload_n 0, 1) := by decide +kernel
theorem dL_law__1813 : decode cL_law_ 1813 = .ok (.iload 4, 2) := by decide +kernel
theorem dL_law__1815 : decode cL_law_ 1815 = .ok (.iconst 1, 1) := by decide +kernel
theorem dL_law__1816 : decode cL_law_ 1816 = .ok (.iadd, 1) := by decide +kernel
theorem dL_law__1817 : decode cL_law_ 1817 = .ok (.iaload, 1) := by decide +kernel
theorem dL_law__1818 : decode cL_law_ 1818 = .ok (.aload_n 0, 1) := by decide +kernel
theorem dL_law__1819 : decode cL_law_ 1819 = .ok (.iload 4, 2) := by decide +kernel
theorem dL_law__1821 : decode cL_law_ 1821 = .ok (.iconst 2, 1) := by decide +kernel
theorem dL_law__1822 : decode cL_law_ 1822 = .ok (.iadd, 1) := by decide +kernel
theorem dL_law__1823 : decode cL_law_ 1823 = .ok (.iaload, 1) := by decide +kernel
theorem dL_law__1824 : decode cL_law_ 1824 = .ok (.aload_n 0, 1) := by decide +kernel
theorem dL_law__1825 : decode cL_law_ 1825 = .ok (.iload 4, 2) := by decide +kernel
theorem dL_law__1827 : decode cL_law_ 1827 = .ok (.iconst 3, 1) := by decide +kernel
theorem dL_law__1828 : decode cL_law_ 1828 = .ok (.iadd, 1) := by decide +kernel
theorem dL_law__1829 : decode cL_law_ 1829 = .ok (.iaload, 1) := by decide +kernel
theorem dL_law__1830 : decode cL_law_ 1830 = .ok (.invokevirtual 212, 3) := by decide +kernel
theorem dL_law__1833 : decode cL_law_ 1833 = .ok (.istore 6, 2) := by decide +kernel
theorem dL_law__1835 : decode cL_law_ 1835 = .ok (.aload_n 2, 1) := by decide +kernel
theorem dL_law__1836 : decode cL_law_ 1836 = .ok (.invokevirtual 131, 3) := by decide +kernel
theorem dL_law__1839 : decode cL_law_ 1839 = .ok (.iload 5, 2) := by decide +kernel
theorem dL_law__1841 : decode cL_law_ 1841 = .ok (.if_icmp .eq 5, 3) := by decide +kernel
theorem dL_law__1844 : decode cL_law_ 1844 = .ok (.iconst 0, 1) := by decide +kernel
theorem dL_law__1845 : decode cL_law_ 1845 = .ok (.ireturn, 1) := by decide +kernel
theorem dL_law__1846 : decode cL_law_ 1846 = .ok (.iload 5, 2) := by decide +kernel
theorem dL_law__1848 : decode cL_law_ 1848 = .ok (.ifCond .ne 15, 3) := by decide +kernel
theorem dL_law__1851 : decode cL_law_ 1851 = .ok (.aload_n 3, 1) := by decide +kernel
theorem dL_law__1852 : decode cL_law_ 1852 = .ok (.iconst 0, 1) := by decide +kernel
theorem dL_law__1853 : decode cL_law_ 1853 = .ok (.laload, 1) := by decide +kernel
theorem dL_law__1854 : decode cL_law_ 1854 = .ok (.iload 6, 2) := by decide +kernel
theorem dL_law__1856 : decode cL_law_ 1856 = .ok (.i2l, 1) := by decide +kernel
theorem dL_law__1857 : decode cL_law_ 1857 = .ok (.lcmp, 1) := by decide +kernel
theorem dL_law__1858 : decode cL_law_ 1858 = .ok (.ifCond .eq 5, 3) := by decide +kernel
theorem dL_law__1861 : decode cL_law_ 1861 = .ok (.iconst 0, 1) := by decide +kernel
theorem dL_law__1862 : decode cL_law_ 1862 = .ok (.ireturn, 1) := by decide +kernel
theorem dL_law__1863 : decode cL_law_ 1863 = .ok (.goto 732, 3) := by decide +kernel
theorem dL_law__1866 : decode cL_law_ 1866 = .ok (.aload_n 1, 1) := by decide +kernel
theorem dL_law__1867 : decode cL_law_ 1867 = .ok (.aload_n 0, 1) := by decide +kernel
theorem dL_law__1868 : decode cL_law_ 1868 = .ok (.iload 4, 2) := by decide +kernel
theorem dL_law__1870 : decode cL_law_ 1870 = .ok (.iconst 1, 1) := by decide +kernel
theorem dL_law__1871 : decode cL_law_ 1871 = .ok (.iadd, 1) := by decide +kernel
theorem dL_law__1872 : decode cL_law_ 1872 = .ok (.iaload, 1) := by decide +kernel
theorem dL_law__1873 : decode cL_law_ 1873 = .ok (.aload_n 3, 1) := by decide +kernel
theorem dL_law__1874 : decode cL_law_ 1874 = .ok (.invokestatic 213, 3) := by decide +kernel
theorem dL_law__1877 : decode cL_law_ 1877 = .ok (.istore 5, 2) := by decide +kernel
theorem dL_law__1879 : decode cL_law_ 1879 = .ok (.aload_n 2, 1) := by decide +kernel
theorem dL_law__1880 : decode cL_law_ 1880 = .ok (.aload_n 0, 1) := by decide +kernel
theorem dL_law__1881 : decode cL_law_ 1881 = .ok (.iload 4, 2) := by decide +kernel
theorem dL_law__1883 : decode cL_law_ 1883 = .ok (.iconst 1, 1) := by decide +kernel
theorem dL_law__1884 : decode cL_law_ 1884 = .ok (.iadd, 1) := by decide +kernel
theorem dL_law__1885 : decode cL_law_ 1885 = .ok (.iaload, 1) := by decide +kernel
theorem dL_law__1886 : decode cL_law_ 1886 = .ok (.invokevirtual 215, 3) := by decide +kernel
theorem dL_law__1889 : decode cL_law_ 1889 = .ok (.istore 6, 2) := by decide +kernel
theorem dL_law__1891 : decode cL_law_ 1891 = .ok (.aload_n 2, 1) := by decide +kernel
theorem dL_law__1892 : decode cL_law_ 1892 = .ok (.invokevirtual 131, 3) := by decide +kernel
theorem dL_law__1895 : decode cL_law_ 1895 = .ok (.iload 5, 2) := by decide +kernel
theorem dL_law__1897 : decode cL_law_ 1897 = .ok (.if_icmp .eq 5, 3) := by decide +kernel
theorem dL_law__1900 : decode cL_law_ 1900 = .ok (.iconst 0, 1) := by decide +kernel
theorem dL_law__1901 : decode cL_law_ 1901 = .ok (.ireturn, 1) := by decide +kernel
theorem dL_law__1902 : decode cL_law_ 1902 = .ok (.iload 5, 2) := by decide +kernel
theorem dL_law__1904 : decode cL_law_ 1904 = .ok (.ifCond .ne 15, 3) := by decide +kernel
theorem dL_law__1907 : decode cL_law_ 1907 = .ok (.aload_n 3, 1) := by decide +kernel
theorem dL_law__1908 : decode cL_law_ 1908 = .ok (.iconst 0, 1) := by decide +kernel
theorem dL_law__1909 : decode cL_law_ 1909 = .ok (.laload, 1) := by decide +kernel
theorem dL_law__1910 : decode cL_law_ 1910 = .ok (.iload 6, 2) := by decide +kernel
theorem dL_law__1912 : decode cL_law_ 1912 = .ok (.i2l, 1) := by decide +kernel
theorem dL_law__1913 : decode cL_law_ 1913 = .ok (.lcmp, 1) := by decide +kernel
theorem dL_law__1914 : decode cL_law_ 1914 = .ok (.ifCond .eq 5, 3) := by decide +kernel
theorem dL_law__1917 : decode cL_law_ 1917 = .ok (.iconst 0, 1) := by decide +kernel
theorem dL_law__1918 : decode cL_law_ 1918 = .ok (.ireturn, 1) := by decide +kernel
theorem dL_law__1919 : decode cL_law_ 1919 = .ok (.goto 676, 3) := by decide +kernel
theorem dL_law__1922 : decode cL_law_ 1922 = .ok (.aload_n 1, 1) := by decide +kernel
theorem dL_law__1923 : decode cL_law_ 1923 = .ok (.aload_n 0, 1) := by decide +kernel
theorem dL_law__1924 : decode cL_law_ 1924 = .ok (.iload 4, 2) := by decide +kernel
theorem dL_law__1926 : decode cL_law_ 1926 = .ok (.iconst 1, 1) := by decide +kernel
theorem dL_law__1927 : decode cL_law_ 1927 = .ok (.iadd, 1) := by decide +kernel
theorem dL_law__1928 : decode cL_law_ 1928 = .ok (.iaload, 1) := by decide +kernel
theorem dL_law__1929 : decode cL_law_ 1929 = .ok (.aload_n 3, 1) := by decide +kernel
theorem dL_law__1930 : decode cL_law_ 1930 = .ok (.invokestatic 216, 3) := by decide +kernel
theorem dL_law__1933 : decode cL_law_ 1933 = .ok (.istore 5, 2) := by decide +kernel
theorem dL_law__1935 : decode cL_law_ 1935 = .ok (.aload_n 2, 1) := by decide +kernel
theorem dL_law__1936 : decode cL_law_ 1936 = .ok (.aload_n 0, 1) := by decide +kernel
theorem dL_law__1937 : decode cL_law_ 1937 = .ok (.iload 4, 2) := by decide +kernel
theorem dL_law__1939 : decode cL_law_ 1939 = .ok (.iconst 1, 1) := by decide +kernel
theorem dL_law__1940 : decode cL_law_ 1940 = .ok (.iadd, 1) := by decide +kernel
theorem dL_law__1941 : decode cL_law_ 1941 = .ok (.iaload, 1) := by decide +kernel
theorem dL_law__1942 : decode cL_law_ 1942 = .ok (.invokevirtual 218, 3) := by decide +kernel
theorem dL_law__1945 : decode cL_law_ 1945 = .ok (.istore 6, 2) := by decide +kernel
theorem dL_law__1947 : decode cL_law_ 1947 = .ok (.aload_n 2, 1) := by decide +kernel
theorem dL_law__1948 : decode cL_law_ 1948 = .ok (.invokevirtual 131, 3) := by decide +kernel
theorem dL_law__1951 : decode cL_law_ 1951 = .ok (.iload 5, 2) := by decide +kernel
theorem dL_law__1953 : decode cL_law_ 1953 = .ok (.if_icmp .eq 5, 3) := by decide +kernel
theorem dL_law__1956 : decode cL_law_ 1956 = .ok (.iconst 0, 1) := by decide +kernel
theorem dL_law__1957 : decode cL_law_ 1957 = .ok (.ireturn, 1) := by decide +kernel
theorem dL_law__1958 : decode cL_law_ 1958 = .ok (.iload 5, 2) := by decide +kernel
theorem dL_law__1960 : decode cL_law_ 1960 = .ok (.ifCond .ne 15, 3) := by decide +kernel
theorem dL_law__1963 : decode cL_law_ 1963 = .ok (.aload_n 3, 1) := by decide +kernel
theorem dL_law__1964 : decode cL_law_ 1964 = .ok (.iconst 0, 1) := by decide +kernel
theorem dL_law__1965 : decode cL_law_ 1965 = .ok (.laload, 1) := by decide +kernel
theorem dL_law__1966 : decode cL_law_ 1966 = .ok (.iload 6, 2) := by decide +kernel
theorem dL_law__1968 : decode cL_law_ 1968 = .ok (.i2l, 1) := by decide +kernel
theorem dL_law__1969 : decode cL_law_ 1969 = .ok (.lcmp, 1) := by decide +kernel
theorem dL_law__1970 : decode cL_law_ 1970 = .ok (.ifCond .eq 5, 3) := by decide +kernel
theorem dL_law__1973 : decode cL_law_ 1973 = .ok (.iconst 0, 1) := by decide +kernel
theorem dL_law__1974 : decode cL_law_ 1974 = .ok (.ireturn, 1) := by decide +kernel
theorem dL_law__1975 : decode cL_law_ 1975 = .ok (.goto 620, 3) := by decide +kernel
theorem dL_law__1978 : decode cL_law_ 1978 = .ok (.aload_n 1, 1) := by decide +kernel
theorem dL_law__1979 : decode cL_law_ 1979 = .ok (.invokevirtual 219, 3) := by decide +kernel
theorem dL_law__1982 : decode cL_law_ 1982 = .ok (.aload_n 2, 1) := by decide +kernel
theorem dL_law__1983 : decode cL_law_ 1983 = .ok (.invokevirtual 222, 3) := by decide +kernel
theorem dL_law__1986 : decode cL_law_ 1986 = .ok (.if_icmp .eq 609, 3) := by decide +kernel
theorem dL_law__1989 : decode cL_law_ 1989 = .ok (.iconst 0, 1) := by decide +kernel
theorem dL_law__1990 : decode cL_law_ 1990 = .ok (.ireturn, 1) := by decide +kernel
theorem dL_law__1991 : decode cL_law_ 1991 = .ok (.aload_n 1, 1) := by decide +kernel
theorem dL_law__1992 : decode cL_law_ 1992 = .ok (.invokevirtual 223, 3) := by decide +kernel
theorem dL_law__1995 : decode cL_law_ 1995 = .ok (.aload_n 2, 1) := by decide +kernel
theorem dL_law__1996 : decode cL_law_ 1996 = .ok (.invokevirtual 226, 3) := by decide +kernel
theorem dL_law__1999 : decode cL_law_ 1999 = .ok (.if_icmp .eq 596, 3) := by decide +kernel
theorem dL_law__2002 : decode cL_law_ 2002 = .ok (.iconst 0, 1) := by decide +kernel
theorem dL_law__2003 : decode cL_law_ 2003 = .ok (.ireturn, 1) := by decide +kernel
theorem dL_law__2004 : decode cL_law_ 2004 = .ok (.aload_n 1, 1) := by decide +kernel
theorem dL_law__2005 : decode cL_law_ 2005 = .ok (.aload_n 0, 1) := by decide +kernel
theorem dL_law__2006 : decode cL_law_ 2006 = .ok (.iload 4, 2) := by decide +kernel
theorem dL_law__2008 : decode cL_law_ 2008 = .ok (.iconst 1, 1) := by decide +kernel
theorem dL_law__2009 : decode cL_law_ 2009 = .ok (.iadd, 1) := by decide +kernel
theorem dL_law__2010 : decode cL_law_ 2010 = .ok (.iaload, 1) := by decide +kernel
theorem dL_law__2011 : decode cL_law_ 2011 = .ok (.aload_n 3, 1) := by decide +kernel
theorem dL_law__2012 : decode cL_law_ 2012 = .ok (.invokestatic 227, 3) := by decide +kernel
theorem dL_law__2015 : decode cL_law_ 2015 = .ok (.istore 5, 2) := by decide +kernel
theorem dL_law__2017 : decode cL_law_ 2017 = .ok (.aload_n 2, 1) := by decide +kernel
theorem dL_law__2018 : decode cL_law_ 2018 = .ok (.aload_n 0, 1) := by decide +kernel
theorem dL_law__2019 : decode cL_law_ 2019 = .ok (.iload 4, 2) := by decide +kernel
theorem dL_law__2021 : decode cL_law_ 2021 = .ok (.iconst 1, 1) := by decide +kernel
theorem dL_law__2022 : decode cL_law_ 2022 = .ok (.iadd, 1) := by decide +kernel
theorem dL_law__2023 : decode cL_law_ 2023 = .ok (.iaload, 1) := by decide +kernel
theorem dL_law__2024 : decode cL_law_ 2024 = .ok (.invokevirtual 229, 3) := by decide +kernel
theorem dL_law__2027 : decode cL_law_ 2027 = .ok (.istore 6, 2) := by decide +kernel
theorem dL_law__2029 : decode cL_law_ 2029 = .ok (.aload_n 2, 1) := by decide +kernel
theorem dL_law__2030 : decode cL_law_ 2030 = .ok (.invokevirtual 131, 3) := by decide +kernel
theorem dL_law__2033 : decode cL_law_ 2033 = .ok (.iload 5, 2) := by decide +kernel
theorem dL_law__2035 : decode cL_law_ 2035 = .ok (.if_icmp .eq 5, 3) := by decide +kernel
theorem dL_law__2038 : decode cL_law_ 2038 = .ok (.iconst 0, 1) := by decide +kernel
theorem dL_law__2039 : decode cL_law_ 2039 = .ok (.ireturn, 1) := by decide +kernel
theorem dL_law__2040 : decode cL_law_ 2040 = .ok (.iload 5, 2) := by decide +kernel
theorem dL_law__2042 : decode cL_law_ 2042 = .ok (.ifCond .ne 15, 3) := by decide +kernel
theorem dL_law__2045 : decode cL_law_ 2045 = .ok (.aload_n 3, 1) := by decide +kernel
theorem dL_law__2046 : decode cL_law_ 2046 = .ok (.iconst 0, 1) := by decide +kernel
theorem dL_law__2047 : decode cL_law_ 2047 = .ok (.laload, 1) := by decide +kernel
theorem dL_law__2048 : decode cL_law_ 2048 = .ok (.iload 6, 2) := by decide +kernel
theorem dL_law__2050 : decode cL_law_ 2050 = .ok (.i2l, 1) := by decide +kernel
theorem dL_law__2051 : decode cL_law_ 2051 = .ok (.lcmp, 1) := by decide +kernel
theorem dL_law__2052 : decode cL_law_ 2052 = .ok (.ifCond .eq 5, 3) := by decide +kernel
theorem dL_law__2055 : decode cL_law_ 2055 = .ok (.iconst 0, 1) := by decide +kernel
theorem dL_law__2056 : decode cL_law_ 2056 = .ok (.ireturn, 1) := by decide +kernel
theorem dL_law__2057 : decode cL_law_ 2057 = .ok (.goto 538, 3) := by decide +kernel
theorem dL_law__2060 : decode cL_law_ 2060 = .ok (.aload_n 1, 1) := by decide +kernel
theorem dL_law__2061 : decode cL_law_ 2061 = .ok (.invokevirtual 230, 3) := by decide +kernel
theorem dL_law__2064 : decode cL_law_ 2064 = .ok (.aload_n 2, 1) := by decide +kernel
theorem dL_law__2065 : decode cL_law_ 2065 = .ok (.invokevirtual 233, 3) := by decide +kernel
theorem dL_law__2068 : decode cL_law_ 2068 = .ok (.if_icmp .eq 527, 3) := by decide +kernel
theorem dL_law__2071 : decode cL_law_ 2071 = .ok (.iconst 0, 1) := by decide +kernel
theorem dL_law__2072 : decode cL_law_ 2072 = .ok (.ireturn, 1) := by decide +kernel
theorem dL_law__2073 : decode cL_law_ 2073 = .ok (.aload_n 1, 1) := by decide +kernel
theorem dL_law__2074 : decode cL_law_ 2074 = .ok (.aload_n 0, 1) := by decide +kernel
theorem dL_law__2075 : decode cL_law_ 2075 = .ok (.iload 4, 2) := by decide +kernel
theorem dL_law__2077 : decode cL_law_ 2077 = .ok (.iconst 1, 1) := by decide +kernel
theorem dL_law__2078 : decode cL_law_ 2078 = .ok (.iadd, 1) := by decide +kernel
theorem dL_law__2079 : decode cL_law_ 2079 = .ok (.iaload, 1) := by decide +kernel
theorem dL_law__2080 : decode cL_law_ 2080 = .ok (.aload_n 3, 1) := by decide +kernel
theorem dL_law__2081 : decode cL_law_ 2081 = .ok (.invokestatic 234, 3) := by decide +kernel
theorem dL_law__2084 : decode cL_law_ 2084 = .ok (.istore 5, 2) := by decide +kernel
theorem dL_law__2086 : decode cL_law_ 2086 = .ok (.aload_n 2, 1) := by decide +kernel
theorem dL_law__2087 : decode cL_law_ 2087 = .ok (.aload_n 0, 1) := by decide +kernel
theorem dL_law__2088 : decode cL_law_ 2088 = .ok (.iload 4, 2) := by decide +kernel
theorem dL_law__2090 : decode cL_law_ 2090 = .ok (.iconst 1, 1) := by decide +kernel
theorem dL_law__2091 : decode cL_law_ 2091 = .ok (.iadd, 1) := by decide +kernel
theorem dL_law__2092 : decode cL_law_ 2092 = .ok (.iaload, 1) := by decide +kernel
theorem dL_law__2093 : decode cL_law_ 2093 = .ok (.invokevirtual 236, 3) := by decide +kernel
theorem dL_law__2096 : decode cL_law_ 2096 = .ok (.istore 6, 2) := by decide +kernel
theorem dL_law__2098 : decode cL_law_ 2098 = .ok (.aload_n 2, 1) := by decide +kernel
theorem dL_law__2099 : decode cL_law_ 2099 = .ok (.invokevirtual 131, 3) := by decide +kernel
theorem dL_law__2102 : decode cL_law_ 2102 = .ok (.iload 5, 2) := by decide +kernel
theorem dL_law__2104 : decode cL_law_ 2104 = .ok (.if_icmp .eq 5, 3) := by decide +kernel
theorem dL_law__2107 : decode cL_law_ 2107 = .ok (.iconst 0, 1) := by decide +kernel
theorem dL_law__2108 : decode cL_law_ 2108 = .ok (.ireturn, 1) := by decide +kernel
theorem dL_law__2109 : decode cL_law_ 2109 = .ok (.iload 5, 2) := by decide +kernel
theorem dL_law__2111 : decode cL_law_ 2111 = .ok (.ifCond .ne 15, 3) := by decide +kernel
theorem dL_law__2114 : decode cL_law_ 2114 = .ok (.aload_n 3, 1) := by decide +kernel
theorem dL_law__2115 : decode cL_law_ 2115 = .ok (.iconst 0, 1) := by decide +kernel
theorem dL_law__2116 : decode cL_law_ 2116 = .ok (.laload, 1) := by decide +kernel
theorem dL_law__2117 : decode cL_law_ 2117 = .ok (.iload 6, 2) := by decide +kernel
theorem dL_law__2119 : decode cL_law_ 2119 = .ok (.i2l, 1) := by decide +kernel
theorem dL_law__2120 : decode cL_law_ 2120 = .ok (.lcmp, 1) := by decide +kernel
theorem dL_law__2121 : decode cL_law_ 2121 = .ok (.ifCond .eq 5, 3) := by decide +kernel
theorem dL_law__2124 : decode cL_law_ 2124 = .ok (.iconst 0, 1) := by decide +kernel
theorem dL_law__2125 : decode cL_law_ 2125 = .ok (.ireturn, 1) := by decide +kernel
theorem dL_law__2126 : decode cL_law_ 2126 = .ok (.goto 469, 3) := by decide +kernel
theorem dL_law__2129 : decode cL_law_ 2129 = .ok (.aload_n 1, 1) := by decide +kernel
theorem dL_law__2130 : decode cL_law_ 2130 = .ok (.aload_n 0, 1) := by decide +kernel
theorem dL_law__2131 : decode cL_law_ 2131 = .ok (.iload 4, 2) := by decide +kernel
theorem dL_law__2133 : decode cL_law_ 2133 = .ok (.iconst 1, 1) := by decide +kernel
theorem dL_law__2134 : decode cL_law_ 2134 = .ok (.iadd, 1) := by decide +kernel
theorem dL_law__2135 : decode cL_law_ 2135 = .ok (.iaload, 1) := by decide +kernel
theorem dL_law__2136 : decode cL_law_ 2136 = .ok (.aload_n 0, 1) := by decide +kernel
theorem dL_law__2137 : decode cL_law_ 2137 = .ok (.iload 4, 2) := by decide +kernel
theorem dL_law__2139 : decode cL_law_ 2139 = .ok (.iconst 2, 1) := by decide +kernel
theorem dL_law__2140 : decode cL_law_ 2140 = .ok (.iadd, 1) := by decide +kernel
theorem dL_law__2141 : decode cL_law_ 2141 = .ok (.iaload, 1) := by decide +kernel
theorem dL_law__2142 : decode cL_law_ 2142 = .ok (.aload_n 3, 1) := by decide +kernel
theorem dL_law__2143 : decode cL_law_ 2143 = .ok (.invokestatic 237, 3) := by decide +kernel
theorem dL_law__2146 : decode cL_law_ 2146 = .ok (.istore 5, 2) := by decide +kernel
theorem dL_law__2148 : decode cL_law_ 2148 = .ok (.aload_n 2, 1) := by decide +kernel
theorem dL_law__2149 : decode cL_law_ 2149 = .ok (.aload_n 0, 1) := by decide +kernel
theorem dL_law__2150 : decode cL_law_ 2150 = .ok (.iload 4, 2) := by decide +kernel
theorem dL_law__2152 : decode cL_law_ 2152 = .ok (.iconst 1, 1) := by decide +kernel
theorem dL_law__2153 : decode cL_law_ 2153 = .ok (.iadd, 1) := by decide +kernel
theorem dL_law__2154 : decode cL_law_ 2154 = .ok (.iaload, 1) := by decide +kernel
theorem dL_law__2155 : decode cL_law_ 2155 = .ok (.aload_n 0, 1) := by decide +kernel
theorem dL_law__2156 : decode cL_law_ 2156 = .ok (.iload 4, 2) := by decide +kernel
theorem dL_law__2158 : decode cL_law_ 2158 = .ok (.iconst 2, 1) := by decide +kernel
theorem dL_law__2159 : decode cL_law_ 2159 = .ok (.iadd, 1) := by decide +kernel
theorem dL_law__2160 : decode cL_law_ 2160 = .ok (.iaload, 1) := by decide +kernel
theorem dL_law__2161 : decode cL_law_ 2161 = .ok (.invokevirtual 239, 3) := by decide +kernel
theorem dL_law__2164 : decode cL_law_ 2164 = .ok (.istore 6, 2) := by decide +kernel
theorem dL_law__2166 : decode cL_law_ 2166 = .ok (.aload_n 2, 1) := by decide +kernel
theorem dL_law__2167 : decode cL_law_ 2167 = .ok (.invokevirtual 131, 3) := by decide +kernel
theorem dL_law__2170 : decode cL_law_ 2170 = .ok (.iload 5, 2) := by decide +kernel
theorem dL_law__2172 : decode cL_law_ 2172 = .ok (.if_icmp .eq 5, 3) := by decide +kernel
theorem dL_law__2175 : decode cL_law_ 2175 = .ok (.iconst 0, 1) := by decide +kernel
theorem dL_law__2176 : decode cL_law_ 2176 = .ok (.ireturn, 1) := by decide +kernel
theorem dL_law__2177 : decode cL_law_ 2177 = .ok (.iload 5, 2) := by decide +kernel
theorem dL_law__2179 : decode cL_law_ 2179 = .ok (.ifCond .ne 15, 3) := by decide +kernel
theorem dL_law__2182 : decode cL_law_ 2182 = .ok (.aload_n 3, 1) := by decide +kernel
theorem dL_law__2183 : decode cL_law_ 2183 = .ok (.iconst 0, 1) := by decide +kernel
theorem dL_law__2184 : decode cL_law_ 2184 = .ok (.laload, 1) := by decide +kernel
theorem dL_law__2185 : decode cL_law_ 2185 = .ok (.iload 6, 2) := by decide +kernel
theorem dL_law__2187 : decode cL_law_ 2187 = .ok (.i2l, 1) := by decide +kernel
theorem dL_law__2188 : decode cL_law_ 2188 = .ok (.lcmp, 1) := by decide +kernel
theorem dL_law__2189 : decode cL_law_ 2189 = .ok (.ifCond .eq 5, 3) := by decide +kernel
theorem dL_law__2192 : decode cL_law_ 2192 = .ok (.iconst 0, 1) := by decide +kernel
theorem dL_law__2193 : decode cL_law_ 2193 = .ok (.ireturn, 1) := by decide +kernel
theorem dL_law__2194 : decode cL_law_ 2194 = .ok (.goto 401, 3) := by decide +kernel
theorem dL_law__2197 : decode cL_law_ 2197 = .ok (.aload_n 1, 1) := by decide +kernel
theorem dL_law__2198 : decode cL_law_ 2198 = .ok (.aload_n 0, 1) := by decide +kernel
theorem dL_law__2199 : decode cL_law_ 2199 = .ok (.iload 4, 2) := by decide +kernel
theorem dL_law__2201 : decode cL_law_ 2201 = .ok (.iconst 1, 1) := by decide +kernel
theorem dL_law__2202 : decode cL_law_ 2202 = .ok (.iadd, 1) := by decide +kernel
theorem dL_law__2203 : decode cL_law_ 2203 = .ok (.iaload, 1) := by decide +kernel
theorem dL_law__2204 : decode cL_law_ 2204 = .ok (.aload_n 3, 1) := by decide +kernel
theorem dL_law__2205 : decode cL_law_ 2205 = .ok (.invokestatic 240, 3) := by decide +kernel
theorem dL_law__2208 : decode cL_law_ 2208 = .ok (.istore 5, 2) := by decide +kernel
theorem dL_law__2210 : decode cL_law_ 2210 = .ok (.aload_n 2, 1) := by decide +kernel
theorem dL_law__2211 : decode cL_law_ 2211 = .ok (.aload_n 0, 1) := by decide +kernel
theorem dL_law__2212 : decode cL_law_ 2212 = .ok (.iload 4, 2) := by decide +kernel
theorem dL_law__2214 : decode cL_law_ 2214 = .ok (.iconst 1, 1) := by decide +kernel
theorem dL_law__2215 : decode cL_law_ 2215 = .ok (.iadd, 1) := by decide +kernel
theorem dL_law__2216 : decode cL_law_ 2216 = .ok (.iaload, 1) := by decide +kernel
theorem dL_law__2217 : decode cL_law_ 2217 = .ok (.invokevirtual 242, 3) := by decide +kernel
theorem dL_law__2220 : decode cL_law_ 2220 = .ok (.istore 6, 2) := by decide +kernel
theorem dL_law__2222 : decode cL_law_ 2222 = .ok (.aload_n 2, 1) := by decide +kernel
theorem dL_law__2223 : decode cL_law_ 2223 = .ok (.invokevirtual 131, 3) := by decide +kernel
theorem dL_law__2226 : decode cL_law_ 2226 = .ok (.iload 5, 2) := by decide +kernel
theorem dL_law__2228 : decode cL_law_ 2228 = .ok (.if_icmp .eq 5, 3) := by decide +kernel
theorem dL_law__2231 : decode cL_law_ 2231 = .ok (.iconst 0, 1) := by decide +kernel
theorem dL_law__2232 : decode cL_law_ 2232 = .ok (.ireturn, 1) := by decide +kernel
theorem dL_law__2233 : decode cL_law_ 2233 = .ok (.iload 5, 2) := by decide +kernel
theorem dL_law__2235 : decode cL_law_ 2235 = .ok (.ifCond .ne 15, 3) := by decide +kernel
theorem dL_law__2238 : decode cL_law_ 2238 = .ok (.aload_n 3, 1) := by decide +kernel
theorem dL_law__2239 : decode cL_law_ 2239 = .ok (.iconst 0, 1) := by decide +kernel
theorem dL_law__2240 : decode cL_law_ 2240 = .ok (.laload, 1) := by decide +kernel
theorem dL_law__2241 : decode cL_law_ 2241 = .ok (.iload 6, 2) := by decide +kernel
theorem dL_law__2243 : decode cL_law_ 2243 = .ok (.i2l, 1) := by decide +kernel
theorem dL_law__2244 : decode cL_law_ 2244 = .ok (.lcmp, 1) := by decide +kernel
theorem dL_law__2245 : decode cL_law_ 2245 = .ok (.ifCond .eq 5, 3) := by decide +kernel
theorem dL_law__2248 : decode cL_law_ 2248 = .ok (.iconst 0, 1) := by decide +kernel
theorem dL_law__2249 : decode cL_law_ 2249 = .ok (.ireturn, 1) := by decide +kernel
theorem dL_law__2250 : decode cL_law_ 2250 = .ok (.goto 345, 3) := by decide +kernel
theorem dL_law__2253 : decode cL_law_ 2253 = .ok (.aload_n 1, 1) := by decide +kernel
theorem dL_law__2254 : decode cL_law_ 2254 = .ok (.aload_n 0, 1) := by decide +kernel
theorem dL_law__2255 : decode cL_law_ 2255 = .ok (.iload 4, 2) := by decide +kernel
theorem dL_law__2257 : decode cL_law_ 2257 = .ok (.iconst 1, 1) := by decide +kernel
theorem dL_law__2258 : decode cL_law_ 2258 = .ok (.iadd, 1) := by decide +kernel
theorem dL_law__2259 : decode cL_law_ 2259 = .ok (.iaload, 1) := by decide +kernel
theorem dL_law__2260 : decode cL_law_ 2260 = .ok (.aload_n 3, 1) := by decide +kernel
theorem dL_law__2261 : decode cL_law_ 2261 = .ok (.invokestatic 243, 3) := by decide +kernel
theorem dL_law__2264 : decode cL_law_ 2264 = .ok (.istore 5, 2) := by decide +kernel
theorem dL_law__2266 : decode cL_law_ 2266 = .ok (.aload_n 2, 1) := by decide +kernel
theorem dL_law__2267 : decode cL_law_ 2267 = .ok (.aload_n 0, 1) := by decide +kernel
theorem dL_law__2268 : decode cL_law_ 2268 = .ok (.iload 4, 2) := by decide +kernel
theorem dL_law__2270 : decode cL_law_ 2270 = .ok (.iconst 1, 1) := by decide +kernel
theorem dL_law__2271 : decode cL_law_ 2271 = .ok (.iadd, 1) := by decide +kernel
theorem dL_law__2272 : decode cL_law_ 2272 = .ok (.iaload, 1) := by decide +kernel
theorem dL_law__2273 : decode cL_law_ 2273 = .ok (.invokevirtual 245, 3) := by decide +kernel
theorem dL_law__2276 : decode cL_law_ 2276 = .ok (.istore 6, 2) := by decide +kernel
theorem dL_law__2278 : decode cL_law_ 2278 = .ok (.aload_n 2, 1) := by decide +kernel
theorem dL_law__2279 : decode cL_law_ 2279 = .ok (.invokevirtual 131, 3) := by decide +kernel
theorem dL_law__2282 : decode cL_law_ 2282 = .ok (.iload 5, 2) := by decide +kernel
theorem dL_law__2284 : decode cL_law_ 2284 = .ok (.if_icmp .eq 5, 3) := by decide +kernel
theorem dL_law__2287 : decode cL_law_ 2287 = .ok (.iconst 0, 1) := by decide +kernel
theorem dL_law__2288 : decode cL_law_ 2288 = .ok (.ireturn, 1) := by decide +kernel
theorem dL_law__2289 : decode cL_law_ 2289 = .ok (.iload 5, 2) := by decide +kernel
theorem dL_law__2291 : decode cL_law_ 2291 = .ok (.ifCond .ne 15, 3) := by decide +kernel
theorem dL_law__2294 : decode cL_law_ 2294 = .ok (.aload_n 3, 1) := by decide +kernel
theorem dL_law__2295 : decode cL_law_ 2295 = .ok (.iconst 0, 1) := by decide +kernel
theorem dL_law__2296 : decode cL_law_ 2296 = .ok (.laload, 1) := by decide +kernel
theorem dL_law__2297 : decode cL_law_ 2297 = .ok (.iload 6, 2) := by decide +kernel
theorem dL_law__2299 : decode cL_law_ 2299 = .ok (.i2l, 1) := by decide +kernel
theorem dL_law__2300 : decode cL_law_ 2300 = .ok (.lcmp, 1) := by decide +kernel
theorem dL_law__2301 : decode cL_law_ 2301 = .ok (.ifCond .eq 5, 3) := by decide +kernel
theorem dL_law__2304 : decode cL_law_ 2304 = .ok (.iconst 0, 1) := by decide +kernel
theorem dL_law__2305 : decode cL_law_ 2305 = .ok (.ireturn, 1) := by decide +kernel
theorem dL_law__2306 : decode cL_law_ 2306 = .ok (.goto 289, 3) := by decide +kernel
theorem dL_law__2309 : decode cL_law_ 2309 = .ok (.aload_n 1, 1) := by decide +kernel
theorem dL_law__2310 : decode cL_law_ 2310 = .ok (.aload_n 0, 1) := by decide +kernel
theorem dL_law__2311 : decode cL_law_ 2311 = .ok (.iload 4, 2) := by decide +kernel
theorem dL_law__2313 : decode cL_law_ 2313 = .ok (.iconst 1, 1) := by decide +kernel
theorem dL_law__2314 : decode cL_law_ 2314 = .ok (.iadd, 1) := by decide +kernel
theorem dL_law__2315 : decode cL_law_ 2315 = .ok (.iaload, 1) := by decide +kernel
theorem dL_law__2316 : decode cL_law_ 2316 = .ok (.aload_n 0, 1) := by decide +kernel
theorem dL_law__2317 : decode cL_law_ 2317 = .ok (.iload 4, 2) := by decide +kernel
theorem dL_law__2319 : decode cL_law_ 2319 = .ok (.iconst 2, 1) := by decide +kernel
theorem dL_law__2320 : decode cL_law_ 2320 = .ok (.iadd, 1) := by decide +kernel
theorem dL_law__2321 : decode cL_law_ 2321 = .ok (.iaload, 1) := by decide +kernel
theorem dL_law__2322 : decode cL_law_ 2322 = .ok (.aload_n 0, 1) := by decide +kernel
theorem dL_law__2323 : decode cL_law_ 2323 = .ok (.iload 4, 2) := by decide +kernel
theorem dL_law__2325 : decode cL_law_ 2325 = .ok (.iconst 3, 1) := by decide +kernel
theorem dL_law__2326 : decode cL_law_ 2326 = .ok (.iadd, 1) := by decide +kernel
theorem dL_law__2327 : decode cL_law_ 2327 = .ok (.iaload, 1) := by decide +kernel
theorem dL_law__2328 : decode cL_law_ 2328 = .ok (.aload_n 0, 1) := by decide +kernel
theorem dL_law__2329 : decode cL_law_ 2329 = .ok (.iload 4, 2) := by decide +kernel
theorem dL_law__2331 : decode cL_law_ 2331 = .ok (.iconst 4, 1) := by decide +kernel
theorem dL_law__2332 : decode cL_law_ 2332 = .ok (.iadd, 1) := by decide +kernel
theorem dL_law__2333 : decode cL_law_ 2333 = .ok (.iaload, 1) := by decide +kernel
theorem dL_law__2334 : decode cL_law_ 2334 = .ok (.aload_n 3, 1) := by decide +kernel
theorem dL_law__2335 : decode cL_law_ 2335 = .ok (.invokestatic 246, 3) := by decide +kernel
theorem dL_law__2338 : decode cL_law_ 2338 = .ok (.istore 5, 2) := by decide +kernel
theorem dL_law__2340 : decode cL_law_ 2340 = .ok (.aload_n 2, 1) := by decide +kernel
theorem dL_law__2341 : decode cL_law_ 2341 = .ok (.aload_n 0, 1) := by decide +kernel
theorem dL_law__2342 : decode cL_law_ 2342 = .ok (.iload 4, 2) := by decide +kernel
theorem dL_law__2344 : decode cL_law_ 2344 = .ok (.iconst 1, 1) := by decide +kernel
theorem dL_law__2345 : decode cL_law_ 2345 = .ok (.iadd, 1) := by decide +kernel
theorem dL_law__2346 : decode cL_law_ 2346 = .ok (.iaload, 1) := by decide +kernel
theorem dL_law__2347 : decode cL_law_ 2347 = .ok (.aload_n 0, 1) := by decide +kernel
theorem dL_law__2348 : decode cL_law_ 2348 = .ok (.iload 4, 2) := by decide +kernel
theorem dL_law__2350 : decode cL_law_ 2350 = .ok (.iconst 2, 1) := by decide +kernel
theorem dL_law__2351 : decode cL_law_ 2351 = .ok (.iadd, 1) := by decide +kernel
theorem dL_law__2352 : decode cL_law_ 2352 = .ok (.iaload, 1) := by decide +kernel
theorem dL_law__2353 : decode cL_law_ 2353 = .ok (.aload_n 0, 1) := by decide +kernel
theorem dL_law__2354 : decode cL_law_ 2354 = .ok (.iload 4, 2) := by decide +kernel
theorem dL_law__2356 : decode cL_law_ 2356 = .ok (.iconst 3, 1) := by decide +kernel
theorem dL_law__2357 : decode cL_law_ 2357 = .ok (.iadd, 1) := by decide +kernel
theorem dL_law__2358 : decode cL_law_ 2358 = .ok (.iaload, 1) := by decide +kernel
theorem dL_law__2359 : decode cL_law_ 2359 = .ok (.aload_n 0, 1) := by decide +kernel
theorem dL_law__2360 : decode cL_law_ 2360 = .ok (.iload 4, 2) := by decide +kernel
theorem dL_law__2362 : decode cL_law_ 2362 = .ok (.iconst 4, 1) := by decide +kernel
theorem dL_law__2363 : decode cL_law_ 2363 = .ok (.iadd, 1) := by decide +kernel
theorem dL_law__2364 : decode cL_law_ 2364 = .ok (.iaload, 1) := by decide +kernel
theorem dL_law__2365 : decode cL_law_ 2365 = .ok (.invokevirtual 248, 3) := by decide +kernel
theorem dL_law__2368 : decode cL_law_ 2368 = .ok (.istore 6, 2) := by decide +kernel
theorem dL_law__2370 : decode cL_law_ 2370 = .ok (.aload_n 2, 1) := by decide +kernel
theorem dL_law__2371 : decode cL_law_ 2371 = .ok (.invokevirtual 131, 3) := by decide +kernel
theorem dL_law__2374 : decode cL_law_ 2374 = .ok (.iload 5, 2) := by decide +kernel
theorem dL_law__2376 : decode cL_law_ 2376 = .ok (.if_icmp .eq 5, 3) := by decide +kernel
theorem dL_law__2379 : decode cL_law_ 2379 = .ok (.iconst 0, 1) := by decide +kernel
theorem dL_law__2380 : decode cL_law_ 2380 = .ok (.ireturn, 1) := by decide +kernel
theorem dL_law__2381 : decode cL_law_ 2381 = .ok (.iload 5, 2) := by decide +kernel
theorem dL_law__2383 : decode cL_law_ 2383 = .ok (.ifCond .ne 15, 3) := by decide +kernel
theorem dL_law__2386 : decode cL_law_ 2386 = .ok (.aload_n 3, 1) := by decide +kernel
theorem dL_law__2387 : decode cL_law_ 2387 = .ok (.iconst 0, 1) := by decide +kernel
theorem dL_law__2388 : decode cL_law_ 2388 = .ok (.laload, 1) := by decide +kernel
theorem dL_law__2389 : decode cL_law_ 2389 = .ok (.iload 6, 2) := by decide +kernel
theorem dL_law__2391 : decode cL_law_ 2391 = .ok (.i2l, 1) := by decide +kernel
theorem dL_law__2392 : decode cL_law_ 2392 = .ok (.lcmp, 1) := by decide +kernel
theorem dL_law__2393 : decode cL_law_ 2393 = .ok (.ifCond .eq 5, 3) := by decide +kernel
theorem dL_law__2396 : decode cL_law_ 2396 = .ok (.iconst 0, 1) := by decide +kernel
theorem dL_law__2397 : decode cL_law_ 2397 = .ok (.ireturn, 1) := by decide +kernel
theorem dL_law__2398 : decode cL_law_ 2398 = .ok (.goto 197, 3) := by decide +kernel
theorem dL_law__2401 : decode cL_law_ 2401 = .ok (.aload_n 1, 1) := by decide +kernel
theorem dL_law__2402 : decode cL_law_ 2402 = .ok (.aload_n 0, 1) := by decide +kernel
theorem dL_law__2403 : decode cL_law_ 2403 = .ok (.iload 4, 2) := by decide +kernel
theorem dL_law__2405 : decode cL_law_ 2405 = .ok (.iconst 1, 1) := by decide +kernel
theorem dL_law__2406 : decode cL_law_ 2406 = .ok (.iadd, 1) := by decide +kernel
theorem dL_law__2407 : decode cL_law_ 2407 = .ok (.iaload, 1) := by decide +kernel
theorem dL_law__2408 : decode cL_law_ 2408 = .ok (.aload_n 0, 1) := by decide +kernel
theorem dL_law__2409 : decode cL_law_ 2409 = .ok (.iload 4, 2) := by decide +kernel
theorem dL_law__2411 : decode cL_law_ 2411 = .ok (.iconst 2, 1) := by decide +kernel
theorem dL_law__2412 : decode cL_law_ 2412 = .ok (.iadd, 1) := by decide +kernel
theorem dL_law__2413 : decode cL_law_ 2413 = .ok (.iaload, 1) := by decide +kernel
theorem dL_law__2414 : decode cL_law_ 2414 = .ok (.aload_n 0, 1) := by decide +kernel
theorem dL_law__2415 : decode cL_law_ 2415 = .ok (.iload 4, 2) := by decide +kernel
theorem dL_law__2417 : decode cL_law_ 2417 = .ok (.iconst 3, 1) := by decide +kernel
theorem dL_law__2418 : decode cL_law_ 2418 = .ok (.iadd, 1) := by decide +kernel
theorem dL_law__2419 : decode cL_law_ 2419 = .ok (.iaload, 1) := by decide +kernel
theorem dL_law__2420 : decode cL_law_ 2420 = .ok (.aload_n 0, 1) := by decide +kernel
theorem dL_law__2421 : decode cL_law_ 2421 = .ok (.iload 4, 2) := by decide +kernel
theorem dL_law__2423 : decode cL_law_ 2423 = .ok (.iconst 4, 1) := by decide +kernel
theorem dL_law__2424 : decode cL_law_ 2424 = .ok (.iadd, 1) := by decide +kernel
theorem dL_law__2425 : decode cL_law_ 2425 = .ok (.iaload, 1) := by decide +kernel
theorem dL_law__2426 : decode cL_law_ 2426 = .ok (.aload_n 0, 1) := by decide +kernel
theorem dL_law__2427 : decode cL_law_ 2427 = .ok (.iload 4, 2) := by decide +kernel
theorem dL_law__2429 : decode cL_law_ 2429 = .ok (.iconst 5, 1) := by decide +kernel
theorem dL_law__2430 : decode cL_law_ 2430 = .ok (.iadd, 1) := by decide +kernel
theorem dL_law__2431 : decode cL_law_ 2431 = .ok (.iaload, 1) := by decide +kernel
theorem dL_law__2432 : decode cL_law_ 2432 = .ok (.aload_n 0, 1) := by decide +kernel
theorem dL_law__2433 : decode cL_law_ 2433 = .ok (.iload 4, 2) := by decide +kernel
theorem dL_law__2435 : decode cL_law_ 2435 = .ok (.bipush 6, 2) := by decide +kernel
theorem dL_law__2437 : decode cL_law_ 2437 = .ok (.iadd, 1) := by decide +kernel
theorem dL_law__2438 : decode cL_law_ 2438 = .ok (.iaload, 1) := by decide +kernel
theorem dL_law__2439 : decode cL_law_ 2439 = .ok (.aload_n 3, 1) := by decide +kernel
theorem dL_law__2440 : decode cL_law_ 2440 = .ok (.invokestatic 249, 3) := by decide +kernel
theorem dL_law__2443 : decode cL_law_ 2443 = .ok (.istore 5, 2) := by decide +kernel
theorem dL_law__2445 : decode cL_law_ 2445 = .ok (.aload_n 2, 1) := by decide +kernel
theorem dL_law__2446 : decode cL_law_ 2446 = .ok (.aload_n 0, 1) := by decide +kernel
theorem dL_law__2447 : decode cL_law_ 2447 = .ok (.iload 4, 2) := by decide +kernel
theorem dL_law__2449 : decode cL_law_ 2449 = .ok (.iconst 1, 1) := by decide +kernel
theorem dL_law__2450 : decode cL_law_ 2450 = .ok (.iadd, 1) := by decide +kernel
theorem dL_law__2451 : decode cL_law_ 2451 = .ok (.iaload, 1) := by decide +kernel
theorem dL_law__2452 : decode cL_law_ 2452 = .ok (.aload_n 0, 1) := by decide +kernel
theorem dL_law__2453 : decode cL_law_ 2453 = .ok (.iload 4, 2) := by decide +kernel
theorem dL_law__2455 : decode cL_law_ 2455 = .ok (.iconst 2, 1) := by decide +kernel
theorem dL_law__2456 : decode cL_law_ 2456 = .ok (.iadd, 1) := by decide +kernel
theorem dL_law__2457 : decode cL_law_ 2457 = .ok (.iaload, 1) := by decide +kernel
theorem dL_law__2458 : decode cL_law_ 2458 = .ok (.aload_n 0, 1) := by decide +kernel
theorem dL_law__2459 : decode cL_law_ 2459 = .ok (.iload 4, 2) := by decide +kernel
theorem dL_law__2461 : decode cL_law_ 2461 = .ok (.iconst 3, 1) := by decide +kernel
theorem dL_law__2462 : decode cL_law_ 2462 = .ok (.iadd, 1) := by decide +kernel
theorem dL_law__2463 : decode cL_law_ 2463 = .ok (.iaload, 1) := by decide +kernel
theorem dL_law__2464 : decode cL_law_ 2464 = .ok (.aload_n 0, 1) := by decide +kernel
theorem dL_law__2465 : decode cL_law_ 2465 = .ok (.iload 4, 2) := by decide +kernel
theorem dL_law__2467 : decode cL_law_ 2467 = .ok (.iconst 4, 1) := by decide +kernel
theorem dL_law__2468 : decode cL_law_ 2468 = .ok (.iadd, 1) := by decide +kernel
theorem dL_law__2469 : decode cL_law_ 2469 = .ok (.iaload, 1) := by decide +kernel
theorem dL_law__2470 : decode cL_law_ 2470 = .ok (.aload_n 0, 1) := by decide +kernel
theorem dL_law__2471 : decode cL_law_ 2471 = .ok (.iload 4, 2) := by decide +kernel
theorem dL_law__2473 : decode cL_law_ 2473 = .ok (.iconst 5, 1) := by decide +kernel
theorem dL_law__2474 : decode cL_law_ 2474 = .ok (.iadd, 1) := by decide +kernel
theorem dL_law__2475 : decode cL_law_ 2475 = .ok (.iaload, 1) := by decide +kernel
theorem dL_law__2476 : decode cL_law_ 2476 = .ok (.aload_n 0, 1) := by decide +kernel
theorem dL_law__2477 : decode cL_law_ 2477 = .ok (.iload 4, 2) := by decide +kernel
theorem dL_law__2479 : decode cL_law_ 2479 = .ok (.bipush 6, 2) := by decide +kernel
theorem dL_law__2481 : decode cL_law_ 2481 = .ok (.iadd, 1) := by decide +kernel
theorem dL_law__2482 : decode cL_law_ 2482 = .ok (.iaload, 1) := by decide +kernel
theorem dL_law__2483 : decode cL_law_ 2483 = .ok (.invokevirtual 252, 3) := by decide +kernel
theorem dL_law__2486 : decode cL_law_ 2486 = .ok (.istore 6, 2) := by decide +kernel
theorem dL_law__2488 : decode cL_law_ 2488 = .ok (.aload_n 2, 1) := by decide +kernel
theorem dL_law__2489 : decode cL_law_ 2489 = .ok (.invokevirtual 131, 3) := by decide +kernel
theorem dL_law__2492 : decode cL_law_ 2492 = .ok (.iload 5, 2) := by decide +kernel
theorem dL_law__2494 : decode cL_law_ 2494 = .ok (.if_icmp .eq 5, 3) := by decide +kernel
theorem dL_law__2497 : decode cL_law_ 2497 = .ok (.iconst 0, 1) := by decide +kernel
theorem dL_law__2498 : decode cL_law_ 2498 = .ok (.ireturn, 1) := by decide +kernel
theorem dL_law__2499 : decode cL_law_ 2499 = .ok (.iload 5, 2) := by decide +kernel
theorem dL_law__2501 : decode cL_law_ 2501 = .ok (.ifCond .ne 15, 3) := by decide +kernel
theorem dL_law__2504 : decode cL_law_ 2504 = .ok (.aload_n 3, 1) := by decide +kernel
theorem dL_law__2505 : decode cL_law_ 2505 = .ok (.iconst 0, 1) := by decide +kernel
theorem dL_law__2506 : decode cL_law_ 2506 = .ok (.laload, 1) := by decide +kernel
theorem dL_law__2507 : decode cL_law_ 2507 = .ok (.iload 6, 2) := by decide +kernel
theorem dL_law__2509 : decode cL_law_ 2509 = .ok (.i2l, 1) := by decide +kernel
theorem dL_law__2510 : decode cL_law_ 2510 = .ok (.lcmp, 1) := by decide +kernel
theorem dL_law__2511 : decode cL_law_ 2511 = .ok (.ifCond .eq 5, 3) := by decide +kernel
theorem dL_law__2514 : decode cL_law_ 2514 = .ok (.iconst 0, 1) := by decide +kernel
theorem dL_law__2515 : decode cL_law_ 2515 = .ok (.ireturn, 1) := by decide +kernel
theorem dL_law__2516 : decode cL_law_ 2516 = .ok (.goto 79, 3) := by decide +kernel
theorem dL_law__2519 : decode cL_law_ 2519 = .ok (.aload_n 1, 1) := by decide +kernel
theorem dL_law__2520 : decode cL_law_ 2520 = .ok (.invokevirtual 253, 3) := by decide +kernel
theorem dL_law__2523 : decode cL_law_ 2523 = .ok (.aload_n 2, 1) := by decide +kernel
theorem dL_law__2524 : decode cL_law_ 2524 = .ok (.invokevirtual 256, 3) := by decide +kernel
theorem dL_law__2527 : decode cL_law_ 2527 = .ok (.if_icmp .eq 68, 3) := by decide +kernel
theorem dL_law__2530 : decode cL_law_ 2530 = .ok (.iconst 0, 1) := by decide +kernel
theorem dL_law__2531 : decode cL_law_ 2531 = .ok (.ireturn, 1) := by decide +kernel
theorem dL_law__2532 : decode cL_law_ 2532 = .ok (.aload_n 1, 1) := by decide +kernel
theorem dL_law__2533 : decode cL_law_ 2533 = .ok (.invokevirtual 257, 3) := by decide +kernel
theorem dL_law__2536 : decode cL_law_ 2536 = .ok (.aload_n 2, 1) := by decide +kernel
theorem dL_law__2537 : decode cL_law_ 2537 = .ok (.invokevirtual 260, 3) := by decide +kernel
theorem dL_law__2540 : decode cL_law_ 2540 = .ok (.if_icmp .eq 55, 3) := by decide +kernel
theorem dL_law__2543 : decode cL_law_ 2543 = .ok (.iconst 0, 1) := by decide +kernel
theorem dL_law__2544 : decode cL_law_ 2544 = .ok (.ireturn, 1) := by decide +kernel
theorem dL_law__2545 : decode cL_law_ 2545 = .ok (.aload_n 1, 1) := by decide +kernel
theorem dL_law__2546 : decode cL_law_ 2546 = .ok (.aload_n 0, 1) := by decide +kernel
theorem dL_law__2547 : decode cL_law_ 2547 = .ok (.iload 4, 2) := by decide +kernel
theorem dL_law__2549 : decode cL_law_ 2549 = .ok (.iconst 1, 1) := by decide +kernel
theorem dL_law__2550 : decode cL_law_ 2550 = .ok (.iadd, 1) := by decide +kernel
theorem dL_law__2551 : decode cL_law_ 2551 = .ok (.iaload, 1) := by decide +kernel
theorem dL_law__2552 : decode cL_law_ 2552 = .ok (.invokevirtual 261, 3) := by decide +kernel
theorem dL_law__2555 : decode cL_law_ 2555 = .ok (.aload_n 2, 1) := by decide +kernel
theorem dL_law__2556 : decode cL_law_ 2556 = .ok (.aload_n 0, 1) := by decide +kernel
theorem dL_law__2557 : decode cL_law_ 2557 = .ok (.iload 4, 2) := by decide +kernel
theorem dL_law__2559 : decode cL_law_ 2559 = .ok (.iconst 1, 1) := by decide +kernel
theorem dL_law__2560 : decode cL_law_ 2560 = .ok (.iadd, 1) := by decide +kernel
theorem dL_law__2561 : decode cL_law_ 2561 = .ok (.iaload, 1) := by decide +kernel
theorem dL_law__2562 : decode cL_law_ 2562 = .ok (.invokevirtual 264, 3) := by decide +kernel
theorem dL_law__2565 : decode cL_law_ 2565 = .ok (.if_icmp .eq 30, 3) := by decide +kernel
theorem dL_law__2568 : decode cL_law_ 2568 = .ok (.iconst 0, 1) := by decide +kernel
theorem dL_law__2569 : decode cL_law_ 2569 = .ok (.ireturn, 1) := by decide +kernel
theorem dL_law__2570 : decode cL_law_ 2570 = .ok (.aload_n 1, 1) := by decide +kernel
theorem dL_law__2571 : decode cL_law_ 2571 = .ok (.aload_n 0, 1) := by decide +kernel
theorem dL_law__2572 : decode cL_law_ 2572 = .ok (.iload 4, 2) := by decide +kernel
theorem dL_law__2574 : decode cL_law_ 2574 = .ok (.iconst 1, 1) := by decide +kernel
theorem dL_law__2575 : decode cL_law_ 2575 = .ok (.iadd, 1) := by decide +kernel
theorem dL_law__2576 : decode cL_law_ 2576 = .ok (.iaload, 1) := by decide +kernel
theorem dL_law__2577 : decode cL_law_ 2577 = .ok (.invokevirtual 265, 3) := by decide +kernel
theorem dL_law__2580 : decode cL_law_ 2580 = .ok (.aload_n 2, 1) := by decide +kernel
theorem dL_law__2581 : decode cL_law_ 2581 = .ok (.aload_n 0, 1) := by decide +kernel
theorem dL_law__2582 : decode cL_law_ 2582 = .ok (.iload 4, 2) := by decide +kernel
theorem dL_law__2584 : decode cL_law_ 2584 = .ok (.iconst 1, 1) := by decide +kernel
theorem dL_law__2585 : decode cL_law_ 2585 = .ok (.iadd, 1) := by decide +kernel
theorem dL_law__2586 : decode cL_law_ 2586 = .ok (.iaload, 1) := by decide +kernel
theorem dL_law__2587 : decode cL_law_ 2587 = .ok (.invokevirtual 268, 3) := by decide +kernel
theorem dL_law__2590 : decode cL_law_ 2590 = .ok (.if_icmp .eq 5, 3) := by decide +kernel
theorem dL_law__2593 : decode cL_law_ 2593 = .ok (.iconst 0, 1) := by decide +kernel
theorem dL_law__2594 : decode cL_law_ 2594 = .ok (.ireturn, 1) := by decide +kernel
theorem dL_law__2595 : decode cL_law_ 2595 = .ok (.iinc 4 8, 3) := by decide +kernel
theorem dL_law__2598 : decode cL_law_ 2598 = .ok (.goto (-2575), 3) := by decide +kernel
theorem dL_law__2601 : decode cL_law_ 2601 = .ok (.iconst 1, 1) := by decide +kernel
theorem dL_law__2602 : decode cL_law_ 2602 = .ok (.ireturn, 1) := by decide +kernel

theorem dL_city_0 : decode cL_city 0 = .ok (.aload_n 2, 1) := by decide +kernel
theorem dL_city_1 : decode cL_city 1 = .ok (.iconst 0, 1) := by decide +kernel
theorem dL_city_2 : decode cL_city 2 = .ok (.aload_n 0, 1) := by decide +kernel
theorem dL_city_3 : decode cL_city 3 = .ok (.iload_n 1, 1) := by decide +kernel
theorem dL_city_4 : decode cL_city 4 = .ok (.invokevirtual 7, 3) := by decide +kernel
theorem dL_city_7 : decode cL_city 7 = .ok (.i2l, 1) := by decide +kernel
theorem dL_city_8 : decode cL_city 8 = .ok (.lastore, 1) := by decide +kernel
theorem dL_city_9 : decode cL_city 9 = .ok (.goto 6, 3) := by decide +kernel
theorem dL_city_12 : decode cL_city 12 = .ok (.astore_n 3, 1) := by decide +kernel
theorem dL_city_13 : decode cL_city 13 = .ok (.iconst 1, 1) := by decide +kernel
theorem dL_city_14 : decode cL_city 14 = .ok (.ireturn, 1) := by decide +kernel
theorem dL_city_15 : decode cL_city 15 = .ok (.iconst 0, 1) := by decide +kernel
theorem dL_city_16 : decode cL_city 16 = .ok (.ireturn, 1) := by decide +kernel
theorem dL_count_0 : decode cL_count 0 = .ok (.aload_n 2, 1) := by decide +kernel
theorem dL_count_1 : decode cL_count 1 = .ok (.iconst 0, 1) := by decide +kernel
theorem dL_count_2 : decode cL_count 2 = .ok (.aload_n 0, 1) := by decide +kernel
theorem dL_count_3 : decode cL_count 3 = .ok (.iload_n 1, 1) := by decide +kernel
theorem dL_count_4 : decode cL_count 4 = .ok (.invokevirtual 15, 3) := by decide +kernel
theorem dL_count_7 : decode cL_count 7 = .ok (.i2l, 1) := by decide +kernel
theorem dL_count_8 : decode cL_count 8 = .ok (.lastore, 1) := by decide +kernel
theorem dL_count_9 : decode cL_count 9 = .ok (.goto 6, 3) := by decide +kernel
theorem dL_count_12 : decode cL_count 12 = .ok (.astore_n 3, 1) := by decide +kernel
theorem dL_count_13 : decode cL_count 13 = .ok (.iconst 1, 1) := by decide +kernel
theorem dL_count_14 : decode cL_count 14 = .ok (.ireturn, 1) := by decide +kernel
theorem dL_count_15 : decode cL_count 15 = .ok (.iconst 0, 1) := by decide +kernel
theorem dL_count_16 : decode cL_count 16 = .ok (.ireturn, 1) := by decide +kernel
theorem dL_box_0 : decode cL_box 0 = .ok (.aload_n 3, 1) := by decide +kernel
theorem dL_box_1 : decode cL_box 1 = .ok (.iconst 0, 1) := by decide +kernel
theorem dL_box_2 : decode cL_box 2 = .ok (.aload_n 0, 1) := by decide +kernel
theorem dL_box_3 : decode cL_box 3 = .ok (.iload_n 1, 1) := by decide +kernel
theorem dL_box_4 : decode cL_box 4 = .ok (.iload_n 2, 1) := by decide +kernel
theorem dL_box_5 : decode cL_box 5 = .ok (.invokevirtual 20, 3) := by decide +kernel
theorem dL_box_8 : decode cL_box 8 = .ok (.i2l, 1) := by decide +kernel
theorem dL_box_9 : decode cL_box 9 = .ok (.lastore, 1) := by decide +kernel
theorem dL_box_10 : decode cL_box 10 = .ok (.goto 7, 3) := by decide +kernel
theorem dL_box_13 : decode cL_box 13 = .ok (.astore 4, 2) := by decide +kernel
theorem dL_box_15 : decode cL_box 15 = .ok (.iconst 1, 1) := by decide +kernel
theorem dL_box_16 : decode cL_box 16 = .ok (.ireturn, 1) := by decide +kernel
theorem dL_box_17 : decode cL_box 17 = .ok (.iconst 0, 1) := by decide +kernel
theorem dL_box_18 : decode cL_box 18 = .ok (.ireturn, 1) := by decide +kernel
theorem dL_person_0 : decode cL_person 0 = .ok (.aload_n 3, 1) := by decide +kernel
theorem dL_person_1 : decode cL_person 1 = .ok (.iconst 0, 1) := by decide +kernel
theorem dL_person_2 : decode cL_person 2 = .ok (.aload_n 0, 1) := by decide +kernel
theorem dL_person_3 : decode cL_person 3 = .ok (.iload_n 1, 1) := by decide +kernel
theorem dL_person_4 : decode cL_person 4 = .ok (.iload_n 2, 1) := by decide +kernel
theorem dL_person_5 : decode cL_person 5 = .ok (.invokevirtual 24, 3) := by decide +kernel
theorem dL_person_8 : decode cL_person 8 = .ok (.i2l, 1) := by decide +kernel
theorem dL_person_9 : decode cL_person 9 = .ok (.lastore, 1) := by decide +kernel
theorem dL_person_10 : decode cL_person 10 = .ok (.goto 7, 3) := by decide +kernel
theorem dL_person_13 : decode cL_person 13 = .ok (.astore 4, 2) := by decide +kernel
theorem dL_person_15 : decode cL_person 15 = .ok (.iconst 1, 1) := by decide +kernel
theorem dL_person_16 : decode cL_person 16 = .ok (.ireturn, 1) := by decide +kernel
theorem dL_person_17 : decode cL_person 17 = .ok (.iconst 0, 1) := by decide +kernel
theorem dL_person_18 : decode cL_person 18 = .ok (.ireturn, 1) := by decide +kernel
theorem dL_held_0 : decode cL_held 0 = .ok (.aload_n 3, 1) := by decide +kernel
theorem dL_held_1 : decode cL_held 1 = .ok (.iconst 0, 1) := by decide +kernel
theorem dL_held_2 : decode cL_held 2 = .ok (.aload_n 0, 1) := by decide +kernel
theorem dL_held_3 : decode cL_held 3 = .ok (.iload_n 1, 1) := by decide +kernel
theorem dL_held_4 : decode cL_held 4 = .ok (.iload_n 2, 1) := by decide +kernel
theorem dL_held_5 : decode cL_held 5 = .ok (.invokevirtual 27, 3) := by decide +kernel
theorem dL_held_8 : decode cL_held 8 = .ok (.i2l, 1) := by decide +kernel
theorem dL_held_9 : decode cL_held 9 = .ok (.lastore, 1) := by decide +kernel
theorem dL_held_10 : decode cL_held 10 = .ok (.goto 7, 3) := by decide +kernel
theorem dL_held_13 : decode cL_held 13 = .ok (.astore 4, 2) := by decide +kernel
theorem dL_held_15 : decode cL_held 15 = .ok (.iconst 1, 1) := by decide +kernel
theorem dL_held_16 : decode cL_held 16 = .ok (.ireturn, 1) := by decide +kernel
theorem dL_held_17 : decode cL_held 17 = .ok (.iconst 0, 1) := by decide +kernel
theorem dL_held_18 : decode cL_held 18 = .ok (.ireturn, 1) := by decide +kernel
theorem dL_write_0 : decode cL_write 0 = .ok (.aload_n 2, 1) := by decide +kernel
theorem dL_write_1 : decode cL_write 1 = .ok (.iconst 0, 1) := by decide +kernel
theorem dL_write_2 : decode cL_write 2 = .ok (.aload_n 0, 1) := by decide +kernel
theorem dL_write_3 : decode cL_write 3 = .ok (.iload_n 1, 1) := by decide +kernel
theorem dL_write_4 : decode cL_write 4 = .ok (.invokevirtual 30, 3) := by decide +kernel
theorem dL_write_7 : decode cL_write 7 = .ok (.i2l, 1) := by decide +kernel
theorem dL_write_8 : decode cL_write 8 = .ok (.lastore, 1) := by decide +kernel
theorem dL_write_9 : decode cL_write 9 = .ok (.goto 6, 3) := by decide +kernel
theorem dL_write_12 : decode cL_write 12 = .ok (.astore_n 3, 1) := by decide +kernel
theorem dL_write_13 : decode cL_write 13 = .ok (.iconst 1, 1) := by decide +kernel
theorem dL_write_14 : decode cL_write 14 = .ok (.ireturn, 1) := by decide +kernel
theorem dL_write_15 : decode cL_write 15 = .ok (.iconst 0, 1) := by decide +kernel
theorem dL_write_16 : decode cL_write 16 = .ok (.ireturn, 1) := by decide +kernel
theorem dL_paint_0 : decode cL_paint 0 = .ok (.aload_n 2, 1) := by decide +kernel
theorem dL_paint_1 : decode cL_paint 1 = .ok (.iconst 0, 1) := by decide +kernel
theorem dL_paint_2 : decode cL_paint 2 = .ok (.aload_n 0, 1) := by decide +kernel
theorem dL_paint_3 : decode cL_paint 3 = .ok (.iload_n 1, 1) := by decide +kernel
theorem dL_paint_4 : decode cL_paint 4 = .ok (.invokevirtual 33, 3) := by decide +kernel
theorem dL_paint_7 : decode cL_paint 7 = .ok (.i2l, 1) := by decide +kernel
theorem dL_paint_8 : decode cL_paint 8 = .ok (.lastore, 1) := by decide +kernel
theorem dL_paint_9 : decode cL_paint 9 = .ok (.goto 6, 3) := by decide +kernel
theorem dL_paint_12 : decode cL_paint 12 = .ok (.astore_n 3, 1) := by decide +kernel
theorem dL_paint_13 : decode cL_paint 13 = .ok (.iconst 1, 1) := by decide +kernel
theorem dL_paint_14 : decode cL_paint 14 = .ok (.ireturn, 1) := by decide +kernel
theorem dL_paint_15 : decode cL_paint 15 = .ok (.iconst 0, 1) := by decide +kernel
theorem dL_paint_16 : decode cL_paint 16 = .ok (.ireturn, 1) := by decide +kernel
theorem dL_turn_0 : decode cL_turn 0 = .ok (.aload_n 3, 1) := by decide +kernel
theorem dL_turn_1 : decode cL_turn 1 = .ok (.iconst 0, 1) := by decide +kernel
theorem dL_turn_2 : decode cL_turn 2 = .ok (.aload_n 0, 1) := by decide +kernel
theorem dL_turn_3 : decode cL_turn 3 = .ok (.iload_n 1, 1) := by decide +kernel
theorem dL_turn_4 : decode cL_turn 4 = .ok (.iload_n 2, 1) := by decide +kernel
theorem dL_turn_5 : decode cL_turn 5 = .ok (.invokevirtual 36, 3) := by decide +kernel
theorem dL_turn_8 : decode cL_turn 8 = .ok (.i2l, 1) := by decide +kernel
theorem dL_turn_9 : decode cL_turn 9 = .ok (.lastore, 1) := by decide +kernel
theorem dL_turn_10 : decode cL_turn 10 = .ok (.goto 7, 3) := by decide +kernel
theorem dL_turn_13 : decode cL_turn 13 = .ok (.astore 4, 2) := by decide +kernel
theorem dL_turn_15 : decode cL_turn 15 = .ok (.iconst 1, 1) := by decide +kernel
theorem dL_turn_16 : decode cL_turn 16 = .ok (.ireturn, 1) := by decide +kernel
theorem dL_turn_17 : decode cL_turn 17 = .ok (.iconst 0, 1) := by decide +kernel
theorem dL_turn_18 : decode cL_turn 18 = .ok (.ireturn, 1) := by decide +kernel
theorem dL_then_0 : decode cL_then 0 = .ok (.aload 4, 2) := by decide +kernel
theorem dL_then_2 : decode cL_then 2 = .ok (.iconst 0, 1) := by decide +kernel
theorem dL_then_3 : decode cL_then 3 = .ok (.aload_n 0, 1) := by decide +kernel
theorem dL_then_4 : decode cL_then 4 = .ok (.iload_n 1, 1) := by decide +kernel
theorem dL_then_5 : decode cL_then 5 = .ok (.iload_n 2, 1) := by decide +kernel
theorem dL_then_6 : decode cL_then 6 = .ok (.iload_n 3, 1) := by decide +kernel
theorem dL_then_7 : decode cL_then 7 = .ok (.invokevirtual 39, 3) := by decide +kernel
theorem dL_then_10 : decode cL_then 10 = .ok (.i2l, 1) := by decide +kernel
theorem dL_then_11 : decode cL_then 11 = .ok (.lastore, 1) := by decide +kernel
theorem dL_then_12 : decode cL_then 12 = .ok (.goto 11, 3) := by decide +kernel
theorem dL_then_15 : decode cL_then 15 = .ok (.astore 5, 2) := by decide +kernel
theorem dL_then_17 : decode cL_then 17 = .ok (.iconst 1, 1) := by decide +kernel
theorem dL_then_18 : decode cL_then 18 = .ok (.ireturn, 1) := by decide +kernel
theorem dL_then_19 : decode cL_then 19 = .ok (.astore 5, 2) := by decide +kernel
theorem dL_then_21 : decode cL_then 21 = .ok (.iconst 2, 1) := by decide +kernel
theorem dL_then_22 : decode cL_then 22 = .ok (.ireturn, 1) := by decide +kernel
theorem dL_then_23 : decode cL_then 23 = .ok (.iconst 0, 1) := by decide +kernel
theorem dL_then_24 : decode cL_then 24 = .ok (.ireturn, 1) := by decide +kernel
theorem dL_later_0 : decode cL_later 0 = .ok (.aload 4, 2) := by decide +kernel
theorem dL_later_2 : decode cL_later 2 = .ok (.iconst 0, 1) := by decide +kernel
theorem dL_later_3 : decode cL_later 3 = .ok (.aload_n 0, 1) := by decide +kernel
theorem dL_later_4 : decode cL_later 4 = .ok (.iload_n 1, 1) := by decide +kernel
theorem dL_later_5 : decode cL_later 5 = .ok (.iload_n 2, 1) := by decide +kernel
theorem dL_later_6 : decode cL_later 6 = .ok (.iload_n 3, 1) := by decide +kernel
theorem dL_later_7 : decode cL_later 7 = .ok (.invokevirtual 43, 3) := by decide +kernel
theorem dL_later_10 : decode cL_later 10 = .ok (.i2l, 1) := by decide +kernel
theorem dL_later_11 : decode cL_later 11 = .ok (.lastore, 1) := by decide +kernel
theorem dL_later_12 : decode cL_later 12 = .ok (.goto 11, 3) := by decide +kernel
theorem dL_later_15 : decode cL_later 15 = .ok (.astore 5, 2) := by decide +kernel
theorem dL_later_17 : decode cL_later 17 = .ok (.iconst 1, 1) := by decide +kernel
theorem dL_later_18 : decode cL_later 18 = .ok (.ireturn, 1) := by decide +kernel
theorem dL_later_19 : decode cL_later 19 = .ok (.astore 5, 2) := by decide +kernel
theorem dL_later_21 : decode cL_later 21 = .ok (.iconst 2, 1) := by decide +kernel
theorem dL_later_22 : decode cL_later 22 = .ok (.ireturn, 1) := by decide +kernel
theorem dL_later_23 : decode cL_later 23 = .ok (.iconst 0, 1) := by decide +kernel
theorem dL_later_24 : decode cL_later 24 = .ok (.ireturn, 1) := by decide +kernel
theorem dL_first_0 : decode cL_first 0 = .ok (.aload_n 2, 1) := by decide +kernel
theorem dL_first_1 : decode cL_first 1 = .ok (.iconst 0, 1) := by decide +kernel
theorem dL_first_2 : decode cL_first 2 = .ok (.aload_n 0, 1) := by decide +kernel
theorem dL_first_3 : decode cL_first 3 = .ok (.iload_n 1, 1) := by decide +kernel
theorem dL_first_4 : decode cL_first 4 = .ok (.invokevirtual 46, 3) := by decide +kernel
theorem dL_first_7 : decode cL_first 7 = .ok (.i2l, 1) := by decide +kernel
theorem dL_first_8 : decode cL_first 8 = .ok (.lastore, 1) := by decide +kernel
theorem dL_first_9 : decode cL_first 9 = .ok (.goto 6, 3) := by decide +kernel
theorem dL_first_12 : decode cL_first 12 = .ok (.astore_n 3, 1) := by decide +kernel
theorem dL_first_13 : decode cL_first 13 = .ok (.iconst 1, 1) := by decide +kernel
theorem dL_first_14 : decode cL_first 14 = .ok (.ireturn, 1) := by decide +kernel
theorem dL_first_15 : decode cL_first 15 = .ok (.iconst 0, 1) := by decide +kernel
theorem dL_first_16 : decode cL_first 16 = .ok (.ireturn, 1) := by decide +kernel
theorem dL_full_0 : decode cL_full 0 = .ok (.aload_n 3, 1) := by decide +kernel
theorem dL_full_1 : decode cL_full 1 = .ok (.iconst 0, 1) := by decide +kernel
theorem dL_full_2 : decode cL_full 2 = .ok (.aload_n 0, 1) := by decide +kernel
theorem dL_full_3 : decode cL_full 3 = .ok (.iload_n 1, 1) := by decide +kernel
theorem dL_full_4 : decode cL_full 4 = .ok (.iload_n 2, 1) := by decide +kernel
theorem dL_full_5 : decode cL_full 5 = .ok (.invokevirtual 49, 3) := by decide +kernel
theorem dL_full_8 : decode cL_full 8 = .ok (.i2l, 1) := by decide +kernel
theorem dL_full_9 : decode cL_full 9 = .ok (.lastore, 1) := by decide +kernel
theorem dL_full_10 : decode cL_full 10 = .ok (.goto 11, 3) := by decide +kernel
theorem dL_full_13 : decode cL_full 13 = .ok (.astore 4, 2) := by decide +kernel
theorem dL_full_15 : decode cL_full 15 = .ok (.iconst 1, 1) := by decide +kernel
theorem dL_full_16 : decode cL_full 16 = .ok (.ireturn, 1) := by decide +kernel
theorem dL_full_17 : decode cL_full 17 = .ok (.astore 4, 2) := by decide +kernel
theorem dL_full_19 : decode cL_full 19 = .ok (.iconst 2, 1) := by decide +kernel
theorem dL_full_20 : decode cL_full 20 = .ok (.ireturn, 1) := by decide +kernel
theorem dL_full_21 : decode cL_full 21 = .ok (.iconst 0, 1) := by decide +kernel
theorem dL_full_22 : decode cL_full 22 = .ok (.ireturn, 1) := by decide +kernel
theorem dL_most_0 : decode cL_most 0 = .ok (.aload_n 3, 1) := by decide +kernel
theorem dL_most_1 : decode cL_most 1 = .ok (.iconst 0, 1) := by decide +kernel
theorem dL_most_2 : decode cL_most 2 = .ok (.aload_n 0, 1) := by decide +kernel
theorem dL_most_3 : decode cL_most 3 = .ok (.iload_n 1, 1) := by decide +kernel
theorem dL_most_4 : decode cL_most 4 = .ok (.iload_n 2, 1) := by decide +kernel
theorem dL_most_5 : decode cL_most 5 = .ok (.invokevirtual 52, 3) := by decide +kernel
theorem dL_most_8 : decode cL_most 8 = .ok (.i2l, 1) := by decide +kernel
theorem dL_most_9 : decode cL_most 9 = .ok (.lastore, 1) := by decide +kernel
theorem dL_most_10 : decode cL_most 10 = .ok (.goto 11, 3) := by decide +kernel
theorem dL_most_13 : decode cL_most 13 = .ok (.astore 4, 2) := by decide +kernel
theorem dL_most_15 : decode cL_most 15 = .ok (.iconst 1, 1) := by decide +kernel
theorem dL_most_16 : decode cL_most 16 = .ok (.ireturn, 1) := by decide +kernel
theorem dL_most_17 : decode cL_most 17 = .ok (.astore 4, 2) := by decide +kernel
theorem dL_most_19 : decode cL_most 19 = .ok (.iconst 2, 1) := by decide +kernel
theorem dL_most_20 : decode cL_most 20 = .ok (.ireturn, 1) := by decide +kernel
theorem dL_most_21 : decode cL_most 21 = .ok (.iconst 0, 1) := by decide +kernel
theorem dL_most_22 : decode cL_most 22 = .ok (.ireturn, 1) := by decide +kernel
theorem dL_ring_0 : decode cL_ring 0 = .ok (.aload_n 2, 1) := by decide +kernel
theorem dL_ring_1 : decode cL_ring 1 = .ok (.iconst 0, 1) := by decide +kernel
theorem dL_ring_2 : decode cL_ring 2 = .ok (.aload_n 0, 1) := by decide +kernel
theorem dL_ring_3 : decode cL_ring 3 = .ok (.iload_n 1, 1) := by decide +kernel
theorem dL_ring_4 : decode cL_ring 4 = .ok (.invokevirtual 55, 3) := by decide +kernel
theorem dL_ring_7 : decode cL_ring 7 = .ok (.i2l, 1) := by decide +kernel
theorem dL_ring_8 : decode cL_ring 8 = .ok (.lastore, 1) := by decide +kernel
theorem dL_ring_9 : decode cL_ring 9 = .ok (.goto 6, 3) := by decide +kernel
theorem dL_ring_12 : decode cL_ring 12 = .ok (.astore_n 3, 1) := by decide +kernel
theorem dL_ring_13 : decode cL_ring 13 = .ok (.iconst 1, 1) := by decide +kernel
theorem dL_ring_14 : decode cL_ring 14 = .ok (.ireturn, 1) := by decide +kernel
theorem dL_ring_15 : decode cL_ring 15 = .ok (.iconst 0, 1) := by decide +kernel
theorem dL_ring_16 : decode cL_ring 16 = .ok (.ireturn, 1) := by decide +kernel
theorem dL_comesTo_0 : decode cL_comesTo 0 = .ok (.aload_n 2, 1) := by decide +kernel
theorem dL_comesTo_1 : decode cL_comesTo 1 = .ok (.iconst 0, 1) := by decide +kernel
theorem dL_comesTo_2 : decode cL_comesTo 2 = .ok (.aload_n 0, 1) := by decide +kernel
theorem dL_comesTo_3 : decode cL_comesTo 3 = .ok (.iload_n 1, 1) := by decide +kernel
theorem dL_comesTo_4 : decode cL_comesTo 4 = .ok (.invokevirtual 58, 3) := by decide +kernel
theorem dL_comesTo_7 : decode cL_comesTo 7 = .ok (.i2l, 1) := by decide +kernel
theorem dL_comesTo_8 : decode cL_comesTo 8 = .ok (.lastore, 1) := by decide +kernel
theorem dL_comesTo_9 : decode cL_comesTo 9 = .ok (.goto 6, 3) := by decide +kernel
theorem dL_comesTo_12 : decode cL_comesTo 12 = .ok (.astore_n 3, 1) := by decide +kernel
theorem dL_comesTo_13 : decode cL_comesTo 13 = .ok (.iconst 1, 1) := by decide +kernel
theorem dL_comesTo_14 : decode cL_comesTo 14 = .ok (.ireturn, 1) := by decide +kernel
theorem dL_comesTo_15 : decode cL_comesTo 15 = .ok (.iconst 0, 1) := by decide +kernel
theorem dL_comesTo_16 : decode cL_comesTo 16 = .ok (.ireturn, 1) := by decide +kernel
theorem dL_toCover_0 : decode cL_toCover 0 = .ok (.aload_n 2, 1) := by decide +kernel
theorem dL_toCover_1 : decode cL_toCover 1 = .ok (.iconst 0, 1) := by decide +kernel
theorem dL_toCover_2 : decode cL_toCover 2 = .ok (.aload_n 0, 1) := by decide +kernel
theorem dL_toCover_3 : decode cL_toCover 3 = .ok (.iload_n 1, 1) := by decide +kernel
theorem dL_toCover_4 : decode cL_toCover 4 = .ok (.invokevirtual 61, 3) := by decide +kernel
theorem dL_toCover_7 : decode cL_toCover 7 = .ok (.i2l, 1) := by decide +kernel
theorem dL_toCover_8 : decode cL_toCover 8 = .ok (.lastore, 1) := by decide +kernel
theorem dL_toCover_9 : decode cL_toCover 9 = .ok (.goto 6, 3) := by decide +kernel
theorem dL_toCover_12 : decode cL_toCover 12 = .ok (.astore_n 3, 1) := by decide +kernel
theorem dL_toCover_13 : decode cL_toCover 13 = .ok (.iconst 1, 1) := by decide +kernel
theorem dL_toCover_14 : decode cL_toCover 14 = .ok (.ireturn, 1) := by decide +kernel
theorem dL_toCover_15 : decode cL_toCover 15 = .ok (.iconst 0, 1) := by decide +kernel
theorem dL_toCover_16 : decode cL_toCover 16 = .ok (.ireturn, 1) := by decide +kernel
theorem dL_oneMore_0 : decode cL_oneMore 0 = .ok (.aload_n 2, 1) := by decide +kernel
theorem dL_oneMore_1 : decode cL_oneMore 1 = .ok (.iconst 0, 1) := by decide +kernel
theorem dL_oneMore_2 : decode cL_oneMore 2 = .ok (.aload_n 0, 1) := by decide +kernel
theorem dL_oneMore_3 : decode cL_oneMore 3 = .ok (.iload_n 1, 1) := by decide +kernel
theorem dL_oneMore_4 : decode cL_oneMore 4 = .ok (.invokevirtual 64, 3) := by decide +kernel
theorem dL_oneMore_7 : decode cL_oneMore 7 = .ok (.i2l, 1) := by decide +kernel
theorem dL_oneMore_8 : decode cL_oneMore 8 = .ok (.lastore, 1) := by decide +kernel
theorem dL_oneMore_9 : decode cL_oneMore 9 = .ok (.goto 6, 3) := by decide +kernel
theorem dL_oneMore_12 : decode cL_oneMore 12 = .ok (.astore_n 3, 1) := by decide +kernel
theorem dL_oneMore_13 : decode cL_oneMore 13 = .ok (.iconst 1, 1) := by decide +kernel
theorem dL_oneMore_14 : decode cL_oneMore 14 = .ok (.ireturn, 1) := by decide +kernel
theorem dL_oneMore_15 : decode cL_oneMore 15 = .ok (.iconst 0, 1) := by decide +kernel
theorem dL_oneMore_16 : decode cL_oneMore 16 = .ok (.ireturn, 1) := by decide +kernel
theorem dL_order_0 : decode cL_order 0 = .ok (.aload_n 2, 1) := by decide +kernel
theorem dL_order_1 : decode cL_order 1 = .ok (.iconst 0, 1) := by decide +kernel
theorem dL_order_2 : decode cL_order 2 = .ok (.aload_n 0, 1) := by decide +kernel
theorem dL_order_3 : decode cL_order 3 = .ok (.iload_n 1, 1) := by decide +kernel
theorem dL_order_4 : decode cL_order 4 = .ok (.invokevirtual 67, 3) := by decide +kernel
theorem dL_order_7 : decode cL_order 7 = .ok (.i2l, 1) := by decide +kernel
theorem dL_order_8 : decode cL_order 8 = .ok (.lastore, 1) := by decide +kernel
theorem dL_order_9 : decode cL_order 9 = .ok (.goto 6, 3) := by decide +kernel
theorem dL_order_12 : decode cL_order 12 = .ok (.astore_n 3, 1) := by decide +kernel
theorem dL_order_13 : decode cL_order 13 = .ok (.iconst 1, 1) := by decide +kernel
theorem dL_order_14 : decode cL_order 14 = .ok (.ireturn, 1) := by decide +kernel
theorem dL_order_15 : decode cL_order 15 = .ok (.iconst 0, 1) := by decide +kernel
theorem dL_order_16 : decode cL_order 16 = .ok (.ireturn, 1) := by decide +kernel
theorem dL_note_0 : decode cL_note 0 = .ok (.aload 4, 2) := by decide +kernel
theorem dL_note_2 : decode cL_note 2 = .ok (.iconst 0, 1) := by decide +kernel
theorem dL_note_3 : decode cL_note 3 = .ok (.aload_n 0, 1) := by decide +kernel
theorem dL_note_4 : decode cL_note 4 = .ok (.iload_n 1, 1) := by decide +kernel
theorem dL_note_5 : decode cL_note 5 = .ok (.iload_n 2, 1) := by decide +kernel
theorem dL_note_6 : decode cL_note 6 = .ok (.iload_n 3, 1) := by decide +kernel
theorem dL_note_7 : decode cL_note 7 = .ok (.invokevirtual 70, 3) := by decide +kernel
theorem dL_note_10 : decode cL_note 10 = .ok (.i2l, 1) := by decide +kernel
theorem dL_note_11 : decode cL_note 11 = .ok (.lastore, 1) := by decide +kernel
theorem dL_note_12 : decode cL_note 12 = .ok (.goto 7, 3) := by decide +kernel
theorem dL_note_15 : decode cL_note 15 = .ok (.astore 5, 2) := by decide +kernel
theorem dL_note_17 : decode cL_note 17 = .ok (.iconst 1, 1) := by decide +kernel
theorem dL_note_18 : decode cL_note 18 = .ok (.ireturn, 1) := by decide +kernel
theorem dL_note_19 : decode cL_note 19 = .ok (.iconst 0, 1) := by decide +kernel
theorem dL_note_20 : decode cL_note 20 = .ok (.ireturn, 1) := by decide +kernel
theorem dL_thought_0 : decode cL_thought 0 = .ok (.aload_n 2, 1) := by decide +kernel
theorem dL_thought_1 : decode cL_thought 1 = .ok (.iconst 0, 1) := by decide +kernel
theorem dL_thought_2 : decode cL_thought 2 = .ok (.aload_n 0, 1) := by decide +kernel
theorem dL_thought_3 : decode cL_thought 3 = .ok (.iload_n 1, 1) := by decide +kernel
theorem dL_thought_4 : decode cL_thought 4 = .ok (.invokevirtual 73, 3) := by decide +kernel
theorem dL_thought_7 : decode cL_thought 7 = .ok (.i2l, 1) := by decide +kernel
theorem dL_thought_8 : decode cL_thought 8 = .ok (.lastore, 1) := by decide +kernel
theorem dL_thought_9 : decode cL_thought 9 = .ok (.goto 6, 3) := by decide +kernel
theorem dL_thought_12 : decode cL_thought 12 = .ok (.astore_n 3, 1) := by decide +kernel
theorem dL_thought_13 : decode cL_thought 13 = .ok (.iconst 1, 1) := by decide +kernel
theorem dL_thought_14 : decode cL_thought 14 = .ok (.ireturn, 1) := by decide +kernel
theorem dL_thought_15 : decode cL_thought 15 = .ok (.iconst 0, 1) := by decide +kernel
theorem dL_thought_16 : decode cL_thought 16 = .ok (.ireturn, 1) := by decide +kernel
theorem dL_ask_0 : decode cL_ask 0 = .ok (.aload_n 2, 1) := by decide +kernel
theorem dL_ask_1 : decode cL_ask 1 = .ok (.iconst 0, 1) := by decide +kernel
theorem dL_ask_2 : decode cL_ask 2 = .ok (.aload_n 0, 1) := by decide +kernel
theorem dL_ask_3 : decode cL_ask 3 = .ok (.iload_n 1, 1) := by decide +kernel
theorem dL_ask_4 : decode cL_ask 4 = .ok (.invokevirtual 76, 3) := by decide +kernel
theorem dL_ask_7 : decode cL_ask 7 = .ok (.i2l, 1) := by decide +kernel
theorem dL_ask_8 : decode cL_ask 8 = .ok (.lastore, 1) := by decide +kernel
theorem dL_ask_9 : decode cL_ask 9 = .ok (.goto 6, 3) := by decide +kernel
theorem dL_ask_12 : decode cL_ask 12 = .ok (.astore_n 3, 1) := by decide +kernel
theorem dL_ask_13 : decode cL_ask 13 = .ok (.iconst 1, 1) := by decide +kernel
theorem dL_ask_14 : decode cL_ask 14 = .ok (.ireturn, 1) := by decide +kernel
theorem dL_ask_15 : decode cL_ask 15 = .ok (.iconst 0, 1) := by decide +kernel
theorem dL_ask_16 : decode cL_ask 16 = .ok (.ireturn, 1) := by decide +kernel
theorem dL_wetNights_0 : decode cL_wetNights 0 = .ok (.aload 5, 2) := by decide +kernel
theorem dL_wetNights_2 : decode cL_wetNights 2 = .ok (.iconst 0, 1) := by decide +kernel
theorem dL_wetNights_3 : decode cL_wetNights 3 = .ok (.aload_n 0, 1) := by decide +kernel
theorem dL_wetNights_4 : decode cL_wetNights 4 = .ok (.iload_n 1, 1) := by decide +kernel
theorem dL_wetNights_5 : decode cL_wetNights 5 = .ok (.iload_n 2, 1) := by decide +kernel
theorem dL_wetNights_6 : decode cL_wetNights 6 = .ok (.iload_n 3, 1) := by decide +kernel
theorem dL_wetNights_7 : decode cL_wetNights 7 = .ok (.iload 4, 2) := by decide +kernel
theorem dL_wetNights_9 : decode cL_wetNights 9 = .ok (.invokevirtual 79, 3) := by decide +kernel
theorem dL_wetNights_12 : decode cL_wetNights 12 = .ok (.i2l, 1) := by decide +kernel
theorem dL_wetNights_13 : decode cL_wetNights 13 = .ok (.lastore, 1) := by decide +kernel
theorem dL_wetNights_14 : decode cL_wetNights 14 = .ok (.goto 11, 3) := by decide +kernel
theorem dL_wetNights_17 : decode cL_wetNights 17 = .ok (.astore 6, 2) := by decide +kernel
theorem dL_wetNights_19 : decode cL_wetNights 19 = .ok (.iconst 1, 1) := by decide +kernel
theorem dL_wetNights_20 : decode cL_wetNights 20 = .ok (.ireturn, 1) := by decide +kernel
theorem dL_wetNights_21 : decode cL_wetNights 21 = .ok (.astore 6, 2) := by decide +kernel
theorem dL_wetNights_23 : decode cL_wetNights 23 = .ok (.iconst 2, 1) := by decide +kernel
theorem dL_wetNights_24 : decode cL_wetNights 24 = .ok (.ireturn, 1) := by decide +kernel
theorem dL_wetNights_25 : decode cL_wetNights 25 = .ok (.iconst 0, 1) := by decide +kernel
theorem dL_wetNights_26 : decode cL_wetNights 26 = .ok (.ireturn, 1) := by decide +kernel
theorem dL_game_0 : decode cL_game 0 = .ok (.aload 4, 2) := by decide +kernel
theorem dL_game_2 : decode cL_game 2 = .ok (.iconst 0, 1) := by decide +kernel
theorem dL_game_3 : decode cL_game 3 = .ok (.aload_n 0, 1) := by decide +kernel
theorem dL_game_4 : decode cL_game 4 = .ok (.iload_n 1, 1) := by decide +kernel
theorem dL_game_5 : decode cL_game 5 = .ok (.iload_n 2, 1) := by decide +kernel
theorem dL_game_6 : decode cL_game 6 = .ok (.iload_n 3, 1) := by decide +kernel
theorem dL_game_7 : decode cL_game 7 = .ok (.invokevirtual 83, 3) := by decide +kernel
theorem dL_game_10 : decode cL_game 10 = .ok (.i2l, 1) := by decide +kernel
theorem dL_game_11 : decode cL_game 11 = .ok (.lastore, 1) := by decide +kernel
theorem dL_game_12 : decode cL_game 12 = .ok (.goto 11, 3) := by decide +kernel
theorem dL_game_15 : decode cL_game 15 = .ok (.astore 5, 2) := by decide +kernel
theorem dL_game_17 : decode cL_game 17 = .ok (.iconst 1, 1) := by decide +kernel
theorem dL_game_18 : decode cL_game 18 = .ok (.ireturn, 1) := by decide +kernel
theorem dL_game_19 : decode cL_game 19 = .ok (.astore 5, 2) := by decide +kernel
theorem dL_game_21 : decode cL_game 21 = .ok (.iconst 2, 1) := by decide +kernel
theorem dL_game_22 : decode cL_game 22 = .ok (.ireturn, 1) := by decide +kernel
theorem dL_game_23 : decode cL_game 23 = .ok (.iconst 0, 1) := by decide +kernel
theorem dL_game_24 : decode cL_game 24 = .ok (.ireturn, 1) := by decide +kernel
theorem dL_years_0 : decode cL_years 0 = .ok (.aload 4, 2) := by decide +kernel
theorem dL_years_2 : decode cL_years 2 = .ok (.iconst 0, 1) := by decide +kernel
theorem dL_years_3 : decode cL_years 3 = .ok (.aload_n 0, 1) := by decide +kernel
theorem dL_years_4 : decode cL_years 4 = .ok (.iload_n 1, 1) := by decide +kernel
theorem dL_years_5 : decode cL_years 5 = .ok (.iload_n 2, 1) := by decide +kernel
theorem dL_years_6 : decode cL_years 6 = .ok (.iload_n 3, 1) := by decide +kernel
theorem dL_years_7 : decode cL_years 7 = .ok (.invokevirtual 86, 3) := by decide +kernel
theorem dL_years_10 : decode cL_years 10 = .ok (.i2l, 1) := by decide +kernel
theorem dL_years_11 : decode cL_years 11 = .ok (.lastore, 1) := by decide +kernel
theorem dL_years_12 : decode cL_years 12 = .ok (.goto 11, 3) := by decide +kernel
theorem dL_years_15 : decode cL_years 15 = .ok (.astore 5, 2) := by decide +kernel
theorem dL_years_17 : decode cL_years 17 = .ok (.iconst 1, 1) := by decide +kernel
theorem dL_years_18 : decode cL_years 18 = .ok (.ireturn, 1) := by decide +kernel
theorem dL_years_19 : decode cL_years 19 = .ok (.astore 5, 2) := by decide +kernel
theorem dL_years_21 : decode cL_years 21 = .ok (.iconst 2, 1) := by decide +kernel
theorem dL_years_22 : decode cL_years 22 = .ok (.ireturn, 1) := by decide +kernel
theorem dL_years_23 : decode cL_years 23 = .ok (.iconst 0, 1) := by decide +kernel
theorem dL_years_24 : decode cL_years 24 = .ok (.ireturn, 1) := by decide +kernel
theorem dL_pale_0 : decode cL_pale 0 = .ok (.aload_n 3, 1) := by decide +kernel
theorem dL_pale_1 : decode cL_pale 1 = .ok (.iconst 0, 1) := by decide +kernel
theorem dL_pale_2 : decode cL_pale 2 = .ok (.aload_n 0, 1) := by decide +kernel
theorem dL_pale_3 : decode cL_pale 3 = .ok (.iload_n 1, 1) := by decide +kernel
theorem dL_pale_4 : decode cL_pale 4 = .ok (.iload_n 2, 1) := by decide +kernel
theorem dL_pale_5 : decode cL_pale 5 = .ok (.invokevirtual 89, 3) := by decide +kernel
theorem dL_pale_8 : decode cL_pale 8 = .ok (.i2l, 1) := by decide +kernel
theorem dL_pale_9 : decode cL_pale 9 = .ok (.lastore, 1) := by decide +kernel
theorem dL_pale_10 : decode cL_pale 10 = .ok (.goto 11, 3) := by decide +kernel
theorem dL_pale_13 : decode cL_pale 13 = .ok (.astore 4, 2) := by decide +kernel
theorem dL_pale_15 : decode cL_pale 15 = .ok (.iconst 1, 1) := by decide +kernel
theorem dL_pale_16 : decode cL_pale 16 = .ok (.ireturn, 1) := by decide +kernel
theorem dL_pale_17 : decode cL_pale 17 = .ok (.astore 4, 2) := by decide +kernel
theorem dL_pale_19 : decode cL_pale 19 = .ok (.iconst 2, 1) := by decide +kernel
theorem dL_pale_20 : decode cL_pale 20 = .ok (.ireturn, 1) := by decide +kernel
theorem dL_pale_21 : decode cL_pale 21 = .ok (.iconst 0, 1) := by decide +kernel
theorem dL_pale_22 : decode cL_pale 22 = .ok (.ireturn, 1) := by decide +kernel
theorem dL_visits_0 : decode cL_visits 0 = .ok (.aload_n 3, 1) := by decide +kernel
theorem dL_visits_1 : decode cL_visits 1 = .ok (.iconst 0, 1) := by decide +kernel
theorem dL_visits_2 : decode cL_visits 2 = .ok (.aload_n 0, 1) := by decide +kernel
theorem dL_visits_3 : decode cL_visits 3 = .ok (.iload_n 1, 1) := by decide +kernel
theorem dL_visits_4 : decode cL_visits 4 = .ok (.iload_n 2, 1) := by decide +kernel
theorem dL_visits_5 : decode cL_visits 5 = .ok (.invokevirtual 92, 3) := by decide +kernel
theorem dL_visits_8 : decode cL_visits 8 = .ok (.i2l, 1) := by decide +kernel
theorem dL_visits_9 : decode cL_visits 9 = .ok (.lastore, 1) := by decide +kernel
theorem dL_visits_10 : decode cL_visits 10 = .ok (.goto 11, 3) := by decide +kernel
theorem dL_visits_13 : decode cL_visits 13 = .ok (.astore 4, 2) := by decide +kernel
theorem dL_visits_15 : decode cL_visits 15 = .ok (.iconst 1, 1) := by decide +kernel
theorem dL_visits_16 : decode cL_visits 16 = .ok (.ireturn, 1) := by decide +kernel
theorem dL_visits_17 : decode cL_visits 17 = .ok (.astore 4, 2) := by decide +kernel
theorem dL_visits_19 : decode cL_visits 19 = .ok (.iconst 2, 1) := by decide +kernel
theorem dL_visits_20 : decode cL_visits 20 = .ok (.ireturn, 1) := by decide +kernel
theorem dL_visits_21 : decode cL_visits 21 = .ok (.iconst 0, 1) := by decide +kernel
theorem dL_visits_22 : decode cL_visits 22 = .ok (.ireturn, 1) := by decide +kernel
theorem dL_steps_0 : decode cL_steps 0 = .ok (.aload_n 3, 1) := by decide +kernel
theorem dL_steps_1 : decode cL_steps 1 = .ok (.iconst 0, 1) := by decide +kernel
theorem dL_steps_2 : decode cL_steps 2 = .ok (.aload_n 0, 1) := by decide +kernel
theorem dL_steps_3 : decode cL_steps 3 = .ok (.iload_n 1, 1) := by decide +kernel
theorem dL_steps_4 : decode cL_steps 4 = .ok (.iload_n 2, 1) := by decide +kernel
theorem dL_steps_5 : decode cL_steps 5 = .ok (.invokevirtual 95, 3) := by decide +kernel
theorem dL_steps_8 : decode cL_steps 8 = .ok (.i2l, 1) := by decide +kernel
theorem dL_steps_9 : decode cL_steps 9 = .ok (.lastore, 1) := by decide +kernel
theorem dL_steps_10 : decode cL_steps 10 = .ok (.goto 7, 3) := by decide +kernel
theorem dL_steps_13 : decode cL_steps 13 = .ok (.astore 4, 2) := by decide +kernel
theorem dL_steps_15 : decode cL_steps 15 = .ok (.iconst 1, 1) := by decide +kernel
theorem dL_steps_16 : decode cL_steps 16 = .ok (.ireturn, 1) := by decide +kernel
theorem dL_steps_17 : decode cL_steps 17 = .ok (.iconst 0, 1) := by decide +kernel
theorem dL_steps_18 : decode cL_steps 18 = .ok (.ireturn, 1) := by decide +kernel
theorem dL_quiet_0 : decode cL_quiet 0 = .ok (.aload_n 3, 1) := by decide +kernel
theorem dL_quiet_1 : decode cL_quiet 1 = .ok (.iconst 0, 1) := by decide +kernel
theorem dL_quiet_2 : decode cL_quiet 2 = .ok (.aload_n 0, 1) := by decide +kernel
theorem dL_quiet_3 : decode cL_quiet 3 = .ok (.iload_n 1, 1) := by decide +kernel
theorem dL_quiet_4 : decode cL_quiet 4 = .ok (.iload_n 2, 1) := by decide +kernel
theorem dL_quiet_5 : decode cL_quiet 5 = .ok (.invokevirtual 98, 3) := by decide +kernel
theorem dL_quiet_8 : decode cL_quiet 8 = .ok (.i2l, 1) := by decide +kernel
theorem dL_quiet_9 : decode cL_quiet 9 = .ok (.lastore, 1) := by decide +kernel
theorem dL_quiet_10 : decode cL_quiet 10 = .ok (.goto 11, 3) := by decide +kernel
theorem dL_quiet_13 : decode cL_quiet 13 = .ok (.astore 4, 2) := by decide +kernel
theorem dL_quiet_15 : decode cL_quiet 15 = .ok (.iconst 1, 1) := by decide +kernel
theorem dL_quiet_16 : decode cL_quiet 16 = .ok (.ireturn, 1) := by decide +kernel
theorem dL_quiet_17 : decode cL_quiet 17 = .ok (.astore 4, 2) := by decide +kernel
theorem dL_quiet_19 : decode cL_quiet 19 = .ok (.iconst 2, 1) := by decide +kernel
theorem dL_quiet_20 : decode cL_quiet 20 = .ok (.ireturn, 1) := by decide +kernel
theorem dL_quiet_21 : decode cL_quiet 21 = .ok (.iconst 0, 1) := by decide +kernel
theorem dL_quiet_22 : decode cL_quiet 22 = .ok (.ireturn, 1) := by decide +kernel
theorem dL_bestAt_0 : decode cL_bestAt 0 = .ok (.aload_n 3, 1) := by decide +kernel
theorem dL_bestAt_1 : decode cL_bestAt 1 = .ok (.iconst 0, 1) := by decide +kernel
theorem dL_bestAt_2 : decode cL_bestAt 2 = .ok (.aload_n 0, 1) := by decide +kernel
theorem dL_bestAt_3 : decode cL_bestAt 3 = .ok (.iload_n 1, 1) := by decide +kernel
theorem dL_bestAt_4 : decode cL_bestAt 4 = .ok (.iload_n 2, 1) := by decide +kernel
theorem dL_bestAt_5 : decode cL_bestAt 5 = .ok (.invokevirtual 101, 3) := by decide +kernel
theorem dL_bestAt_8 : decode cL_bestAt 8 = .ok (.i2l, 1) := by decide +kernel
theorem dL_bestAt_9 : decode cL_bestAt 9 = .ok (.lastore, 1) := by decide +kernel
theorem dL_bestAt_10 : decode cL_bestAt 10 = .ok (.goto 11, 3) := by decide +kernel
theorem dL_bestAt_13 : decode cL_bestAt 13 = .ok (.astore 4, 2) := by decide +kernel
theorem dL_bestAt_15 : decode cL_bestAt 15 = .ok (.iconst 1, 1) := by decide +kernel
theorem dL_bestAt_16 : decode cL_bestAt 16 = .ok (.ireturn, 1) := by decide +kernel
theorem dL_bestAt_17 : decode cL_bestAt 17 = .ok (.astore 4, 2) := by decide +kernel
theorem dL_bestAt_19 : decode cL_bestAt 19 = .ok (.iconst 2, 1) := by decide +kernel
theorem dL_bestAt_20 : decode cL_bestAt 20 = .ok (.ireturn, 1) := by decide +kernel
theorem dL_bestAt_21 : decode cL_bestAt 21 = .ok (.iconst 0, 1) := by decide +kernel
theorem dL_bestAt_22 : decode cL_bestAt 22 = .ok (.ireturn, 1) := by decide +kernel
theorem dL_reds_0 : decode cL_reds 0 = .ok (.aload_n 2, 1) := by decide +kernel
theorem dL_reds_1 : decode cL_reds 1 = .ok (.iconst 0, 1) := by decide +kernel
theorem dL_reds_2 : decode cL_reds 2 = .ok (.aload_n 0, 1) := by decide +kernel
theorem dL_reds_3 : decode cL_reds 3 = .ok (.iload_n 1, 1) := by decide +kernel
theorem dL_reds_4 : decode cL_reds 4 = .ok (.invokevirtual 104, 3) := by decide +kernel
theorem dL_reds_7 : decode cL_reds 7 = .ok (.i2l, 1) := by decide +kernel
theorem dL_reds_8 : decode cL_reds 8 = .ok (.lastore, 1) := by decide +kernel
theorem dL_reds_9 : decode cL_reds 9 = .ok (.goto 6, 3) := by decide +kernel
theorem dL_reds_12 : decode cL_reds 12 = .ok (.astore_n 3, 1) := by decide +kernel
theorem dL_reds_13 : decode cL_reds 13 = .ok (.iconst 1, 1) := by decide +kernel
theorem dL_reds_14 : decode cL_reds 14 = .ok (.ireturn, 1) := by decide +kernel
theorem dL_reds_15 : decode cL_reds 15 = .ok (.iconst 0, 1) := by decide +kernel
theorem dL_reds_16 : decode cL_reds 16 = .ok (.ireturn, 1) := by decide +kernel
theorem dL_whose_0 : decode cL_whose 0 = .ok (.aload_n 2, 1) := by decide +kernel
theorem dL_whose_1 : decode cL_whose 1 = .ok (.iconst 0, 1) := by decide +kernel
theorem dL_whose_2 : decode cL_whose 2 = .ok (.aload_n 0, 1) := by decide +kernel
theorem dL_whose_3 : decode cL_whose 3 = .ok (.iload_n 1, 1) := by decide +kernel
theorem dL_whose_4 : decode cL_whose 4 = .ok (.invokevirtual 107, 3) := by decide +kernel
theorem dL_whose_7 : decode cL_whose 7 = .ok (.i2l, 1) := by decide +kernel
theorem dL_whose_8 : decode cL_whose 8 = .ok (.lastore, 1) := by decide +kernel
theorem dL_whose_9 : decode cL_whose 9 = .ok (.goto 6, 3) := by decide +kernel
theorem dL_whose_12 : decode cL_whose 12 = .ok (.astore_n 3, 1) := by decide +kernel
theorem dL_whose_13 : decode cL_whose 13 = .ok (.iconst 1, 1) := by decide +kernel
theorem dL_whose_14 : decode cL_whose 14 = .ok (.ireturn, 1) := by decide +kernel
theorem dL_whose_15 : decode cL_whose 15 = .ok (.iconst 0, 1) := by decide +kernel
theorem dL_whose_16 : decode cL_whose 16 = .ok (.ireturn, 1) := by decide +kernel
theorem dL_law_0 : decode cL_law 0 = .ok (.new 8, 3) := by decide +kernel
theorem dL_law_3 : decode cL_law 3 = .ok (.dup, 1) := by decide +kernel
theorem dL_law_4 : decode cL_law 4 = .ok (.invokespecial 110, 3) := by decide +kernel
theorem dL_law_7 : decode cL_law 7 = .ok (.astore_n 1, 1) := by decide +kernel
theorem dL_law_8 : decode cL_law 8 = .ok (.new 111, 3) := by decide +kernel
theorem dL_law_11 : decode cL_law 11 = .ok (.dup, 1) := by decide +kernel
theorem dL_law_12 : decode cL_law 12 = .ok (.invokespecial 113, 3) := by decide +kernel
theorem dL_law_15 : decode cL_law 15 = .ok (.astore_n 2, 1) := by decide +kernel
theorem dL_law_16 : decode cL_law 16 = .ok (.iconst 1, 1) := by decide +kernel
theorem dL_law_17 : decode cL_law 17 = .ok (.newarray .long, 2) := by decide +kernel
theorem dL_law_19 : decode cL_law 19 = .ok (.astore_n 3, 1) := by decide +kernel
theorem dL_law_20 : decode cL_law 20 = .ok (.iconst 0, 1) := by decide +kernel
theorem dL_law_21 : decode cL_law 21 = .ok (.istore 4, 2) := by decide +kernel
theorem dL_law_23 : decode cL_law 23 = .ok (.iload 4, 2) := by decide +kernel
theorem dL_law_25 : decode cL_law 25 = .ok (.aload_n 0, 1) := by decide +kernel
theorem dL_law_26 : decode cL_law 26 = .ok (.arraylength, 1) := by decide +kernel
theorem dL_law_27 : decode cL_law 27 = .ok (.bipush 6, 2) := by decide +kernel
theorem dL_law_29 : decode cL_law 29 = .ok (.isub, 1) := by decide +kernel
theorem dL_law_30 : decode cL_law 30 = .ok (.if_icmp .gt 2429, 3) := by decide +kernel
theorem dL_law_33 : decode cL_law 33 = .ok (.aload_n 0, 1) := by decide +kernel
theorem dL_law_34 : decode cL_law 34 = .ok (.iload 4, 2) := by decide +kernel
theorem dL_law_36 : decode cL_law 36 = .ok (.iaload, 1) := by decide +kernel
theorem dL_law_37 : decode cL_law 37 = .ok (.bipush 63, 2) := by decide +kernel
theorem dL_law_39 : decode cL_law 39 = .ok (.iand, 1) := by decide +kernel
theorem dL_law_40 : decode cL_law 40 = .ok (.tableswitch 2413 0 39 #[176, 249, 305, 318, 374, 442, 510, 578, 603, 659, 715, 783, 824, 837, 917, 997, 1053, 1121, 1189, 1245, 1301, 1357, 1413, 1469, 1549, 1560, 1616, 1672, 1764, 1844, 1924, 1992, 2060, 2128, 2196, 2209, 2277, 2333, 2389, 2400], 176) := by decide +kernel
theorem dL_law_216 : decode cL_law 216 = .ok (.aload_n 1, 1) := by decide +kernel
theorem dL_law_217 : decode cL_law 217 = .ok (.aload_n 0, 1) := by decide +kernel
theorem dL_law_218 : decode cL_law 218 = .ok (.iload 4, 2) := by decide +kernel
theorem dL_law_220 : decode cL_law 220 = .ok (.iconst 1, 1) := by decide +kernel
theorem dL_law_221 : decode cL_law 221 = .ok (.iadd, 1) := by decide +kernel
theorem dL_law_222 : decode cL_law 222 = .ok (.iaload, 1) := by decide +kernel
theorem dL_law_223 : decode cL_law 223 = .ok (.aload_n 0, 1) := by decide +kernel
theorem dL_law_224 : decode cL_law 224 = .ok (.iload 4, 2) := by decide +kernel
theorem dL_law_226 : decode cL_law 226 = .ok (.iconst 2, 1) := by decide +kernel
theorem dL_law_227 : decode cL_law 227 = .ok (.iadd, 1) := by decide +kernel
theorem dL_law_228 : decode cL_law 228 = .ok (.iaload, 1) := by decide +kernel
theorem dL_law_229 : decode cL_law 229 = .ok (.aload_n 0, 1) := by decide +kernel
theorem dL_law_230 : decode cL_law 230 = .ok (.iload 4, 2) := by decide +kernel
theorem dL_law_232 : decode cL_law 232 = .ok (.iconst 3, 1) := by decide +kernel
theorem dL_law_233 : decode cL_law 233 = .ok (.iadd, 1) := by decide +kernel
theorem dL_law_234 : decode cL_law 234 = .ok (.iaload, 1) := by decide +kernel
theorem dL_law_235 : decode cL_law 235 = .ok (.aload_n 0, 1) := by decide +kernel
theorem dL_law_236 : decode cL_law 236 = .ok (.iload 4, 2) := by decide +kernel
theorem dL_law_238 : decode cL_law 238 = .ok (.iconst 4, 1) := by decide +kernel
theorem dL_law_239 : decode cL_law 239 = .ok (.iadd, 1) := by decide +kernel
theorem dL_law_240 : decode cL_law 240 = .ok (.iaload, 1) := by decide +kernel
theorem dL_law_241 : decode cL_law 241 = .ok (.aload_n 0, 1) := by decide +kernel
theorem dL_law_242 : decode cL_law 242 = .ok (.iload 4, 2) := by decide +kernel
theorem dL_law_244 : decode cL_law 244 = .ok (.iconst 5, 1) := by decide +kernel
theorem dL_law_245 : decode cL_law 245 = .ok (.iadd, 1) := by decide +kernel
theorem dL_law_246 : decode cL_law 246 = .ok (.iaload, 1) := by decide +kernel
theorem dL_law_247 : decode cL_law 247 = .ok (.invokevirtual 114, 3) := by decide +kernel
theorem dL_law_250 : decode cL_law 250 = .ok (.aload_n 2, 1) := by decide +kernel
theorem dL_law_251 : decode cL_law 251 = .ok (.aload_n 0, 1) := by decide +kernel
theorem dL_law_252 : decode cL_law 252 = .ok (.iload 4, 2) := by decide +kernel
theorem dL_law_254 : decode cL_law 254 = .ok (.iconst 1, 1) := by decide +kernel
theorem dL_law_255 : decode cL_law 255 = .ok (.iadd, 1) := by decide +kernel
theorem dL_law_256 : decode cL_law 256 = .ok (.iaload, 1) := by decide +kernel
theorem dL_law_257 : decode cL_law 257 = .ok (.aload_n 0, 1) := by decide +kernel
theorem dL_law_258 : decode cL_law 258 = .ok (.iload 4, 2) := by decide +kernel
theorem dL_law_260 : decode cL_law 260 = .ok (.iconst 2, 1) := by decide +kernel
theorem dL_law_261 : decode cL_law 261 = .ok (.iadd, 1) := by decide +kernel
theorem dL_law_262 : decode cL_law 262 = .ok (.iaload, 1) := by decide +kernel
theorem dL_law_263 : decode cL_law 263 = .ok (.aload_n 0, 1) := by decide +kernel
theorem dL_law_264 : decode cL_law 264 = .ok (.iload 4, 2) := by decide +kernel
theorem dL_law_266 : decode cL_law 266 = .ok (.iconst 3, 1) := by decide +kernel
theorem dL_law_267 : decode cL_law 267 = .ok (.iadd, 1) := by decide +kernel
theorem dL_law_268 : decode cL_law 268 = .ok (.iaload, 1) := by decide +kernel
theorem dL_law_269 : decode cL_law 269 = .ok (.aload_n 0, 1) := by decide +kernel
theorem dL_law_270 : decode cL_law 270 = .ok (.iload 4, 2) := by decide +kernel
theorem dL_law_272 : decode cL_law 272 = .ok (.iconst 4, 1) := by decide +kernel
theorem dL_law_273 : decode cL_law 273 = .ok (.iadd, 1) := by decide +kernel
theorem dL_law_274 : decode cL_law 274 = .ok (.iaload, 1) := by decide +kernel
theorem dL_law_275 : decode cL_law 275 = .ok (.aload_n 0, 1) := by decide +kernel
theorem dL_law_276 : decode cL_law 276 = .ok (.iload 4, 2) := by decide +kernel
theorem dL_law_278 : decode cL_law 278 = .ok (.iconst 5, 1) := by decide +kernel
theorem dL_law_279 : decode cL_law 279 = .ok (.iadd, 1) := by decide +kernel
theorem dL_law_280 : decode cL_law 280 = .ok (.iaload, 1) := by decide +kernel
theorem dL_law_281 : decode cL_law 281 = .ok (.invokevirtual 118, 3) := by decide +kernel
theorem dL_law_284 : decode cL_law 284 = .ok (.if_icmp .eq 2169, 3) := by decide +kernel
theorem dL_law_287 : decode cL_law 287 = .ok (.iconst 0, 1) := by decide +kernel
theorem dL_law_288 : decode cL_law 288 = .ok (.ireturn, 1) := by decide +kernel
theorem dL_law_289 : decode cL_law 289 = .ok (.aload_n 1, 1) := by decide +kernel
theorem dL_law_290 : decode cL_law 290 = .ok (.aload_n 0, 1) := by decide +kernel
theorem dL_law_291 : decode cL_law 291 = .ok (.iload 4, 2) := by decide +kernel
theorem dL_law_293 : decode cL_law 293 = .ok (.iconst 1, 1) := by decide +kernel
theorem dL_law_294 : decode cL_law 294 = .ok (.iadd, 1) := by decide +kernel
theorem dL_law_295 : decode cL_law 295 = .ok (.iaload, 1) := by decide +kernel
theorem dL_law_296 : decode cL_law 296 = .ok (.aload_n 3, 1) := by decide +kernel
theorem dL_law_297 : decode cL_law 297 = .ok (.invokestatic 119, 3) := by decide +kernel
theorem dL_law_300 : decode cL_law 300 = .ok (.istore 5, 2) := by decide +kernel
theorem dL_law_302 : decode cL_law 302 = .ok (.aload_n 2, 1) := by decide +kernel
theorem dL_law_303 : decode cL_law 303 = .ok (.aload_n 0, 1) := by decide +kernel
theorem dL_law_304 : decode cL_law 304 = .ok (.iload 4, 2) := by decide +kernel
theorem dL_law_306 : decode cL_law 306 = .ok (.iconst 1, 1) := by decide +kernel
theorem dL_law_307 : decode cL_law 307 = .ok (.iadd, 1) := by decide +kernel
theorem dL_law_308 : decode cL_law 308 = .ok (.iaload, 1) := by decide +kernel
theorem dL_law_309 : decode cL_law 309 = .ok (.invokevirtual 124, 3) := by decide +kernel
theorem dL_law_312 : decode cL_law 312 = .ok (.istore 6, 2) := by decide +kernel
theorem dL_law_314 : decode cL_law 314 = .ok (.aload_n 2, 1) := by decide +kernel
theorem dL_law_315 : decode cL_law 315 = .ok (.invokevirtual 125, 3) := by decide +kernel
theorem dL_law_318 : decode cL_law 318 = .ok (.iload 5, 2) := by decide +kernel
theorem dL_law_320 : decode cL_law 320 = .ok (.if_icmp .eq 5, 3) := by decide +kernel
theorem dL_law_323 : decode cL_law 323 = .ok (.iconst 0, 1) := by decide +kernel
theorem dL_law_324 : decode cL_law 324 = .ok (.ireturn, 1) := by decide +kernel
theorem dL_law_325 : decode cL_law 325 = .ok (.iload 5, 2) := by decide +kernel
theorem dL_law_327 : decode cL_law 327 = .ok (.ifCond .ne 15, 3) := by decide +kernel
theorem dL_law_330 : decode cL_law 330 = .ok (.aload_n 3, 1) := by decide +kernel
theorem dL_law_331 : decode cL_law 331 = .ok (.iconst 0, 1) := by decide +kernel
theorem dL_law_332 : decode cL_law 332 = .ok (.laload, 1) := by decide +kernel
theorem dL_law_333 : decode cL_law 333 = .ok (.iload 6, 2) := by decide +kernel
theorem dL_law_335 : decode cL_law 335 = .ok (.i2l, 1) := by decide +kernel
theorem dL_law_336 : decode cL_law 336 = .ok (.lcmp, 1) := by decide +kernel
theorem dL_law_337 : decode cL_law 337 = .ok (.ifCond .eq 5, 3) := by decide +kernel
theorem dL_law_340 : decode cL_law 340 = .ok (.iconst 0, 1) := by decide +kernel
theorem dL_law_341 : decode cL_law 341 = .ok (.ireturn, 1) := by decide +kernel
theorem dL_law_342 : decode cL_law 342 = .ok (.goto 2111, 3) := by decide +kernel
theorem dL_law_345 : decode cL_law 345 = .ok (.aload_n 1, 1) := by decide +kernel
theorem dL_law_346 : decode cL_law 346 = .ok (.invokevirtual 129, 3) := by decide +kernel
theorem dL_law_349 : decode cL_law 349 = .ok (.aload_n 2, 1) := by decide +kernel
theorem dL_law_350 : decode cL_law 350 = .ok (.invokevirtual 132, 3) := by decide +kernel
theorem dL_law_353 : decode cL_law 353 = .ok (.if_icmp .eq 2100, 3) := by decide +kernel
theorem dL_law_356 : decode cL_law 356 = .ok (.iconst 0, 1) := by decide +kernel
theorem dL_law_357 : decode cL_law 357 = .ok (.ireturn, 1) := by decide +kernel
theorem dL_law_358 : decode cL_law 358 = .ok (.aload_n 1, 1) := by decide +kernel
theorem dL_law_359 : decode cL_law 359 = .ok (.aload_n 0, 1) := by decide +kernel
theorem dL_law_360 : decode cL_law 360 = .ok (.iload 4, 2) := by decide +kernel
theorem dL_law_362 : decode cL_law 362 = .ok (.iconst 1, 1) := by decide +kernel
theorem dL_law_363 : decode cL_law 363 = .ok (.iadd, 1) := by decide +kernel
theorem dL_law_364 : decode cL_law 364 = .ok (.iaload, 1) := by decide +kernel
theorem dL_law_365 : decode cL_law 365 = .ok (.aload_n 3, 1) := by decide +kernel
theorem dL_law_366 : decode cL_law 366 = .ok (.invokestatic 133, 3) := by decide +kernel
theorem dL_law_369 : decode cL_law 369 = .ok (.istore 5, 2) := by decide +kernel
theorem dL_law_371 : decode cL_law 371 = .ok (.aload_n 2, 1) := by decide +kernel
theorem dL_law_372 : decode cL_law 372 = .ok (.aload_n 0, 1) := by decide +kernel
theorem dL_law_373 : decode cL_law 373 = .ok (.iload 4, 2) := by decide +kernel
theorem dL_law_375 : decode cL_law 375 = .ok (.iconst 1, 1) := by decide +kernel
theorem dL_law_376 : decode cL_law 376 = .ok (.iadd, 1) := by decide +kernel
theorem dL_law_377 : decode cL_law 377 = .ok (.iaload, 1) := by decide +kernel
theorem dL_law_378 : decode cL_law 378 = .ok (.invokevirtual 135, 3) := by decide +kernel
theorem dL_law_381 : decode cL_law 381 = .ok (.istore 6, 2) := by decide +kernel
theorem dL_law_383 : decode cL_law 383 = .ok (.aload_n 2, 1) := by decide +kernel
theorem dL_law_384 : decode cL_law 384 = .ok (.invokevirtual 125, 3) := by decide +kernel
theorem dL_law_387 : decode cL_law 387 = .ok (.iload 5, 2) := by decide +kernel
theorem dL_law_389 : decode cL_law 389 = .ok (.if_icmp .eq 5, 3) := by decide +kernel
theorem dL_law_392 : decode cL_law 392 = .ok (.iconst 0, 1) := by decide +kernel
theorem dL_law_393 : decode cL_law 393 = .ok (.ireturn, 1) := by decide +kernel
theorem dL_law_394 : decode cL_law 394 = .ok (.iload 5, 2) := by decide +kernel
theorem dL_law_396 : decode cL_law 396 = .ok (.ifCond .ne 15, 3) := by decide +kernel
theorem dL_law_399 : decode cL_law 399 = .ok (.aload_n 3, 1) := by decide +kernel
theorem dL_law_400 : decode cL_law 400 = .ok (.iconst 0, 1) := by decide +kernel
theorem dL_law_401 : decode cL_law 401 = .ok (.laload, 1) := by decide +kernel
theorem dL_law_402 : decode cL_law 402 = .ok (.iload 6, 2) := by decide +kernel
theorem dL_law_404 : decode cL_law 404 = .ok (.i2l, 1) := by decide +kernel
theorem dL_law_405 : decode cL_law 405 = .ok (.lcmp, 1) := by decide +kernel
theorem dL_law_406 : decode cL_law 406 = .ok (.ifCond .eq 5, 3) := by decide +kernel
theorem dL_law_409 : decode cL_law 409 = .ok (.iconst 0, 1) := by decide +kernel
theorem dL_law_410 : decode cL_law 410 = .ok (.ireturn, 1) := by decide +kernel
theorem dL_law_411 : decode cL_law 411 = .ok (.goto 2042, 3) := by decide +kernel
theorem dL_law_414 : decode cL_law 414 = .ok (.aload_n 1, 1) := by decide +kernel
theorem dL_law_415 : decode cL_law 415 = .ok (.aload_n 0, 1) := by decide +kernel
theorem dL_law_416 : decode cL_law 416 = .ok (.iload 4, 2) := by decide +kernel
theorem dL_law_418 : decode cL_law 418 = .ok (.iconst 1, 1) := by decide +kernel
theorem dL_law_419 : decode cL_law 419 = .ok (.iadd, 1) := by decide +kernel
theorem dL_law_420 : decode cL_law 420 = .ok (.iaload, 1) := by decide +kernel
theorem dL_law_421 : decode cL_law 421 = .ok (.aload_n 0, 1) := by decide +kernel
theorem dL_law_422 : decode cL_law 422 = .ok (.iload 4, 2) := by decide +kernel
theorem dL_law_424 : decode cL_law 424 = .ok (.iconst 2, 1) := by decide +kernel
theorem dL_law_425 : decode cL_law 425 = .ok (.iadd, 1) := by decide +kernel
theorem dL_law_426 : decode cL_law 426 = .ok (.iaload, 1) := by decide +kernel
theorem dL_law_427 : decode cL_law 427 = .ok (.aload_n 3, 1) := by decide +kernel
theorem dL_law_428 : decode cL_law 428 = .ok (.invokestatic 136, 3) := by decide +kernel
theorem dL_law_431 : decode cL_law 431 = .ok (.istore 5, 2) := by decide +kernel
theorem dL_law_433 : decode cL_law 433 = .ok (.aload_n 2, 1) := by decide +kernel
theorem dL_law_434 : decode cL_law 434 = .ok (.aload_n 0, 1) := by decide +kernel
theorem dL_law_435 : decode cL_law 435 = .ok (.iload 4, 2) := by decide +kernel
theorem dL_law_437 : decode cL_law 437 = .ok (.iconst 1, 1) := by decide +kernel
theorem dL_law_438 : decode cL_law 438 = .ok (.iadd, 1) := by decide +kernel
theorem dL_law_439 : decode cL_law 439 = .ok (.iaload, 1) := by decide +kernel
theorem dL_law_440 : decode cL_law 440 = .ok (.aload_n 0, 1) := by decide +kernel
theorem dL_law_441 : decode cL_law 441 = .ok (.iload 4, 2) := by decide +kernel
theorem dL_law_443 : decode cL_law 443 = .ok (.iconst 2, 1) := by decide +kernel
theorem dL_law_444 : decode cL_law 444 = .ok (.iadd, 1) := by decide +kernel
theorem dL_law_445 : decode cL_law 445 = .ok (.iaload, 1) := by decide +kernel
theorem dL_law_446 : decode cL_law 446 = .ok (.invokevirtual 139, 3) := by decide +kernel
theorem dL_law_449 : decode cL_law 449 = .ok (.istore 6, 2) := by decide +kernel
theorem dL_law_451 : decode cL_law 451 = .ok (.aload_n 2, 1) := by decide +kernel
theorem dL_law_452 : decode cL_law 452 = .ok (.invokevirtual 125, 3) := by decide +kernel
theorem dL_law_455 : decode cL_law 455 = .ok (.iload 5, 2) := by decide +kernel
theorem dL_law_457 : decode cL_law 457 = .ok (.if_icmp .eq 5, 3) := by decide +kernel
theorem dL_law_460 : decode cL_law 460 = .ok (.iconst 0, 1) := by decide +kernel
theorem dL_law_461 : decode cL_law 461 = .ok (.ireturn, 1) := by decide +kernel
theorem dL_law_462 : decode cL_law 462 = .ok (.iload 5, 2) := by decide +kernel
theorem dL_law_464 : decode cL_law 464 = .ok (.ifCond .ne 15, 3) := by decide +kernel
theorem dL_law_467 : decode cL_law 467 = .ok (.aload_n 3, 1) := by decide +kernel
theorem dL_law_468 : decode cL_law 468 = .ok (.iconst 0, 1) := by decide +kernel
theorem dL_law_469 : decode cL_law 469 = .ok (.laload, 1) := by decide +kernel
theorem dL_law_470 : decode cL_law 470 = .ok (.iload 6, 2) := by decide +kernel
theorem dL_law_472 : decode cL_law 472 = .ok (.i2l, 1) := by decide +kernel
theorem dL_law_473 : decode cL_law 473 = .ok (.lcmp, 1) := by decide +kernel
theorem dL_law_474 : decode cL_law 474 = .ok (.ifCond .eq 5, 3) := by decide +kernel
theorem dL_law_477 : decode cL_law 477 = .ok (.iconst 0, 1) := by decide +kernel
theorem dL_law_478 : decode cL_law 478 = .ok (.ireturn, 1) := by decide +kernel
theorem dL_law_479 : decode cL_law 479 = .ok (.goto 1974, 3) := by decide +kernel
theorem dL_law_482 : decode cL_law 482 = .ok (.aload_n 1, 1) := by decide +kernel
theorem dL_law_483 : decode cL_law 483 = .ok (.aload_n 0, 1) := by decide +kernel
theorem dL_law_484 : decode cL_law 484 = .ok (.iload 4, 2) := by decide +kernel
theorem dL_law_486 : decode cL_law 486 = .ok (.iconst 1, 1) := by decide +kernel
theorem dL_law_487 : decode cL_law 487 = .ok (.iadd, 1) := by decide +kernel
theorem dL_law_488 : decode cL_law 488 = .ok (.iaload, 1) := by decide +kernel
theorem dL_law_489 : decode cL_law 489 = .ok (.aload_n 0, 1) := by decide +kernel
theorem dL_law_490 : decode cL_law 490 = .ok (.iload 4, 2) := by decide +kernel
theorem dL_law_492 : decode cL_law 492 = .ok (.iconst 2, 1) := by decide +kernel
theorem dL_law_493 : decode cL_law 493 = .ok (.iadd, 1) := by decide +kernel
theorem dL_law_494 : decode cL_law 494 = .ok (.iaload, 1) := by decide +kernel
theorem dL_law_495 : decode cL_law 495 = .ok (.aload_n 3, 1) := by decide +kernel
theorem dL_law_496 : decode cL_law 496 = .ok (.invokestatic 140, 3) := by decide +kernel
theorem dL_law_499 : decode cL_law 499 = .ok (.istore 5, 2) := by decide +kernel
theorem dL_law_501 : decode cL_law 501 = .ok (.aload_n 2, 1) := by decide +kernel
theorem dL_law_502 : decode cL_law 502 = .ok (.aload_n 0, 1) := by decide +kernel
theorem dL_law_503 : decode cL_law 503 = .ok (.iload 4, 2) := by decide +kernel
theorem dL_law_505 : decode cL_law 505 = .ok (.iconst 1, 1) := by decide +kernel
theorem dL_law_506 : decode cL_law 506 = .ok (.iadd, 1) := by decide +kernel
theorem dL_law_507 : decode cL_law 507 = .ok (.iaload, 1) := by decide +kernel
theorem dL_law_508 : decode cL_law 508 = .ok (.aload_n 0, 1) := by decide +kernel
theorem dL_law_509 : decode cL_law 509 = .ok (.iload 4, 2) := by decide +kernel
theorem dL_law_511 : decode cL_law 511 = .ok (.iconst 2, 1) := by decide +kernel
theorem dL_law_512 : decode cL_law 512 = .ok (.iadd, 1) := by decide +kernel
theorem dL_law_513 : decode cL_law 513 = .ok (.iaload, 1) := by decide +kernel
theorem dL_law_514 : decode cL_law 514 = .ok (.invokevirtual 142, 3) := by decide +kernel
theorem dL_law_517 : decode cL_law 517 = .ok (.istore 6, 2) := by decide +kernel
theorem dL_law_519 : decode cL_law 519 = .ok (.aload_n 2, 1) := by decide +kernel
theorem dL_law_520 : decode cL_law 520 = .ok (.invokevirtual 125, 3) := by decide +kernel
theorem dL_law_523 : decode cL_law 523 = .ok (.iload 5, 2) := by decide +kernel
theorem dL_law_525 : decode cL_law 525 = .ok (.if_icmp .eq 5, 3) := by decide +kernel
theorem dL_law_528 : decode cL_law 528 = .ok (.iconst 0, 1) := by decide +kernel
theorem dL_law_529 : decode cL_law 529 = .ok (.ireturn, 1) := by decide +kernel
theorem dL_law_530 : decode cL_law 530 = .ok (.iload 5, 2) := by decide +kernel
theorem dL_law_532 : decode cL_law 532 = .ok (.ifCond .ne 15, 3) := by decide +kernel
theorem dL_law_535 : decode cL_law 535 = .ok (.aload_n 3, 1) := by decide +kernel
theorem dL_law_536 : decode cL_law 536 = .ok (.iconst 0, 1) := by decide +kernel
theorem dL_law_537 : decode cL_law 537 = .ok (.laload, 1) := by decide +kernel
theorem dL_law_538 : decode cL_law 538 = .ok (.iload 6, 2) := by decide +kernel
theorem dL_law_540 : decode cL_law 540 = .ok (.i2l, 1) := by decide +kernel
theorem dL_law_541 : decode cL_law 541 = .ok (.lcmp, 1) := by decide +kernel
theorem dL_law_542 : decode cL_law 542 = .ok (.ifCond .eq 5, 3) := by decide +kernel
theorem dL_law_545 : decode cL_law 545 = .ok (.iconst 0, 1) := by decide +kernel
theorem dL_law_546 : decode cL_law 546 = .ok (.ireturn, 1) := by decide +kernel
theorem dL_law_547 : decode cL_law 547 = .ok (.goto 1906, 3) := by decide +kernel
theorem dL_law_550 : decode cL_law 550 = .ok (.aload_n 1, 1) := by decide +kernel
theorem dL_law_551 : decode cL_law 551 = .ok (.aload_n 0, 1) := by decide +kernel
theorem dL_law_552 : decode cL_law 552 = .ok (.iload 4, 2) := by decide +kernel
theorem dL_law_554 : decode cL_law 554 = .ok (.iconst 1, 1) := by decide +kernel
theorem dL_law_555 : decode cL_law 555 = .ok (.iadd, 1) := by decide +kernel
theorem dL_law_556 : decode cL_law 556 = .ok (.iaload, 1) := by decide +kernel
theorem dL_law_557 : decode cL_law 557 = .ok (.aload_n 0, 1) := by decide +kernel
theorem dL_law_558 : decode cL_law 558 = .ok (.iload 4, 2) := by decide +kernel
theorem dL_law_560 : decode cL_law 560 = .ok (.iconst 2, 1) := by decide +kernel
theorem dL_law_561 : decode cL_law 561 = .ok (.iadd, 1) := by decide +kernel
theorem dL_law_562 : decode cL_law 562 = .ok (.iaload, 1) := by decide +kernel
theorem dL_law_563 : decode cL_law 563 = .ok (.aload_n 3, 1) := by decide +kernel
theorem dL_law_564 : decode cL_law 564 = .ok (.invokestatic 143, 3) := by decide +kernel
theorem dL_law_567 : decode cL_law 567 = .ok (.istore 5, 2) := by decide +kernel
theorem dL_law_569 : decode cL_law 569 = .ok (.aload_n 2, 1) := by decide +kernel
theorem dL_law_570 : decode cL_law 570 = .ok (.aload_n 0, 1) := by decide +kernel
theorem dL_law_571 : decode cL_law 571 = .ok (.iload 4, 2) := by decide +kernel
theorem dL_law_573 : decode cL_law 573 = .ok (.iconst 1, 1) := by decide +kernel
theorem dL_law_574 : decode cL_law 574 = .ok (.iadd, 1) := by decide +kernel
theorem dL_law_575 : decode cL_law 575 = .ok (.iaload, 1) := by decide +kernel
theorem dL_law_576 : decode cL_law 576 = .ok (.aload_n 0, 1) := by decide +kernel
theorem dL_law_577 : decode cL_law 577 = .ok (.iload 4, 2) := by decide +kernel
theorem dL_law_579 : decode cL_law 579 = .ok (.iconst 2, 1) := by decide +kernel
theorem dL_law_580 : decode cL_law 580 = .ok (.iadd, 1) := by decide +kernel
theorem dL_law_581 : decode cL_law 581 = .ok (.iaload, 1) := by decide +kernel
theorem dL_law_582 : decode cL_law 582 = .ok (.invokevirtual 145, 3) := by decide +kernel
theorem dL_law_585 : decode cL_law 585 = .ok (.istore 6, 2) := by decide +kernel
theorem dL_law_587 : decode cL_law 587 = .ok (.aload_n 2, 1) := by decide +kernel
theorem dL_law_588 : decode cL_law 588 = .ok (.invokevirtual 125, 3) := by decide +kernel
theorem dL_law_591 : decode cL_law 591 = .ok (.iload 5, 2) := by decide +kernel
theorem dL_law_593 : decode cL_law 593 = .ok (.if_icmp .eq 5, 3) := by decide +kernel
theorem dL_law_596 : decode cL_law 596 = .ok (.iconst 0, 1) := by decide +kernel
theorem dL_law_597 : decode cL_law 597 = .ok (.ireturn, 1) := by decide +kernel
theorem dL_law_598 : decode cL_law 598 = .ok (.iload 5, 2) := by decide +kernel
theorem dL_law_600 : decode cL_law 600 = .ok (.ifCond .ne 15, 3) := by decide +kernel
theorem dL_law_603 : decode cL_law 603 = .ok (.aload_n 3, 1) := by decide +kernel
theorem dL_law_604 : decode cL_law 604 = .ok (.iconst 0, 1) := by decide +kernel
theorem dL_law_605 : decode cL_law 605 = .ok (.laload, 1) := by decide +kernel
theorem dL_law_606 : decode cL_law 606 = .ok (.iload 6, 2) := by decide +kernel
theorem dL_law_608 : decode cL_law 608 = .ok (.i2l, 1) := by decide +kernel
theorem dL_law_609 : decode cL_law 609 = .ok (.lcmp, 1) := by decide +kernel
theorem dL_law_610 : decode cL_law 610 = .ok (.ifCond .eq 5, 3) := by decide +kernel
theorem dL_law_613 : decode cL_law 613 = .ok (.iconst 0, 1) := by decide +kernel
theorem dL_law_614 : decode cL_law 614 = .ok (.ireturn, 1) := by decide +kernel
theorem dL_law_615 : decode cL_law 615 = .ok (.goto 1838, 3) := by decide +kernel
theorem dL_law_618 : decode cL_law 618 = .ok (.aload_n 1, 1) := by decide +kernel
theorem dL_law_619 : decode cL_law 619 = .ok (.aload_n 0, 1) := by decide +kernel
theorem dL_law_620 : decode cL_law 620 = .ok (.iload 4, 2) := by decide +kernel
theorem dL_law_622 : decode cL_law 622 = .ok (.iconst 1, 1) := by decide +kernel
theorem dL_law_623 : decode cL_law 623 = .ok (.iadd, 1) := by decide +kernel
theorem dL_law_624 : decode cL_law 624 = .ok (.iaload, 1) := by decide +kernel
theorem dL_law_625 : decode cL_law 625 = .ok (.invokevirtual 146, 3) := by decide +kernel
theorem dL_law_628 : decode cL_law 628 = .ok (.aload_n 2, 1) := by decide +kernel
theorem dL_law_629 : decode cL_law 629 = .ok (.aload_n 0, 1) := by decide +kernel
theorem dL_law_630 : decode cL_law 630 = .ok (.iload 4, 2) := by decide +kernel
theorem dL_law_632 : decode cL_law 632 = .ok (.iconst 1, 1) := by decide +kernel
theorem dL_law_633 : decode cL_law 633 = .ok (.iadd, 1) := by decide +kernel
theorem dL_law_634 : decode cL_law 634 = .ok (.iaload, 1) := by decide +kernel
theorem dL_law_635 : decode cL_law 635 = .ok (.invokevirtual 149, 3) := by decide +kernel
theorem dL_law_638 : decode cL_law 638 = .ok (.if_icmp .eq 1815, 3) := by decide +kernel
theorem dL_law_641 : decode cL_law 641 = .ok (.iconst 0, 1) := by decide +kernel
theorem dL_law_642 : decode cL_law 642 = .ok (.ireturn, 1) := by decide +kernel
theorem dL_law_643 : decode cL_law 643 = .ok (.aload_n 1, 1) := by decide +kernel
theorem dL_law_644 : decode cL_law 644 = .ok (.aload_n 0, 1) := by decide +kernel
theorem dL_law_645 : decode cL_law 645 = .ok (.iload 4, 2) := by decide +kernel
theorem dL_law_647 : decode cL_law 647 = .ok (.iconst 1, 1) := by decide +kernel
theorem dL_law_648 : decode cL_law 648 = .ok (.iadd, 1) := by decide +kernel
theorem dL_law_649 : decode cL_law 649 = .ok (.iaload, 1) := by decide +kernel
theorem dL_law_650 : decode cL_law 650 = .ok (.aload_n 3, 1) := by decide +kernel
theorem dL_law_651 : decode cL_law 651 = .ok (.invokestatic 150, 3) := by decide +kernel
theorem dL_law_654 : decode cL_law 654 = .ok (.istore 5, 2) := by decide +kernel
theorem dL_law_656 : decode cL_law 656 = .ok (.aload_n 2, 1) := by decide +kernel
theorem dL_law_657 : decode cL_law 657 = .ok (.aload_n 0, 1) := by decide +kernel
theorem dL_law_658 : decode cL_law 658 = .ok (.iload 4, 2) := by decide +kernel
theorem dL_law_660 : decode cL_law 660 = .ok (.iconst 1, 1) := by decide +kernel
theorem dL_law_661 : decode cL_law 661 = .ok (.iadd, 1) := by decide +kernel
theorem dL_law_662 : decode cL_law 662 = .ok (.iaload, 1) := by decide +kernel
theorem dL_law_663 : decode cL_law 663 = .ok (.invokevirtual 152, 3) := by decide +kernel
theorem dL_law_666 : decode cL_law 666 = .ok (.istore 6, 2) := by decide +kernel
theorem dL_law_668 : decode cL_law 668 = .ok (.aload_n 2, 1) := by decide +kernel
theorem dL_law_669 : decode cL_law 669 = .ok (.invokevirtual 125, 3) := by decide +kernel
theorem dL_law_672 : decode cL_law 672 = .ok (.iload 5, 2) := by decide +kernel
theorem dL_law_674 : decode cL_law 674 = .ok (.if_icmp .eq 5, 3) := by decide +kernel
theorem dL_law_677 : decode cL_law 677 = .ok (.iconst 0, 1) := by decide +kernel
theorem dL_law_678 : decode cL_law 678 = .ok (.ireturn, 1) := by decide +kernel
theorem dL_law_679 : decode cL_law 679 = .ok (.iload 5, 2) := by decide +kernel
theorem dL_law_681 : decode cL_law 681 = .ok (.ifCond .ne 15, 3) := by decide +kernel
theorem dL_law_684 : decode cL_law 684 = .ok (.aload_n 3, 1) := by decide +kernel
theorem dL_law_685 : decode cL_law 685 = .ok (.iconst 0, 1) := by decide +kernel
theorem dL_law_686 : decode cL_law 686 = .ok (.laload, 1) := by decide +kernel
theorem dL_law_687 : decode cL_law 687 = .ok (.iload 6, 2) := by decide +kernel
theorem dL_law_689 : decode cL_law 689 = .ok (.i2l, 1) := by decide +kernel
theorem dL_law_690 : decode cL_law 690 = .ok (.lcmp, 1) := by decide +kernel
theorem dL_law_691 : decode cL_law 691 = .ok (.ifCond .eq 5, 3) := by decide +kernel
theorem dL_law_694 : decode cL_law 694 = .ok (.iconst 0, 1) := by decide +kernel
theorem dL_law_695 : decode cL_law 695 = .ok (.ireturn, 1) := by decide +kernel
theorem dL_law_696 : decode cL_law 696 = .ok (.goto 1757, 3) := by decide +kernel
theorem dL_law_699 : decode cL_law 699 = .ok (.aload_n 1, 1) := by decide +kernel
theorem dL_law_700 : decode cL_law 700 = .ok (.aload_n 0, 1) := by decide +kernel
theorem dL_law_701 : decode cL_law 701 = .ok (.iload 4, 2) := by decide +kernel
theorem dL_law_703 : decode cL_law 703 = .ok (.iconst 1, 1) := by decide +kernel
theorem dL_law_704 : decode cL_law 704 = .ok (.iadd, 1) := by decide +kernel
theorem dL_law_705 : decode cL_law 705 = .ok (.iaload, 1) := by decide +kernel
theorem dL_law_706 : decode cL_law 706 = .ok (.aload_n 3, 1) := by decide +kernel
theorem dL_law_707 : decode cL_law 707 = .ok (.invokestatic 153, 3) := by decide +kernel
theorem dL_law_710 : decode cL_law 710 = .ok (.istore 5, 2) := by decide +kernel
theorem dL_law_712 : decode cL_law 712 = .ok (.aload_n 2, 1) := by decide +kernel
theorem dL_law_713 : decode cL_law 713 = .ok (.aload_n 0, 1) := by decide +kernel
theorem dL_law_714 : decode cL_law 714 = .ok (.iload 4, 2) := by decide +kernel
theorem dL_law_716 : decode cL_law 716 = .ok (.iconst 1, 1) := by decide +kernel
theorem dL_law_717 : decode cL_law 717 = .ok (.iadd, 1) := by decide +kernel
theorem dL_law_718 : decode cL_law 718 = .ok (.iaload, 1) := by decide +kernel
theorem dL_law_719 : decode cL_law 719 = .ok (.invokevirtual 155, 3) := by decide +kernel
theorem dL_law_722 : decode cL_law 722 = .ok (.istore 6, 2) := by decide +kernel
theorem dL_law_724 : decode cL_law 724 = .ok (.aload_n 2, 1) := by decide +kernel
theorem dL_law_725 : decode cL_law 725 = .ok (.invokevirtual 125, 3) := by decide +kernel
theorem dL_law_728 : decode cL_law 728 = .ok (.iload 5, 2) := by decide +kernel
theorem dL_law_730 : decode cL_law 730 = .ok (.if_icmp .eq 5, 3) := by decide +kernel
theorem dL_law_733 : decode cL_law 733 = .ok (.iconst 0, 1) := by decide +kernel
theorem dL_law_734 : decode cL_law 734 = .ok (.ireturn, 1) := by decide +kernel
theorem dL_law_735 : decode cL_law 735 = .ok (.iload 5, 2) := by decide +kernel
theorem dL_law_737 : decode cL_law 737 = .ok (.ifCond .ne 15, 3) := by decide +kernel
theorem dL_law_740 : decode cL_law 740 = .ok (.aload_n 3, 1) := by decide +kernel
theorem dL_law_741 : decode cL_law 741 = .ok (.iconst 0, 1) := by decide +kernel
theorem dL_law_742 : decode cL_law 742 = .ok (.laload, 1) := by decide +kernel
theorem dL_law_743 : decode cL_law 743 = .ok (.iload 6, 2) := by decide +kernel
theorem dL_law_745 : decode cL_law 745 = .ok (.i2l, 1) := by decide +kernel
theorem dL_law_746 : decode cL_law 746 = .ok (.lcmp, 1) := by decide +kernel
theorem dL_law_747 : decode cL_law 747 = .ok (.ifCond .eq 5, 3) := by decide +kernel
theorem dL_law_750 : decode cL_law 750 = .ok (.iconst 0, 1) := by decide +kernel
theorem dL_law_751 : decode cL_law 751 = .ok (.ireturn, 1) := by decide +kernel
theorem dL_law_752 : decode cL_law 752 = .ok (.goto 1701, 3) := by decide +kernel
theorem dL_law_755 : decode cL_law 755 = .ok (.aload_n 1, 1) := by decide +kernel
theorem dL_law_756 : decode cL_law 756 = .ok (.aload_n 0, 1) := by decide +kernel
theorem dL_law_757 : decode cL_law 757 = .ok (.iload 4, 2) := by decide +kernel
theorem dL_law_759 : decode cL_law 759 = .ok (.iconst 1, 1) := by decide +kernel
theorem dL_law_760 : decode cL_law 760 = .ok (.iadd, 1) := by decide +kernel
theorem dL_law_761 : decode cL_law 761 = .ok (.iaload, 1) := by decide +kernel
theorem dL_law_762 : decode cL_law 762 = .ok (.aload_n 0, 1) := by decide +kernel
theorem dL_law_763 : decode cL_law 763 = .ok (.iload 4, 2) := by decide +kernel
theorem dL_law_765 : decode cL_law 765 = .ok (.iconst 2, 1) := by decide +kernel
theorem dL_law_766 : decode cL_law 766 = .ok (.iadd, 1) := by decide +kernel
theorem dL_law_767 : decode cL_law 767 = .ok (.iaload, 1) := by decide +kernel
theorem dL_law_768 : decode cL_law 768 = .ok (.aload_n 3, 1) := by decide +kernel
theorem dL_law_769 : decode cL_law 769 = .ok (.invokestatic 156, 3) := by decide +kernel
theorem dL_law_772 : decode cL_law 772 = .ok (.istore 5, 2) := by decide +kernel
theorem dL_law_774 : decode cL_law 774 = .ok (.aload_n 2, 1) := by decide +kernel
theorem dL_law_775 : decode cL_law 775 = .ok (.aload_n 0, 1) := by decide +kernel
theorem dL_law_776 : decode cL_law 776 = .ok (.iload 4, 2) := by decide +kernel
theorem dL_law_778 : decode cL_law 778 = .ok (.iconst 1, 1) := by decide +kernel
theorem dL_law_779 : decode cL_law 779 = .ok (.iadd, 1) := by decide +kernel
theorem dL_law_780 : decode cL_law 780 = .ok (.iaload, 1) := by decide +kernel
theorem dL_law_781 : decode cL_law 781 = .ok (.aload_n 0, 1) := by decide +kernel
theorem dL_law_782 : decode cL_law 782 = .ok (.iload 4, 2) := by decide +kernel
theorem dL_law_784 : decode cL_law 784 = .ok (.iconst 2, 1) := by decide +kernel
theorem dL_law_785 : decode cL_law 785 = .ok (.iadd, 1) := by decide +kernel
theorem dL_law_786 : decode cL_law 786 = .ok (.iaload, 1) := by decide +kernel
theorem dL_law_787 : decode cL_law 787 = .ok (.invokevirtual 158, 3) := by decide +kernel
theorem dL_law_790 : decode cL_law 790 = .ok (.istore 6, 2) := by decide +kernel
theorem dL_law_792 : decode cL_law 792 = .ok (.aload_n 2, 1) := by decide +kernel
theorem dL_law_793 : decode cL_law 793 = .ok (.invokevirtual 125, 3) := by decide +kernel
theorem dL_law_796 : decode cL_law 796 = .ok (.iload 5, 2) := by decide +kernel
theorem dL_law_798 : decode cL_law 798 = .ok (.if_icmp .eq 5, 3) := by decide +kernel
theorem dL_law_801 : decode cL_law 801 = .ok (.iconst 0, 1) := by decide +kernel
theorem dL_law_802 : decode cL_law 802 = .ok (.ireturn, 1) := by decide +kernel
theorem dL_law_803 : decode cL_law 803 = .ok (.iload 5, 2) := by decide +kernel
theorem dL_law_805 : decode cL_law 805 = .ok (.ifCond .ne 15, 3) := by decide +kernel
theorem dL_law_808 : decode cL_law 808 = .ok (.aload_n 3, 1) := by decide +kernel
theorem dL_law_809 : decode cL_law 809 = .ok (.iconst 0, 1) := by decide +kernel
theorem dL_law_810 : decode cL_law 810 = .ok (.laload, 1) := by decide +kernel
theorem dL_law_811 : decode cL_law 811 = .ok (.iload 6, 2) := by decide +kernel
theorem dL_law_813 : decode cL_law 813 = .ok (.i2l, 1) := by decide +kernel
theorem dL_law_814 : decode cL_law 814 = .ok (.lcmp, 1) := by decide +kernel
theorem dL_law_815 : decode cL_law 815 = .ok (.ifCond .eq 5, 3) := by decide +kernel
theorem dL_law_818 : decode cL_law 818 = .ok (.iconst 0, 1) := by decide +kernel
theorem dL_law_819 : decode cL_law 819 = .ok (.ireturn, 1) := by decide +kernel
theorem dL_law_820 : decode cL_law 820 = .ok (.goto 1633, 3) := by decide +kernel
theorem dL_law_823 : decode cL_law 823 = .ok (.aload_n 1, 1) := by decide +kernel
theorem dL_law_824 : decode cL_law 824 = .ok (.aload_n 0, 1) := by decide +kernel
theorem dL_law_825 : decode cL_law 825 = .ok (.iload 4, 2) := by decide +kernel
theorem dL_law_827 : decode cL_law 827 = .ok (.iconst 1, 1) := by decide +kernel
theorem dL_law_828 : decode cL_law 828 = .ok (.iadd, 1) := by decide +kernel
theorem dL_law_829 : decode cL_law 829 = .ok (.iaload, 1) := by decide +kernel
theorem dL_law_830 : decode cL_law 830 = .ok (.ifCond .eq 7, 3) := by decide +kernel
theorem dL_law_833 : decode cL_law 833 = .ok (.iconst 1, 1) := by decide +kernel
theorem dL_law_834 : decode cL_law 834 = .ok (.goto 4, 3) := by decide +kernel
theorem dL_law_837 : decode cL_law 837 = .ok (.iconst 0, 1) := by decide +kernel
theorem dL_law_838 : decode cL_law 838 = .ok (.invokevirtual 159, 3) := by decide +kernel
theorem dL_law_841 : decode cL_law 841 = .ok (.aload_n 2, 1) := by decide +kernel
theorem dL_law_842 : decode cL_law 842 = .ok (.aload_n 0, 1) := by decide +kernel
theorem dL_law_843 : decode cL_law 843 = .ok (.iload 4, 2) := by decide +kernel
theorem dL_law_845 : decode cL_law 845 = .ok (.iconst 1, 1) := by decide +kernel
theorem dL_law_846 : decode cL_law 846 = .ok (.iadd, 1) := by decide +kernel
theorem dL_law_847 : decode cL_law 847 = .ok (.iaload, 1) := by decide +kernel
theorem dL_law_848 : decode cL_law 848 = .ok (.ifCond .eq 7, 3) := by decide +kernel
theorem dL_law_851 : decode cL_law 851 = .ok (.iconst 1, 1) := by decide +kernel
theorem dL_law_852 : decode cL_law 852 = .ok (.goto 4, 3) := by decide +kernel
theorem dL_law_855 : decode cL_law 855 = .ok (.iconst 0, 1) := by decide +kernel
theorem dL_law_856 : decode cL_law 856 = .ok (.invokevirtual 163, 3) := by decide +kernel
theorem dL_law_859 : decode cL_law 859 = .ok (.if_icmp .eq 1594, 3) := by decide +kernel
theorem dL_law_862 : decode cL_law 862 = .ok (.iconst 0, 1) := by decide +kernel
theorem dL_law_863 : decode cL_law 863 = .ok (.ireturn, 1) := by decide +kernel
theorem dL_law_864 : decode cL_law 864 = .ok (.aload_n 1, 1) := by decide +kernel
theorem dL_law_865 : decode cL_law 865 = .ok (.invokevirtual 164, 3) := by decide +kernel
theorem dL_law_868 : decode cL_law 868 = .ok (.aload_n 2, 1) := by decide +kernel
theorem dL_law_869 : decode cL_law 869 = .ok (.invokevirtual 167, 3) := by decide +kernel
theorem dL_law_872 : decode cL_law 872 = .ok (.if_icmp .eq 1581, 3) := by decide +kernel
theorem dL_law_875 : decode cL_law 875 = .ok (.iconst 0, 1) := by decide +kernel
theorem dL_law_876 : decode cL_law 876 = .ok (.ireturn, 1) := by decide +kernel
theorem dL_law_877 : decode cL_law 877 = .ok (.aload_n 1, 1) := by decide +kernel
theorem dL_law_878 : decode cL_law 878 = .ok (.aload_n 0, 1) := by decide +kernel
theorem dL_law_879 : decode cL_law 879 = .ok (.iload 4, 2) := by decide +kernel
theorem dL_law_881 : decode cL_law 881 = .ok (.iconst 1, 1) := by decide +kernel
theorem dL_law_882 : decode cL_law 882 = .ok (.iadd, 1) := by decide +kernel
theorem dL_law_883 : decode cL_law 883 = .ok (.iaload, 1) := by decide +kernel
theorem dL_law_884 : decode cL_law 884 = .ok (.aload_n 0, 1) := by decide +kernel
theorem dL_law_885 : decode cL_law 885 = .ok (.iload 4, 2) := by decide +kernel
theorem dL_law_887 : decode cL_law 887 = .ok (.iconst 2, 1) := by decide +kernel
theorem dL_law_888 : decode cL_law 888 = .ok (.iadd, 1) := by decide +kernel
theorem dL_law_889 : decode cL_law 889 = .ok (.iaload, 1) := by decide +kernel
theorem dL_law_890 : decode cL_law 890 = .ok (.aload_n 0, 1) := by decide +kernel
theorem dL_law_891 : decode cL_law 891 = .ok (.iload 4, 2) := by decide +kernel
theorem dL_law_893 : decode cL_law 893 = .ok (.iconst 3, 1) := by decide +kernel
theorem dL_law_894 : decode cL_law 894 = .ok (.iadd, 1) := by decide +kernel
theorem dL_law_895 : decode cL_law 895 = .ok (.iaload, 1) := by decide +kernel
theorem dL_law_896 : decode cL_law 896 = .ok (.aload_n 3, 1) := by decide +kernel
theorem dL_law_897 : decode cL_law 897 = .ok (.invokestatic 168, 3) := by decide +kernel
theorem dL_law_900 : decode cL_law 900 = .ok (.istore 5, 2) := by decide +kernel
theorem dL_law_902 : decode cL_law 902 = .ok (.aload_n 2, 1) := by decide +kernel
theorem dL_law_903 : decode cL_law 903 = .ok (.aload_n 0, 1) := by decide +kernel
theorem dL_law_904 : decode cL_law 904 = .ok (.iload 4, 2) := by decide +kernel
theorem dL_law_906 : decode cL_law 906 = .ok (.iconst 1, 1) := by decide +kernel
theorem dL_law_907 : decode cL_law 907 = .ok (.iadd, 1) := by decide +kernel
theorem dL_law_908 : decode cL_law 908 = .ok (.iaload, 1) := by decide +kernel
theorem dL_law_909 : decode cL_law 909 = .ok (.aload_n 0, 1) := by decide +kernel
theorem dL_law_910 : decode cL_law 910 = .ok (.iload 4, 2) := by decide +kernel
theorem dL_law_912 : decode cL_law 912 = .ok (.iconst 2, 1) := by decide +kernel
theorem dL_law_913 : decode cL_law 913 = .ok (.iadd, 1) := by decide +kernel
theorem dL_law_914 : decode cL_law 914 = .ok (.iaload, 1) := by decide +kernel
theorem dL_law_915 : decode cL_law 915 = .ok (.aload_n 0, 1) := by decide +kernel
theorem dL_law_916 : decode cL_law 916 = .ok (.iload 4, 2) := by decide +kernel
theorem dL_law_918 : decode cL_law 918 = .ok (.iconst 3, 1) := by decide +kernel
theorem dL_law_919 : decode cL_law 919 = .ok (.iadd, 1) := by decide +kernel
theorem dL_law_920 : decode cL_law 920 = .ok (.iaload, 1) := by decide +kernel
theorem dL_law_921 : decode cL_law 921 = .ok (.invokevirtual 171, 3) := by decide +kernel
theorem dL_law_924 : decode cL_law 924 = .ok (.istore 6, 2) := by decide +kernel
theorem dL_law_926 : decode cL_law 926 = .ok (.aload_n 2, 1) := by decide +kernel
theorem dL_law_927 : decode cL_law 927 = .ok (.invokevirtual 125, 3) := by decide +kernel
theorem dL_law_930 : decode cL_law 930 = .ok (.iload 5, 2) := by decide +kernel
theorem dL_law_932 : decode cL_law 932 = .ok (.if_icmp .eq 5, 3) := by decide +kernel
theorem dL_law_935 : decode cL_law 935 = .ok (.iconst 0, 1) := by decide +kernel
theorem dL_law_936 : decode cL_law 936 = .ok (.ireturn, 1) := by decide +kernel
theorem dL_law_937 : decode cL_law 937 = .ok (.iload 5, 2) := by decide +kernel
theorem dL_law_939 : decode cL_law 939 = .ok (.ifCond .ne 15, 3) := by decide +kernel
theorem dL_law_942 : decode cL_law 942 = .ok (.aload_n 3, 1) := by decide +kernel
theorem dL_law_943 : decode cL_law 943 = .ok (.iconst 0, 1) := by decide +kernel
theorem dL_law_944 : decode cL_law 944 = .ok (.laload, 1) := by decide +kernel
theorem dL_law_945 : decode cL_law 945 = .ok (.iload 6, 2) := by decide +kernel
theorem dL_law_947 : decode cL_law 947 = .ok (.i2l, 1) := by decide +kernel
theorem dL_law_948 : decode cL_law 948 = .ok (.lcmp, 1) := by decide +kernel
theorem dL_law_949 : decode cL_law 949 = .ok (.ifCond .eq 5, 3) := by decide +kernel
theorem dL_law_952 : decode cL_law 952 = .ok (.iconst 0, 1) := by decide +kernel
theorem dL_law_953 : decode cL_law 953 = .ok (.ireturn, 1) := by decide +kernel
theorem dL_law_954 : decode cL_law 954 = .ok (.goto 1499, 3) := by decide +kernel
theorem dL_law_957 : decode cL_law 957 = .ok (.aload_n 1, 1) := by decide +kernel
theorem dL_law_958 : decode cL_law 958 = .ok (.aload_n 0, 1) := by decide +kernel
theorem dL_law_959 : decode cL_law 959 = .ok (.iload 4, 2) := by decide +kernel
theorem dL_law_961 : decode cL_law 961 = .ok (.iconst 1, 1) := by decide +kernel
theorem dL_law_962 : decode cL_law 962 = .ok (.iadd, 1) := by decide +kernel
theorem dL_law_963 : decode cL_law 963 = .ok (.iaload, 1) := by decide +kernel
theorem dL_law_964 : decode cL_law 964 = .ok (.aload_n 0, 1) := by decide +kernel
theorem dL_law_965 : decode cL_law 965 = .ok (.iload 4, 2) := by decide +kernel
theorem dL_law_967 : decode cL_law 967 = .ok (.iconst 2, 1) := by decide +kernel
theorem dL_law_968 : decode cL_law 968 = .ok (.iadd, 1) := by decide +kernel
theorem dL_law_969 : decode cL_law 969 = .ok (.iaload, 1) := by decide +kernel
theorem dL_law_970 : decode cL_law 970 = .ok (.aload_n 0, 1) := by decide +kernel
theorem dL_law_971 : decode cL_law 971 = .ok (.iload 4, 2) := by decide +kernel
theorem dL_law_973 : decode cL_law 973 = .ok (.iconst 3, 1) := by decide +kernel
theorem dL_law_974 : decode cL_law 974 = .ok (.iadd, 1) := by decide +kernel
theorem dL_law_975 : decode cL_law 975 = .ok (.iaload, 1) := by decide +kernel
theorem dL_law_976 : decode cL_law 976 = .ok (.aload_n 3, 1) := by decide +kernel
theorem dL_law_977 : decode cL_law 977 = .ok (.invokestatic 172, 3) := by decide +kernel
theorem dL_law_980 : decode cL_law 980 = .ok (.istore 5, 2) := by decide +kernel
theorem dL_law_982 : decode cL_law 982 = .ok (.aload_n 2, 1) := by decide +kernel
theorem dL_law_983 : decode cL_law 983 = .ok (.aload_n 0, 1) := by decide +kernel
theorem dL_law_984 : decode cL_law 984 = .ok (.iload 4, 2) := by decide +kernel
theorem dL_law_986 : decode cL_law 986 = .ok (.iconst 1, 1) := by decide +kernel
theorem dL_law_987 : decode cL_law 987 = .ok (.iadd, 1) := by decide +kernel
theorem dL_law_988 : decode cL_law 988 = .ok (.iaload, 1) := by decide +kernel
theorem dL_law_989 : decode cL_law 989 = .ok (.aload_n 0, 1) := by decide +kernel
theorem dL_law_990 : decode cL_law 990 = .ok (.iload 4, 2) := by decide +kernel
theorem dL_law_992 : decode cL_law 992 = .ok (.iconst 2, 1) := by decide +kernel
theorem dL_law_993 : decode cL_law 993 = .ok (.iadd, 1) := by decide +kernel
theorem dL_law_994 : decode cL_law 994 = .ok (.iaload, 1) := by decide +kernel
theorem dL_law_995 : decode cL_law 995 = .ok (.aload_n 0, 1) := by decide +kernel
theorem dL_law_996 : decode cL_law 996 = .ok (.iload 4, 2) := by decide +kernel
theorem dL_law_998 : decode cL_law 998 = .ok (.iconst 3, 1) := by decide +kernel
theorem dL_law_999 : decode cL_law 999 = .ok (.iadd, 1) := by decide +kernel
theorem dL_law_1000 : decode cL_law 1000 = .ok (.iaload, 1) := by decide +kernel
theorem dL_law_1001 : decode cL_law 1001 = .ok (.invokevirtual 174, 3) := by decide +kernel
theorem dL_law_1004 : decode cL_law 1004 = .ok (.istore 6, 2) := by decide +kernel
theorem dL_law_1006 : decode cL_law 1006 = .ok (.aload_n 2, 1) := by decide +kernel
theorem dL_law_1007 : decode cL_law 1007 = .ok (.invokevirtual 125, 3) := by decide +kernel
theorem dL_law_1010 : decode cL_law 1010 = .ok (.iload 5, 2) := by decide +kernel
theorem dL_law_1012 : decode cL_law 1012 = .ok (.if_icmp .eq 5, 3) := by decide +kernel
theorem dL_law_1015 : decode cL_law 1015 = .ok (.iconst 0, 1) := by decide +kernel
theorem dL_law_1016 : decode cL_law 1016 = .ok (.ireturn, 1) := by decide +kernel
theorem dL_law_1017 : decode cL_law 1017 = .ok (.iload 5, 2) := by decide +kernel
theorem dL_law_1019 : decode cL_law 1019 = .ok (.ifCond .ne 15, 3) := by decide +kernel
theorem dL_law_1022 : decode cL_law 1022 = .ok (.aload_n 3, 1) := by decide +kernel
theorem dL_law_1023 : decode cL_law 1023 = .ok (.iconst 0, 1) := by decide +kernel
theorem dL_law_1024 : decode cL_law 1024 = .ok (.laload, 1) := by decide +kernel
theorem dL_law_1025 : decode cL_law 1025 = .ok (.iload 6, 2) := by decide +kernel
theorem dL_law_1027 : decode cL_law 1027 = .ok (.i2l, 1) := by decide +kernel
theorem dL_law_1028 : decode cL_law 1028 = .ok (.lcmp, 1) := by decide +kernel
theorem dL_law_1029 : decode cL_law 1029 = .ok (.ifCond .eq 5, 3) := by decide +kernel
theorem dL_law_1032 : decode cL_law 1032 = .ok (.iconst 0, 1) := by decide +kernel
theorem dL_law_1033 : decode cL_law 1033 = .ok (.ireturn, 1) := by decide +kernel
theorem dL_law_1034 : decode cL_law 1034 = .ok (.goto 1419, 3) := by decide +kernel
theorem dL_law_1037 : decode cL_law 1037 = .ok (.aload_n 1, 1) := by decide +kernel
theorem dL_law_1038 : decode cL_law 1038 = .ok (.aload_n 0, 1) := by decide +kernel
theorem dL_law_1039 : decode cL_law 1039 = .ok (.iload 4, 2) := by decide +kernel
theorem dL_law_1041 : decode cL_law 1041 = .ok (.iconst 1, 1) := by decide +kernel
theorem dL_law_1042 : decode cL_law 1042 = .ok (.iadd, 1) := by decide +kernel
theorem dL_law_1043 : decode cL_law 1043 = .ok (.iaload, 1) := by decide +kernel
theorem dL_law_1044 : decode cL_law 1044 = .ok (.aload_n 3, 1) := by decide +kernel
theorem dL_law_1045 : decode cL_law 1045 = .ok (.invokestatic 175, 3) := by decide +kernel
theorem dL_law_1048 : decode cL_law 1048 = .ok (.istore 5, 2) := by decide +kernel
theorem dL_law_1050 : decode cL_law 1050 = .ok (.aload_n 2, 1) := by decide +kernel
theorem dL_law_1051 : decode cL_law 1051 = .ok (.aload_n 0, 1) := by decide +kernel
theorem dL_law_1052 : decode cL_law 1052 = .ok (.iload 4, 2) := by decide +kernel
theorem dL_law_1054 : decode cL_law 1054 = .ok (.iconst 1, 1) := by decide +kernel
theorem dL_law_1055 : decode cL_law 1055 = .ok (.iadd, 1) := by decide +kernel
theorem dL_law_1056 : decode cL_law 1056 = .ok (.iaload, 1) := by decide +kernel
theorem dL_law_1057 : decode cL_law 1057 = .ok (.invokevirtual 177, 3) := by decide +kernel
theorem dL_law_1060 : decode cL_law 1060 = .ok (.istore 6, 2) := by decide +kernel
theorem dL_law_1062 : decode cL_law 1062 = .ok (.aload_n 2, 1) := by decide +kernel
theorem dL_law_1063 : decode cL_law 1063 = .ok (.invokevirtual 125, 3) := by decide +kernel
theorem dL_law_1066 : decode cL_law 1066 = .ok (.iload 5, 2) := by decide +kernel
theorem dL_law_1068 : decode cL_law 1068 = .ok (.if_icmp .eq 5, 3) := by decide +kernel
theorem dL_law_1071 : decode cL_law 1071 = .ok (.iconst 0, 1) := by decide +kernel
theorem dL_law_1072 : decode cL_law 1072 = .ok (.ireturn, 1) := by decide +kernel
theorem dL_law_1073 : decode cL_law 1073 = .ok (.iload 5, 2) := by decide +kernel
theorem dL_law_1075 : decode cL_law 1075 = .ok (.ifCond .ne 15, 3) := by decide +kernel
theorem dL_law_1078 : decode cL_law 1078 = .ok (.aload_n 3, 1) := by decide +kernel
theorem dL_law_1079 : decode cL_law 1079 = .ok (.iconst 0, 1) := by decide +kernel
theorem dL_law_1080 : decode cL_law 1080 = .ok (.laload, 1) := by decide +kernel
theorem dL_law_1081 : decode cL_law 1081 = .ok (.iload 6, 2) := by decide +kernel
theorem dL_law_1083 : decode cL_law 1083 = .ok (.i2l, 1) := by decide +kernel
theorem dL_law_1084 : decode cL_law 1084 = .ok (.lcmp, 1) := by decide +kernel
theorem dL_law_1085 : decode cL_law 1085 = .ok (.ifCond .eq 5, 3) := by decide +kernel
theorem dL_law_1088 : decode cL_law 1088 = .ok (.iconst 0, 1) := by decide +kernel
theorem dL_law_1089 : decode cL_law 1089 = .ok (.ireturn, 1) := by decide +kernel
theorem dL_law_1090 : decode cL_law 1090 = .ok (.goto 1363, 3) := by decide +kernel
theorem dL_law_1093 : decode cL_law 1093 = .ok (.aload_n 1, 1) := by decide +kernel
theorem dL_law_1094 : decode cL_law 1094 = .ok (.aload_n 0, 1) := by decide +kernel
theorem dL_law_1095 : decode cL_law 1095 = .ok (.iload 4, 2) := by decide +kernel
theorem dL_law_1097 : decode cL_law 1097 = .ok (.iconst 1, 1) := by decide +kernel
theorem dL_law_1098 : decode cL_law 1098 = .ok (.iadd, 1) := by decide +kernel
theorem dL_law_1099 : decode cL_law 1099 = .ok (.iaload, 1) := by decide +kernel
theorem dL_law_1100 : decode cL_law 1100 = .ok (.aload_n 0, 1) := by decide +kernel
theorem dL_law_1101 : decode cL_law 1101 = .ok (.iload 4, 2) := by decide +kernel
theorem dL_law_1103 : decode cL_law 1103 = .ok (.iconst 2, 1) := by decide +kernel
theorem dL_law_1104 : decode cL_law 1104 = .ok (.iadd, 1) := by decide +kernel
theorem dL_law_1105 : decode cL_law 1105 = .ok (.iaload, 1) := by decide +kernel
theorem dL_law_1106 : decode cL_law 1106 = .ok (.aload_n 3, 1) := by decide +kernel
theorem dL_law_1107 : decode cL_law 1107 = .ok (.invokestatic 178, 3) := by decide +kernel
theorem dL_law_1110 : decode cL_law 1110 = .ok (.istore 5, 2) := by decide +kernel
theorem dL_law_1112 : decode cL_law 1112 = .ok (.aload_n 2, 1) := by decide +kernel
theorem dL_law_1113 : decode cL_law 1113 = .ok (.aload_n 0, 1) := by decide +kernel
theorem dL_law_1114 : decode cL_law 1114 = .ok (.iload 4, 2) := by decide +kernel
theorem dL_law_1116 : decode cL_law 1116 = .ok (.iconst 1, 1) := by decide +kernel
theorem dL_law_1117 : decode cL_law 1117 = .ok (.iadd, 1) := by decide +kernel
theorem dL_law_1118 : decode cL_law 1118 = .ok (.iaload, 1) := by decide +kernel
theorem dL_law_1119 : decode cL_law 1119 = .ok (.aload_n 0, 1) := by decide +kernel
theorem dL_law_1120 : decode cL_law 1120 = .ok (.iload 4, 2) := by decide +kernel
theorem dL_law_1122 : decode cL_law 1122 = .ok (.iconst 2, 1) := by decide +kernel
theorem dL_law_1123 : decode cL_law 1123 = .ok (.iadd, 1) := by decide +kernel
theorem dL_law_1124 : decode cL_law 1124 = .ok (.iaload, 1) := by decide +kernel
theorem dL_law_1125 : decode cL_law 1125 = .ok (.invokevirtual 180, 3) := by decide +kernel
theorem dL_law_1128 : decode cL_law 1128 = .ok (.istore 6, 2) := by decide +kernel
theorem dL_law_1130 : decode cL_law 1130 = .ok (.aload_n 2, 1) := by decide +kernel
theorem dL_law_1131 : decode cL_law 1131 = .ok (.invokevirtual 125, 3) := by decide +kernel
theorem dL_law_1134 : decode cL_law 1134 = .ok (.iload 5, 2) := by decide +kernel
theorem dL_law_1136 : decode cL_law 1136 = .ok (.if_icmp .eq 5, 3) := by decide +kernel
theorem dL_law_1139 : decode cL_law 1139 = .ok (.iconst 0, 1) := by decide +kernel
theorem dL_law_1140 : decode cL_law 1140 = .ok (.ireturn, 1) := by decide +kernel
theorem dL_law_1141 : decode cL_law 1141 = .ok (.iload 5, 2) := by decide +kernel
theorem dL_law_1143 : decode cL_law 1143 = .ok (.ifCond .ne 15, 3) := by decide +kernel
theorem dL_law_1146 : decode cL_law 1146 = .ok (.aload_n 3, 1) := by decide +kernel
theorem dL_law_1147 : decode cL_law 1147 = .ok (.iconst 0, 1) := by decide +kernel
theorem dL_law_1148 : decode cL_law 1148 = .ok (.laload, 1) := by decide +kernel
theorem dL_law_1149 : decode cL_law 1149 = .ok (.iload 6, 2) := by decide +kernel
theorem dL_law_1151 : decode cL_law 1151 = .ok (.i2l, 1) := by decide +kernel
theorem dL_law_1152 : decode cL_law 1152 = .ok (.lcmp, 1) := by decide +kernel
theorem dL_law_1153 : decode cL_law 1153 = .ok (.ifCond .eq 5, 3) := by decide +kernel
theorem dL_law_1156 : decode cL_law 1156 = .ok (.iconst 0, 1) := by decide +kernel
theorem dL_law_1157 : decode cL_law 1157 = .ok (.ireturn, 1) := by decide +kernel
theorem dL_law_1158 : decode cL_law 1158 = .ok (.goto 1295, 3) := by decide +kernel
theorem dL_law_1161 : decode cL_law 1161 = .ok (.aload_n 1, 1) := by decide +kernel
theorem dL_law_1162 : decode cL_law 1162 = .ok (.aload_n 0, 1) := by decide +kernel
theorem dL_law_1163 : decode cL_law 1163 = .ok (.iload 4, 2) := by decide +kernel
theorem dL_law_1165 : decode cL_law 1165 = .ok (.iconst 1, 1) := by decide +kernel
theorem dL_law_1166 : decode cL_law 1166 = .ok (.iadd, 1) := by decide +kernel
theorem dL_law_1167 : decode cL_law 1167 = .ok (.iaload, 1) := by decide +kernel
theorem dL_law_1168 : decode cL_law 1168 = .ok (.aload_n 0, 1) := by decide +kernel
theorem dL_law_1169 : decode cL_law 1169 = .ok (.iload 4, 2) := by decide +kernel
theorem dL_law_1171 : decode cL_law 1171 = .ok (.iconst 2, 1) := by decide +kernel
theorem dL_law_1172 : decode cL_law 1172 = .ok (.iadd, 1) := by decide +kernel
theorem dL_law_1173 : decode cL_law 1173 = .ok (.iaload, 1) := by decide +kernel
theorem dL_law_1174 : decode cL_law 1174 = .ok (.aload_n 3, 1) := by decide +kernel
theorem dL_law_1175 : decode cL_law 1175 = .ok (.invokestatic 181, 3) := by decide +kernel
theorem dL_law_1178 : decode cL_law 1178 = .ok (.istore 5, 2) := by decide +kernel
theorem dL_law_1180 : decode cL_law 1180 = .ok (.aload_n 2, 1) := by decide +kernel
theorem dL_law_1181 : decode cL_law 1181 = .ok (.aload_n 0, 1) := by decide +kernel
theorem dL_law_1182 : decode cL_law 1182 = .ok (.iload 4, 2) := by decide +kernel
theorem dL_law_1184 : decode cL_law 1184 = .ok (.iconst 1, 1) := by decide +kernel
theorem dL_law_1185 : decode cL_law 1185 = .ok (.iadd, 1) := by decide +kernel
theorem dL_law_1186 : decode cL_law 1186 = .ok (.iaload, 1) := by decide +kernel
theorem dL_law_1187 : decode cL_law 1187 = .ok (.aload_n 0, 1) := by decide +kernel
theorem dL_law_1188 : decode cL_law 1188 = .ok (.iload 4, 2) := by decide +kernel
theorem dL_law_1190 : decode cL_law 1190 = .ok (.iconst 2, 1) := by decide +kernel
theorem dL_law_1191 : decode cL_law 1191 = .ok (.iadd, 1) := by decide +kernel
theorem dL_law_1192 : decode cL_law 1192 = .ok (.iaload, 1) := by decide +kernel
theorem dL_law_1193 : decode cL_law 1193 = .ok (.invokevirtual 183, 3) := by decide +kernel
theorem dL_law_1196 : decode cL_law 1196 = .ok (.istore 6, 2) := by decide +kernel
theorem dL_law_1198 : decode cL_law 1198 = .ok (.aload_n 2, 1) := by decide +kernel
theorem dL_law_1199 : decode cL_law 1199 = .ok (.invokevirtual 125, 3) := by decide +kernel
theorem dL_law_1202 : decode cL_law 1202 = .ok (.iload 5, 2) := by decide +kernel
theorem dL_law_1204 : decode cL_law 1204 = .ok (.if_icmp .eq 5, 3) := by decide +kernel
theorem dL_law_1207 : decode cL_law 1207 = .ok (.iconst 0, 1) := by decide +kernel
theorem dL_law_1208 : decode cL_law 1208 = .ok (.ireturn, 1) := by decide +kernel
theorem dL_law_1209 : decode cL_law 1209 = .ok (.iload 5, 2) := by decide +kernel
theorem dL_law_1211 : decode cL_law 1211 = .ok (.ifCond .ne 15, 3) := by decide +kernel
theorem dL_law_1214 : decode cL_law 1214 = .ok (.aload_n 3, 1) := by decide +kernel
theorem dL_law_1215 : decode cL_law 1215 = .ok (.iconst 0, 1) := by decide +kernel
theorem dL_law_1216 : decode cL_law 1216 = .ok (.laload, 1) := by decide +kernel
theorem dL_law_1217 : decode cL_law 1217 = .ok (.iload 6, 2) := by decide +kernel
theorem dL_law_1219 : decode cL_law 1219 = .ok (.i2l, 1) := by decide +kernel
theorem dL_law_1220 : decode cL_law 1220 = .ok (.lcmp, 1) := by decide +kernel
theorem dL_law_1221 : decode cL_law 1221 = .ok (.ifCond .eq 5, 3) := by decide +kernel
theorem dL_law_1224 : decode cL_law 1224 = .ok (.iconst 0, 1) := by decide +kernel
theorem dL_law_1225 : decode cL_law 1225 = .ok (.ireturn, 1) := by decide +kernel
theorem dL_law_1226 : decode cL_law 1226 = .ok (.goto 1227, 3) := by decide +kernel
theorem dL_law_1229 : decode cL_law 1229 = .ok (.aload_n 1, 1) := by decide +kernel
theorem dL_law_1230 : decode cL_law 1230 = .ok (.aload_n 0, 1) := by decide +kernel
theorem dL_law_1231 : decode cL_law 1231 = .ok (.iload 4, 2) := by decide +kernel
theorem dL_law_1233 : decode cL_law 1233 = .ok (.iconst 1, 1) := by decide +kernel
theorem dL_law_1234 : decode cL_law 1234 = .ok (.iadd, 1) := by decide +kernel
theorem dL_law_1235 : decode cL_law 1235 = .ok (.iaload, 1) := by decide +kernel
theorem dL_law_1236 : decode cL_law 1236 = .ok (.aload_n 3, 1) := by decide +kernel
theorem dL_law_1237 : decode cL_law 1237 = .ok (.invokestatic 184, 3) := by decide +kernel
theorem dL_law_1240 : decode cL_law 1240 = .ok (.istore 5, 2) := by decide +kernel
theorem dL_law_1242 : decode cL_law 1242 = .ok (.aload_n 2, 1) := by decide +kernel
theorem dL_law_1243 : decode cL_law 1243 = .ok (.aload_n 0, 1) := by decide +kernel
theorem dL_law_1244 : decode cL_law 1244 = .ok (.iload 4, 2) := by decide +kernel
theorem dL_law_1246 : decode cL_law 1246 = .ok (.iconst 1, 1) := by decide +kernel
theorem dL_law_1247 : decode cL_law 1247 = .ok (.iadd, 1) := by decide +kernel
theorem dL_law_1248 : decode cL_law 1248 = .ok (.iaload, 1) := by decide +kernel
theorem dL_law_1249 : decode cL_law 1249 = .ok (.invokevirtual 186, 3) := by decide +kernel
theorem dL_law_1252 : decode cL_law 1252 = .ok (.istore 6, 2) := by decide +kernel
theorem dL_law_1254 : decode cL_law 1254 = .ok (.aload_n 2, 1) := by decide +kernel
theorem dL_law_1255 : decode cL_law 1255 = .ok (.invokevirtual 125, 3) := by decide +kernel
theorem dL_law_1258 : decode cL_law 1258 = .ok (.iload 5, 2) := by decide +kernel
theorem dL_law_1260 : decode cL_law 1260 = .ok (.if_icmp .eq 5, 3) := by decide +kernel
theorem dL_law_1263 : decode cL_law 1263 = .ok (.iconst 0, 1) := by decide +kernel
theorem dL_law_1264 : decode cL_law 1264 = .ok (.ireturn, 1) := by decide +kernel
theorem dL_law_1265 : decode cL_law 1265 = .ok (.iload 5, 2) := by decide +kernel
theorem dL_law_1267 : decode cL_law 1267 = .ok (.ifCond .ne 15, 3) := by decide +kernel
theorem dL_law_1270 : decode cL_law 1270 = .ok (.aload_n 3, 1) := by decide +kernel
theorem dL_law_1271 : decode cL_law 1271 = .ok (.iconst 0, 1) := by decide +kernel
theorem dL_law_1272 : decode cL_law 1272 = .ok (.laload, 1) := by decide +kernel
theorem dL_law_1273 : decode cL_law 1273 = .ok (.iload 6, 2) := by decide +kernel
theorem dL_law_1275 : decode cL_law 1275 = .ok (.i2l, 1) := by decide +kernel
theorem dL_law_1276 : decode cL_law 1276 = .ok (.lcmp, 1) := by decide +kernel
theorem dL_law_1277 : decode cL_law 1277 = .ok (.ifCond .eq 5, 3) := by decide +kernel
theorem dL_law_1280 : decode cL_law 1280 = .ok (.iconst 0, 1) := by decide +kernel
theorem dL_law_1281 : decode cL_law 1281 = .ok (.ireturn, 1) := by decide +kernel
theorem dL_law_1282 : decode cL_law 1282 = .ok (.goto 1171, 3) := by decide +kernel
theorem dL_law_1285 : decode cL_law 1285 = .ok (.aload_n 1, 1) := by decide +kernel
theorem dL_law_1286 : decode cL_law 1286 = .ok (.aload_n 0, 1) := by decide +kernel
theorem dL_law_1287 : decode cL_law 1287 = .ok (.iload 4, 2) := by decide +kernel
theorem dL_law_1289 : decode cL_law 1289 = .ok (.iconst 1, 1) := by decide +kernel
theorem dL_law_1290 : decode cL_law 1290 = .ok (.iadd, 1) := by decide +kernel
theorem dL_law_1291 : decode cL_law 1291 = .ok (.iaload, 1) := by decide +kernel
theorem dL_law_1292 : decode cL_law 1292 = .ok (.aload_n 3, 1) := by decide +kernel
theorem dL_law_1293 : decode cL_law 1293 = .ok (.invokestatic 187, 3) := by decide +kernel
theorem dL_law_1296 : decode cL_law 1296 = .ok (.istore 5, 2) := by decide +kernel
theorem dL_law_1298 : decode cL_law 1298 = .ok (.aload_n 2, 1) := by decide +kernel
theorem dL_law_1299 : decode cL_law 1299 = .ok (.aload_n 0, 1) := by decide +kernel
theorem dL_law_1300 : decode cL_law 1300 = .ok (.iload 4, 2) := by decide +kernel
theorem dL_law_1302 : decode cL_law 1302 = .ok (.iconst 1, 1) := by decide +kernel
theorem dL_law_1303 : decode cL_law 1303 = .ok (.iadd, 1) := by decide +kernel
theorem dL_law_1304 : decode cL_law 1304 = .ok (.iaload, 1) := by decide +kernel
theorem dL_law_1305 : decode cL_law 1305 = .ok (.invokevirtual 189, 3) := by decide +kernel
theorem dL_law_1308 : decode cL_law 1308 = .ok (.istore 6, 2) := by decide +kernel
theorem dL_law_1310 : decode cL_law 1310 = .ok (.aload_n 2, 1) := by decide +kernel
theorem dL_law_1311 : decode cL_law 1311 = .ok (.invokevirtual 125, 3) := by decide +kernel
theorem dL_law_1314 : decode cL_law 1314 = .ok (.iload 5, 2) := by decide +kernel
theorem dL_law_1316 : decode cL_law 1316 = .ok (.if_icmp .eq 5, 3) := by decide +kernel
theorem dL_law_1319 : decode cL_law 1319 = .ok (.iconst 0, 1) := by decide +kernel
theorem dL_law_1320 : decode cL_law 1320 = .ok (.ireturn, 1) := by decide +kernel
theorem dL_law_1321 : decode cL_law 1321 = .ok (.iload 5, 2) := by decide +kernel
theorem dL_law_1323 : decode cL_law 1323 = .ok (.ifCond .ne 15, 3) := by decide +kernel
theorem dL_law_1326 : decode cL_law 1326 = .ok (.aload_n 3, 1) := by decide +kernel
theorem dL_law_1327 : decode cL_law 1327 = .ok (.iconst 0, 1) := by decide +kernel
theorem dL_law_1328 : decode cL_law 1328 = .ok (.laload, 1) := by decide +kernel
theorem dL_law_1329 : decode cL_law 1329 = .ok (.iload 6, 2) := by decide +kernel
theorem dL_law_1331 : decode cL_law 1331 = .ok (.i2l, 1) := by decide +kernel
theorem dL_law_1332 : decode cL_law 1332 = .ok (.lcmp, 1) := by decide +kernel
theorem dL_law_1333 : decode cL_law 1333 = .ok (.ifCond .eq 5, 3) := by decide +kernel
theorem dL_law_1336 : decode cL_law 1336 = .ok (.iconst 0, 1) := by decide +kernel
theorem dL_law_1337 : decode cL_law 1337 = .ok (.ireturn, 1) := by decide +kernel
theorem dL_law_1338 : decode cL_law 1338 = .ok (.goto 1115, 3) := by decide +kernel
theorem dL_law_1341 : decode cL_law 1341 = .ok (.aload_n 1, 1) := by decide +kernel
theorem dL_law_1342 : decode cL_law 1342 = .ok (.aload_n 0, 1) := by decide +kernel
theorem dL_law_1343 : decode cL_law 1343 = .ok (.iload 4, 2) := by decide +kernel
theorem dL_law_1345 : decode cL_law 1345 = .ok (.iconst 1, 1) := by decide +kernel
theorem dL_law_1346 : decode cL_law 1346 = .ok (.iadd, 1) := by decide +kernel
theorem dL_law_1347 : decode cL_law 1347 = .ok (.iaload, 1) := by decide +kernel
theorem dL_law_1348 : decode cL_law 1348 = .ok (.aload_n 3, 1) := by decide +kernel
theorem dL_law_1349 : decode cL_law 1349 = .ok (.invokestatic 190, 3) := by decide +kernel
theorem dL_law_1352 : decode cL_law 1352 = .ok (.istore 5, 2) := by decide +kernel
theorem dL_law_1354 : decode cL_law 1354 = .ok (.aload_n 2, 1) := by decide +kernel
theorem dL_law_1355 : decode cL_law 1355 = .ok (.aload_n 0, 1) := by decide +kernel
theorem dL_law_1356 : decode cL_law 1356 = .ok (.iload 4, 2) := by decide +kernel
theorem dL_law_1358 : decode cL_law 1358 = .ok (.iconst 1, 1) := by decide +kernel
theorem dL_law_1359 : decode cL_law 1359 = .ok (.iadd, 1) := by decide +kernel
theorem dL_law_1360 : decode cL_law 1360 = .ok (.iaload, 1) := by decide +kernel
theorem dL_law_1361 : decode cL_law 1361 = .ok (.invokevirtual 192, 3) := by decide +kernel
theorem dL_law_1364 : decode cL_law 1364 = .ok (.istore 6, 2) := by decide +kernel
theorem dL_law_1366 : decode cL_law 1366 = .ok (.aload_n 2, 1) := by decide +kernel
theorem dL_law_1367 : decode cL_law 1367 = .ok (.invokevirtual 125, 3) := by decide +kernel
theorem dL_law_1370 : decode cL_law 1370 = .ok (.iload 5, 2) := by decide +kernel
theorem dL_law_1372 : decode cL_law 1372 = .ok (.if_icmp .eq 5, 3) := by decide +kernel
theorem dL_law_1375 : decode cL_law 1375 = .ok (.iconst 0, 1) := by decide +kernel
theorem dL_law_1376 : decode cL_law 1376 = .ok (.ireturn, 1) := by decide +kernel
theorem dL_law_1377 : decode cL_law 1377 = .ok (.iload 5, 2) := by decide +kernel
theorem dL_law_1379 : decode cL_law 1379 = .ok (.ifCond .ne 15, 3) := by decide +kernel
theorem dL_law_1382 : decode cL_law 1382 = .ok (.aload_n 3, 1) := by decide +kernel
theorem dL_law_1383 : decode cL_law 1383 = .ok (.iconst 0, 1) := by decide +kernel
theorem dL_law_1384 : decode cL_law 1384 = .ok (.laload, 1) := by decide +kernel
theorem dL_law_1385 : decode cL_law 1385 = .ok (.iload 6, 2) := by decide +kernel
theorem dL_law_1387 : decode cL_law 1387 = .ok (.i2l, 1) := by decide +kernel
theorem dL_law_1388 : decode cL_law 1388 = .ok (.lcmp, 1) := by decide +kernel
theorem dL_law_1389 : decode cL_law 1389 = .ok (.ifCond .eq 5, 3) := by decide +kernel
theorem dL_law_1392 : decode cL_law 1392 = .ok (.iconst 0, 1) := by decide +kernel
theorem dL_law_1393 : decode cL_law 1393 = .ok (.ireturn, 1) := by decide +kernel
theorem dL_law_1394 : decode cL_law 1394 = .ok (.goto 1059, 3) := by decide +kernel
theorem dL_law_1397 : decode cL_law 1397 = .ok (.aload_n 1, 1) := by decide +kernel
theorem dL_law_1398 : decode cL_law 1398 = .ok (.aload_n 0, 1) := by decide +kernel
theorem dL_law_1399 : decode cL_law 1399 = .ok (.iload 4, 2) := by decide +kernel
theorem dL_law_1401 : decode cL_law 1401 = .ok (.iconst 1, 1) := by decide +kernel
theorem dL_law_1402 : decode cL_law 1402 = .ok (.iadd, 1) := by decide +kernel
theorem dL_law_1403 : decode cL_law 1403 = .ok (.iaload, 1) := by decide +kernel
theorem dL_law_1404 : decode cL_law 1404 = .ok (.aload_n 3, 1) := by decide +kernel
theorem dL_law_1405 : decode cL_law 1405 = .ok (.invokestatic 193, 3) := by decide +kernel
theorem dL_law_1408 : decode cL_law 1408 = .ok (.istore 5, 2) := by decide +kernel
theorem dL_law_1410 : decode cL_law 1410 = .ok (.aload_n 2, 1) := by decide +kernel
theorem dL_law_1411 : decode cL_law 1411 = .ok (.aload_n 0, 1) := by decide +kernel
theorem dL_law_1412 : decode cL_law 1412 = .ok (.iload 4, 2) := by decide +kernel
theorem dL_law_1414 : decode cL_law 1414 = .ok (.iconst 1, 1) := by decide +kernel
theorem dL_law_1415 : decode cL_law 1415 = .ok (.iadd, 1) := by decide +kernel
theorem dL_law_1416 : decode cL_law 1416 = .ok (.iaload, 1) := by decide +kernel
theorem dL_law_1417 : decode cL_law 1417 = .ok (.invokevirtual 195, 3) := by decide +kernel
theorem dL_law_1420 : decode cL_law 1420 = .ok (.istore 6, 2) := by decide +kernel
theorem dL_law_1422 : decode cL_law 1422 = .ok (.aload_n 2, 1) := by decide +kernel
theorem dL_law_1423 : decode cL_law 1423 = .ok (.invokevirtual 125, 3) := by decide +kernel
theorem dL_law_1426 : decode cL_law 1426 = .ok (.iload 5, 2) := by decide +kernel
theorem dL_law_1428 : decode cL_law 1428 = .ok (.if_icmp .eq 5, 3) := by decide +kernel
theorem dL_law_1431 : decode cL_law 1431 = .ok (.iconst 0, 1) := by decide +kernel
theorem dL_law_1432 : decode cL_law 1432 = .ok (.ireturn, 1) := by decide +kernel
theorem dL_law_1433 : decode cL_law 1433 = .ok (.iload 5, 2) := by decide +kernel
theorem dL_law_1435 : decode cL_law 1435 = .ok (.ifCond .ne 15, 3) := by decide +kernel
theorem dL_law_1438 : decode cL_law 1438 = .ok (.aload_n 3, 1) := by decide +kernel
theorem dL_law_1439 : decode cL_law 1439 = .ok (.iconst 0, 1) := by decide +kernel
theorem dL_law_1440 : decode cL_law 1440 = .ok (.laload, 1) := by decide +kernel
theorem dL_law_1441 : decode cL_law 1441 = .ok (.iload 6, 2) := by decide +kernel
theorem dL_law_1443 : decode cL_law 1443 = .ok (.i2l, 1) := by decide +kernel
theorem dL_law_1444 : decode cL_law 1444 = .ok (.lcmp, 1) := by decide +kernel
theorem dL_law_1445 : decode cL_law 1445 = .ok (.ifCond .eq 5, 3) := by decide +kernel
theorem dL_law_1448 : decode cL_law 1448 = .ok (.iconst 0, 1) := by decide +kernel
theorem dL_law_1449 : decode cL_law 1449 = .ok (.ireturn, 1) := by decide +kernel
theorem dL_law_1450 : decode cL_law 1450 = .ok (.goto 1003, 3) := by decide +kernel
theorem dL_law_1453 : decode cL_law 1453 = .ok (.aload_n 1, 1) := by decide +kernel
theorem dL_law_1454 : decode cL_law 1454 = .ok (.aload_n 0, 1) := by decide +kernel
theorem dL_law_1455 : decode cL_law 1455 = .ok (.iload 4, 2) := by decide +kernel
theorem dL_law_1457 : decode cL_law 1457 = .ok (.iconst 1, 1) := by decide +kernel
theorem dL_law_1458 : decode cL_law 1458 = .ok (.iadd, 1) := by decide +kernel
theorem dL_law_1459 : decode cL_law 1459 = .ok (.iaload, 1) := by decide +kernel
theorem dL_law_1460 : decode cL_law 1460 = .ok (.aload_n 3, 1) := by decide +kernel
theorem dL_law_1461 : decode cL_law 1461 = .ok (.invokestatic 196, 3) := by decide +kernel
theorem dL_law_1464 : decode cL_law 1464 = .ok (.istore 5, 2) := by decide +kernel
theorem dL_law_1466 : decode cL_law 1466 = .ok (.aload_n 2, 1) := by decide +kernel
theorem dL_law_1467 : decode cL_law 1467 = .ok (.aload_n 0, 1) := by decide +kernel
theorem dL_law_1468 : decode cL_law 1468 = .ok (.iload 4, 2) := by decide +kernel
theorem dL_law_1470 : decode cL_law 1470 = .ok (.iconst 1, 1) := by decide +kernel
theorem dL_law_1471 : decode cL_law 1471 = .ok (.iadd, 1) := by decide +kernel
theorem dL_law_1472 : decode cL_law 1472 = .ok (.iaload, 1) := by decide +kernel
theorem dL_law_1473 : decode cL_law 1473 = .ok (.invokevirtual 198, 3) := by decide +kernel
theorem dL_law_1476 : decode cL_law 1476 = .ok (.istore 6, 2) := by decide +kernel
theorem dL_law_1478 : decode cL_law 1478 = .ok (.aload_n 2, 1) := by decide +kernel
theorem dL_law_1479 : decode cL_law 1479 = .ok (.invokevirtual 125, 3) := by decide +kernel
theorem dL_law_1482 : decode cL_law 1482 = .ok (.iload 5, 2) := by decide +kernel
theorem dL_law_1484 : decode cL_law 1484 = .ok (.if_icmp .eq 5, 3) := by decide +kernel
theorem dL_law_1487 : decode cL_law 1487 = .ok (.iconst 0, 1) := by decide +kernel
theorem dL_law_1488 : decode cL_law 1488 = .ok (.ireturn, 1) := by decide +kernel
theorem dL_law_1489 : decode cL_law 1489 = .ok (.iload 5, 2) := by decide +kernel
theorem dL_law_1491 : decode cL_law 1491 = .ok (.ifCond .ne 15, 3) := by decide +kernel
theorem dL_law_1494 : decode cL_law 1494 = .ok (.aload_n 3, 1) := by decide +kernel
theorem dL_law_1495 : decode cL_law 1495 = .ok (.iconst 0, 1) := by decide +kernel
theorem dL_law_1496 : decode cL_law 1496 = .ok (.laload, 1) := by decide +kernel
theorem dL_law_1497 : decode cL_law 1497 = .ok (.iload 6, 2) := by decide +kernel
theorem dL_law_1499 : decode cL_law 1499 = .ok (.i2l, 1) := by decide +kernel
theorem dL_law_1500 : decode cL_law 1500 = .ok (.lcmp, 1) := by decide +kernel
theorem dL_law_1501 : decode cL_law 1501 = .ok (.ifCond .eq 5, 3) := by decide +kernel
theorem dL_law_1504 : decode cL_law 1504 = .ok (.iconst 0, 1) := by decide +kernel
theorem dL_law_1505 : decode cL_law 1505 = .ok (.ireturn, 1) := by decide +kernel
theorem dL_law_1506 : decode cL_law 1506 = .ok (.goto 947, 3) := by decide +kernel
theorem dL_law_1509 : decode cL_law 1509 = .ok (.aload_n 1, 1) := by decide +kernel
theorem dL_law_1510 : decode cL_law 1510 = .ok (.aload_n 0, 1) := by decide +kernel
theorem dL_law_1511 : decode cL_law 1511 = .ok (.iload 4, 2) := by decide +kernel
theorem dL_law_1513 : decode cL_law 1513 = .ok (.iconst 1, 1) := by decide +kernel
theorem dL_law_1514 : decode cL_law 1514 = .ok (.iadd, 1) := by decide +kernel
theorem dL_law_1515 : decode cL_law 1515 = .ok (.iaload, 1) := by decide +kernel
theorem dL_law_1516 : decode cL_law 1516 = .ok (.aload_n 0, 1) := by decide +kernel
theorem dL_law_1517 : decode cL_law 1517 = .ok (.iload 4, 2) := by decide +kernel
theorem dL_law_1519 : decode cL_law 1519 = .ok (.iconst 2, 1) := by decide +kernel
theorem dL_law_1520 : decode cL_law 1520 = .ok (.iadd, 1) := by decide +kernel
theorem dL_law_1521 : decode cL_law 1521 = .ok (.iaload, 1) := by decide +kernel
theorem dL_law_1522 : decode cL_law 1522 = .ok (.aload_n 0, 1) := by decide +kernel
theorem dL_law_1523 : decode cL_law 1523 = .ok (.iload 4, 2) := by decide +kernel
theorem dL_law_1525 : decode cL_law 1525 = .ok (.iconst 3, 1) := by decide +kernel
theorem dL_law_1526 : decode cL_law 1526 = .ok (.iadd, 1) := by decide +kernel
theorem dL_law_1527 : decode cL_law 1527 = .ok (.iaload, 1) := by decide +kernel
theorem dL_law_1528 : decode cL_law 1528 = .ok (.aload_n 3, 1) := by decide +kernel
theorem dL_law_1529 : decode cL_law 1529 = .ok (.invokestatic 199, 3) := by decide +kernel
theorem dL_law_1532 : decode cL_law 1532 = .ok (.istore 5, 2) := by decide +kernel
theorem dL_law_1534 : decode cL_law 1534 = .ok (.aload_n 2, 1) := by decide +kernel
theorem dL_law_1535 : decode cL_law 1535 = .ok (.aload_n 0, 1) := by decide +kernel
theorem dL_law_1536 : decode cL_law 1536 = .ok (.iload 4, 2) := by decide +kernel
theorem dL_law_1538 : decode cL_law 1538 = .ok (.iconst 1, 1) := by decide +kernel
theorem dL_law_1539 : decode cL_law 1539 = .ok (.iadd, 1) := by decide +kernel
theorem dL_law_1540 : decode cL_law 1540 = .ok (.iaload, 1) := by decide +kernel
theorem dL_law_1541 : decode cL_law 1541 = .ok (.aload_n 0, 1) := by decide +kernel
theorem dL_law_1542 : decode cL_law 1542 = .ok (.iload 4, 2) := by decide +kernel
theorem dL_law_1544 : decode cL_law 1544 = .ok (.iconst 2, 1) := by decide +kernel
theorem dL_law_1545 : decode cL_law 1545 = .ok (.iadd, 1) := by decide +kernel
theorem dL_law_1546 : decode cL_law 1546 = .ok (.iaload, 1) := by decide +kernel
theorem dL_law_1547 : decode cL_law 1547 = .ok (.aload_n 0, 1) := by decide +kernel
theorem dL_law_1548 : decode cL_law 1548 = .ok (.iload 4, 2) := by decide +kernel
theorem dL_law_1550 : decode cL_law 1550 = .ok (.iconst 3, 1) := by decide +kernel
theorem dL_law_1551 : decode cL_law 1551 = .ok (.iadd, 1) := by decide +kernel
theorem dL_law_1552 : decode cL_law 1552 = .ok (.iaload, 1) := by decide +kernel
theorem dL_law_1553 : decode cL_law 1553 = .ok (.invokevirtual 201, 3) := by decide +kernel
theorem dL_law_1556 : decode cL_law 1556 = .ok (.istore 6, 2) := by decide +kernel
theorem dL_law_1558 : decode cL_law 1558 = .ok (.aload_n 2, 1) := by decide +kernel
theorem dL_law_1559 : decode cL_law 1559 = .ok (.invokevirtual 125, 3) := by decide +kernel
theorem dL_law_1562 : decode cL_law 1562 = .ok (.iload 5, 2) := by decide +kernel
theorem dL_law_1564 : decode cL_law 1564 = .ok (.if_icmp .eq 5, 3) := by decide +kernel
theorem dL_law_1567 : decode cL_law 1567 = .ok (.iconst 0, 1) := by decide +kernel
theorem dL_law_1568 : decode cL_law 1568 = .ok (.ireturn, 1) := by decide +kernel
theorem dL_law_1569 : decode cL_law 1569 = .ok (.iload 5, 2) := by decide +kernel
theorem dL_law_1571 : decode cL_law 1571 = .ok (.ifCond .ne 15, 3) := by decide +kernel
theorem dL_law_1574 : decode cL_law 1574 = .ok (.aload_n 3, 1) := by decide +kernel
theorem dL_law_1575 : decode cL_law 1575 = .ok (.iconst 0, 1) := by decide +kernel
theorem dL_law_1576 : decode cL_law 1576 = .ok (.laload, 1) := by decide +kernel
theorem dL_law_1577 : decode cL_law 1577 = .ok (.iload 6, 2) := by decide +kernel
theorem dL_law_1579 : decode cL_law 1579 = .ok (.i2l, 1) := by decide +kernel
theorem dL_law_1580 : decode cL_law 1580 = .ok (.lcmp, 1) := by decide +kernel
theorem dL_law_1581 : decode cL_law 1581 = .ok (.ifCond .eq 5, 3) := by decide +kernel
theorem dL_law_1584 : decode cL_law 1584 = .ok (.iconst 0, 1) := by decide +kernel
theorem dL_law_1585 : decode cL_law 1585 = .ok (.ireturn, 1) := by decide +kernel
theorem dL_law_1586 : decode cL_law 1586 = .ok (.goto 867, 3) := by decide +kernel
theorem dL_law_1589 : decode cL_law 1589 = .ok (.aload_n 1, 1) := by decide +kernel
theorem dL_law_1590 : decode cL_law 1590 = .ok (.invokevirtual 202, 3) := by decide +kernel
theorem dL_law_1593 : decode cL_law 1593 = .ok (.aload_n 2, 1) := by decide +kernel
theorem dL_law_1594 : decode cL_law 1594 = .ok (.invokevirtual 205, 3) := by decide +kernel
theorem dL_law_1597 : decode cL_law 1597 = .ok (.goto 856, 3) := by decide +kernel
theorem dL_law_1600 : decode cL_law 1600 = .ok (.aload_n 1, 1) := by decide +kernel
theorem dL_law_1601 : decode cL_law 1601 = .ok (.aload_n 0, 1) := by decide +kernel
theorem dL_law_1602 : decode cL_law 1602 = .ok (.iload 4, 2) := by decide +kernel
theorem dL_law_1604 : decode cL_law 1604 = .ok (.iconst 1, 1) := by decide +kernel
theorem dL_law_1605 : decode cL_law 1605 = .ok (.iadd, 1) := by decide +kernel
theorem dL_law_1606 : decode cL_law 1606 = .ok (.iaload, 1) := by decide +kernel
theorem dL_law_1607 : decode cL_law 1607 = .ok (.aload_n 3, 1) := by decide +kernel
theorem dL_law_1608 : decode cL_law 1608 = .ok (.invokestatic 206, 3) := by decide +kernel
theorem dL_law_1611 : decode cL_law 1611 = .ok (.istore 5, 2) := by decide +kernel
theorem dL_law_1613 : decode cL_law 1613 = .ok (.aload_n 2, 1) := by decide +kernel
theorem dL_law_1614 : decode cL_law 1614 = .ok (.aload_n 0, 1) := by decide +kernel
theorem dL_law_1615 : decode cL_law 1615 = .ok (.iload 4, 2) := by decide +kernel
theorem dL_law_1617 : decode cL_law 1617 = .ok (.iconst 1, 1) := by decide +kernel
theorem dL_law_1618 : decode cL_law 1618 = .ok (.iadd, 1) := by decide +kernel
theorem dL_law_1619 : decode cL_law 1619 = .ok (.iaload, 1) := by decide +kernel
theorem dL_law_1620 : decode cL_law 1620 = .ok (.invokevirtual 208, 3) := by decide +kernel
theorem dL_law_1623 : decode cL_law 1623 = .ok (.istore 6, 2) := by decide +kernel
theorem dL_law_1625 : decode cL_law 1625 = .ok (.aload_n 2, 1) := by decide +kernel
theorem dL_law_1626 : decode cL_law 1626 = .ok (.invokevirtual 125, 3) := by decide +kernel
theorem dL_law_1629 : decode cL_law 1629 = .ok (.iload 5, 2) := by decide +kernel
theorem dL_law_1631 : decode cL_law 1631 = .ok (.if_icmp .eq 5, 3) := by decide +kernel
theorem dL_law_1634 : decode cL_law 1634 = .ok (.iconst 0, 1) := by decide +kernel
theorem dL_law_1635 : decode cL_law 1635 = .ok (.ireturn, 1) := by decide +kernel
theorem dL_law_1636 : decode cL_law 1636 = .ok (.iload 5, 2) := by decide +kernel
theorem dL_law_1638 : decode cL_law 1638 = .ok (.ifCond .ne 15, 3) := by decide +kernel
theorem dL_law_1641 : decode cL_law 1641 = .ok (.aload_n 3, 1) := by decide +kernel
theorem dL_law_1642 : decode cL_law 1642 = .ok (.iconst 0, 1) := by decide +kernel
theorem dL_law_1643 : decode cL_law 1643 = .ok (.laload, 1) := by decide +kernel
theorem dL_law_1644 : decode cL_law 1644 = .ok (.iload 6, 2) := by decide +kernel
theorem dL_law_1646 : decode cL_law 1646 = .ok (.i2l, 1) := by decide +kernel
theorem dL_law_1647 : decode cL_law 1647 = .ok (.lcmp, 1) := by decide +kernel
theorem dL_law_1648 : decode cL_law 1648 = .ok (.ifCond .eq 5, 3) := by decide +kernel
theorem dL_law_1651 : decode cL_law 1651 = .ok (.iconst 0, 1) := by decide +kernel
theorem dL_law_1652 : decode cL_law 1652 = .ok (.ireturn, 1) := by decide +kernel
theorem dL_law_1653 : decode cL_law 1653 = .ok (.goto 800, 3) := by decide +kernel
theorem dL_law_1656 : decode cL_law 1656 = .ok (.aload_n 1, 1) := by decide +kernel
theorem dL_law_1657 : decode cL_law 1657 = .ok (.aload_n 0, 1) := by decide +kernel
theorem dL_law_1658 : decode cL_law 1658 = .ok (.iload 4, 2) := by decide +kernel
theorem dL_law_1660 : decode cL_law 1660 = .ok (.iconst 1, 1) := by decide +kernel
theorem dL_law_1661 : decode cL_law 1661 = .ok (.iadd, 1) := by decide +kernel
theorem dL_law_1662 : decode cL_law 1662 = .ok (.iaload, 1) := by decide +kernel
theorem dL_law_1663 : decode cL_law 1663 = .ok (.aload_n 3, 1) := by decide +kernel
theorem dL_law_1664 : decode cL_law 1664 = .ok (.invokestatic 209, 3) := by decide +kernel
theorem dL_law_1667 : decode cL_law 1667 = .ok (.istore 5, 2) := by decide +kernel
theorem dL_law_1669 : decode cL_law 1669 = .ok (.aload_n 2, 1) := by decide +kernel
theorem dL_law_1670 : decode cL_law 1670 = .ok (.aload_n 0, 1) := by decide +kernel
theorem dL_law_1671 : decode cL_law 1671 = .ok (.iload 4, 2) := by decide +kernel
theorem dL_law_1673 : decode cL_law 1673 = .ok (.iconst 1, 1) := by decide +kernel
theorem dL_law_1674 : decode cL_law 1674 = .ok (.iadd, 1) := by decide +kernel
theorem dL_law_1675 : decode cL_law 1675 = .ok (.iaload, 1) := by decide +kernel
theorem dL_law_1676 : decode cL_law 1676 = .ok (.invokevirtual 211, 3) := by decide +kernel
theorem dL_law_1679 : decode cL_law 1679 = .ok (.istore 6, 2) := by decide +kernel
theorem dL_law_1681 : decode cL_law 1681 = .ok (.aload_n 2, 1) := by decide +kernel
theorem dL_law_1682 : decode cL_law 1682 = .ok (.invokevirtual 125, 3) := by decide +kernel
theorem dL_law_1685 : decode cL_law 1685 = .ok (.iload 5, 2) := by decide +kernel
theorem dL_law_1687 : decode cL_law 1687 = .ok (.if_icmp .eq 5, 3) := by decide +kernel
theorem dL_law_1690 : decode cL_law 1690 = .ok (.iconst 0, 1) := by decide +kernel
theorem dL_law_1691 : decode cL_law 1691 = .ok (.ireturn, 1) := by decide +kernel
theorem dL_law_1692 : decode cL_law 1692 = .ok (.iload 5, 2) := by decide +kernel
theorem dL_law_1694 : decode cL_law 1694 = .ok (.ifCond .ne 15, 3) := by decide +kernel
theorem dL_law_1697 : decode cL_law 1697 = .ok (.aload_n 3, 1) := by decide +kernel
theorem dL_law_1698 : decode cL_law 1698 = .ok (.iconst 0, 1) := by decide +kernel
theorem dL_law_1699 : decode cL_law 1699 = .ok (.laload, 1) := by decide +kernel
theorem dL_law_1700 : decode cL_law 1700 = .ok (.iload 6, 2) := by decide +kernel
theorem dL_law_1702 : decode cL_law 1702 = .ok (.i2l, 1) := by decide +kernel
theorem dL_law_1703 : decode cL_law 1703 = .ok (.lcmp, 1) := by decide +kernel
theorem dL_law_1704 : decode cL_law 1704 = .ok (.ifCond .eq 5, 3) := by decide +kernel
theorem dL_law_1707 : decode cL_law 1707 = .ok (.iconst 0, 1) := by decide +kernel
theorem dL_law_1708 : decode cL_law 1708 = .ok (.ireturn, 1) := by decide +kernel
theorem dL_law_1709 : decode cL_law 1709 = .ok (.goto 744, 3) := by decide +kernel
theorem dL_law_1712 : decode cL_law 1712 = .ok (.aload_n 1, 1) := by decide +kernel
theorem dL_law_1713 : decode cL_law 1713 = .ok (.aload_n 0, 1) := by decide +kernel
theorem dL_law_1714 : decode cL_law 1714 = .ok (.iload 4, 2) := by decide +kernel
theorem dL_law_1716 : decode cL_law 1716 = .ok (.iconst 1, 1) := by decide +kernel
theorem dL_law_1717 : decode cL_law 1717 = .ok (.iadd, 1) := by decide +kernel
theorem dL_law_1718 : decode cL_law 1718 = .ok (.iaload, 1) := by decide +kernel
theorem dL_law_1719 : decode cL_law 1719 = .ok (.aload_n 0, 1) := by decide +kernel
theorem dL_law_1720 : decode cL_law 1720 = .ok (.iload 4, 2) := by decide +kernel
theorem dL_law_1722 : decode cL_law 1722 = .ok (.iconst 2, 1) := by decide +kernel
theorem dL_law_1723 : decode cL_law 1723 = .ok (.iadd, 1) := by decide +kernel
theorem dL_law_1724 : decode cL_law 1724 = .ok (.iaload, 1) := by decide +kernel
theorem dL_law_1725 : decode cL_law 1725 = .ok (.aload_n 0, 1) := by decide +kernel
theorem dL_law_1726 : decode cL_law 1726 = .ok (.iload 4, 2) := by decide +kernel
theorem dL_law_1728 : decode cL_law 1728 = .ok (.iconst 3, 1) := by decide +kernel
theorem dL_law_1729 : decode cL_law 1729 = .ok (.iadd, 1) := by decide +kernel
theorem dL_law_1730 : decode cL_law 1730 = .ok (.iaload, 1) := by decide +kernel
theorem dL_law_1731 : decode cL_law 1731 = .ok (.aload_n 0, 1) := by decide +kernel
theorem dL_law_1732 : decode cL_law 1732 = .ok (.iload 4, 2) := by decide +kernel
theorem dL_law_1734 : decode cL_law 1734 = .ok (.iconst 4, 1) := by decide +kernel
theorem dL_law_1735 : decode cL_law 1735 = .ok (.iadd, 1) := by decide +kernel
theorem dL_law_1736 : decode cL_law 1736 = .ok (.iaload, 1) := by decide +kernel
theorem dL_law_1737 : decode cL_law 1737 = .ok (.aload_n 3, 1) := by decide +kernel
theorem dL_law_1738 : decode cL_law 1738 = .ok (.invokestatic 212, 3) := by decide +kernel
theorem dL_law_1741 : decode cL_law 1741 = .ok (.istore 5, 2) := by decide +kernel
theorem dL_law_1743 : decode cL_law 1743 = .ok (.aload_n 2, 1) := by decide +kernel
theorem dL_law_1744 : decode cL_law 1744 = .ok (.aload_n 0, 1) := by decide +kernel
theorem dL_law_1745 : decode cL_law 1745 = .ok (.iload 4, 2) := by decide +kernel
theorem dL_law_1747 : decode cL_law 1747 = .ok (.iconst 1, 1) := by decide +kernel
theorem dL_law_1748 : decode cL_law 1748 = .ok (.iadd, 1) := by decide +kernel
theorem dL_law_1749 : decode cL_law 1749 = .ok (.iaload, 1) := by decide +kernel
theorem dL_law_1750 : decode cL_law 1750 = .ok (.aload_n 0, 1) := by decide +kernel
theorem dL_law_1751 : decode cL_law 1751 = .ok (.iload 4, 2) := by decide +kernel
theorem dL_law_1753 : decode cL_law 1753 = .ok (.iconst 2, 1) := by decide +kernel
theorem dL_law_1754 : decode cL_law 1754 = .ok (.iadd, 1) := by decide +kernel
theorem dL_law_1755 : decode cL_law 1755 = .ok (.iaload, 1) := by decide +kernel
theorem dL_law_1756 : decode cL_law 1756 = .ok (.aload_n 0, 1) := by decide +kernel
theorem dL_law_1757 : decode cL_law 1757 = .ok (.iload 4, 2) := by decide +kernel
theorem dL_law_1759 : decode cL_law 1759 = .ok (.iconst 3, 1) := by decide +kernel
theorem dL_law_1760 : decode cL_law 1760 = .ok (.iadd, 1) := by decide +kernel
theorem dL_law_1761 : decode cL_law 1761 = .ok (.iaload, 1) := by decide +kernel
theorem dL_law_1762 : decode cL_law 1762 = .ok (.aload_n 0, 1) := by decide +kernel
theorem dL_law_1763 : decode cL_law 1763 = .ok (.iload 4, 2) := by decide +kernel
theorem dL_law_1765 : decode cL_law 1765 = .ok (.iconst 4, 1) := by decide +kernel
theorem dL_law_1766 : decode cL_law 1766 = .ok (.iadd, 1) := by decide +kernel
theorem dL_law_1767 : decode cL_law 1767 = .ok (.iaload, 1) := by decide +kernel
theorem dL_law_1768 : decode cL_law 1768 = .ok (.invokevirtual 215, 3) := by decide +kernel
theorem dL_law_1771 : decode cL_law 1771 = .ok (.istore 6, 2) := by decide +kernel
theorem dL_law_1773 : decode cL_law 1773 = .ok (.aload_n 2, 1) := by decide +kernel
theorem dL_law_1774 : decode cL_law 1774 = .ok (.invokevirtual 125, 3) := by decide +kernel
theorem dL_law_1777 : decode cL_law 1777 = .ok (.iload 5, 2) := by decide +kernel
theorem dL_law_1779 : decode cL_law 1779 = .ok (.if_icmp .eq 5, 3) := by decide +kernel
theorem dL_law_1782 : decode cL_law 1782 = .ok (.iconst 0, 1) := by decide +kernel
theorem dL_law_1783 : decode cL_law 1783 = .ok (.ireturn, 1) := by decide +kernel
theorem dL_law_1784 : decode cL_law 1784 = .ok (.iload 5, 2) := by decide +kernel
theorem dL_law_1786 : decode cL_law 1786 = .ok (.ifCond .ne 15, 3) := by decide +kernel
theorem dL_law_1789 : decode cL_law 1789 = .ok (.aload_n 3, 1) := by decide +kernel
theorem dL_law_1790 : decode cL_law 1790 = .ok (.iconst 0, 1) := by decide +kernel
theorem dL_law_1791 : decode cL_law 1791 = .ok (.laload, 1) := by decide +kernel
theorem dL_law_1792 : decode cL_law 1792 = .ok (.iload 6, 2) := by decide +kernel
theorem dL_law_1794 : decode cL_law 1794 = .ok (.i2l, 1) := by decide +kernel
theorem dL_law_1795 : decode cL_law 1795 = .ok (.lcmp, 1) := by decide +kernel
theorem dL_law_1796 : decode cL_law 1796 = .ok (.ifCond .eq 5, 3) := by decide +kernel
theorem dL_law_1799 : decode cL_law 1799 = .ok (.iconst 0, 1) := by decide +kernel
theorem dL_law_1800 : decode cL_law 1800 = .ok (.ireturn, 1) := by decide +kernel
theorem dL_law_1801 : decode cL_law 1801 = .ok (.goto 652, 3) := by decide +kernel
theorem dL_law_1804 : decode cL_law 1804 = .ok (.aload_n 1, 1) := by decide +kernel
theorem dL_law_1805 : decode cL_law 1805 = .ok (.aload_n 0, 1) := by decide +kernel
theorem dL_law_1806 : decode cL_law 1806 = .ok (.iload 4, 2) := by decide +kernel
theorem dL_law_1808 : decode cL_law 1808 = .ok (.iconst 1, 1) := by decide +kernel
theorem dL_law_1809 : decode cL_law 1809 = .ok (.iadd, 1) := by decide +kernel
theorem dL_law_1810 : decode cL_law 1810 = .ok (.iaload, 1) := by decide +kernel
theorem dL_law_1811 : decode cL_law 1811 = .ok (.aload_n 0, 1) := by decide +kernel
theorem dL_law_1812 : decode cL_law 1812 = .ok (.iload 4, 2) := by decide +kernel
theorem dL_law_1814 : decode cL_law 1814 = .ok (.iconst 2, 1) := by decide +kernel
theorem dL_law_1815 : decode cL_law 1815 = .ok (.iadd, 1) := by decide +kernel
theorem dL_law_1816 : decode cL_law 1816 = .ok (.iaload, 1) := by decide +kernel
theorem dL_law_1817 : decode cL_law 1817 = .ok (.aload_n 0, 1) := by decide +kernel
theorem dL_law_1818 : decode cL_law 1818 = .ok (.iload 4, 2) := by decide +kernel
theorem dL_law_1820 : decode cL_law 1820 = .ok (.iconst 3, 1) := by decide +kernel
theorem dL_law_1821 : decode cL_law 1821 = .ok (.iadd, 1) := by decide +kernel
theorem dL_law_1822 : decode cL_law 1822 = .ok (.iaload, 1) := by decide +kernel
theorem dL_law_1823 : decode cL_law 1823 = .ok (.aload_n 3, 1) := by decide +kernel
theorem dL_law_1824 : decode cL_law 1824 = .ok (.invokestatic 216, 3) := by decide +kernel
theorem dL_law_1827 : decode cL_law 1827 = .ok (.istore 5, 2) := by decide +kernel
theorem dL_law_1829 : decode cL_law 1829 = .ok (.aload_n 2, 1) := by decide +kernel
theorem dL_law_1830 : decode cL_law 1830 = .ok (.aload_n 0, 1) := by decide +kernel
theorem dL_law_1831 : decode cL_law 1831 = .ok (.iload 4, 2) := by decide +kernel
theorem dL_law_1833 : decode cL_law 1833 = .ok (.iconst 1, 1) := by decide +kernel
theorem dL_law_1834 : decode cL_law 1834 = .ok (.iadd, 1) := by decide +kernel
theorem dL_law_1835 : decode cL_law 1835 = .ok (.iaload, 1) := by decide +kernel
theorem dL_law_1836 : decode cL_law 1836 = .ok (.aload_n 0, 1) := by decide +kernel
theorem dL_law_1837 : decode cL_law 1837 = .ok (.iload 4, 2) := by decide +kernel
theorem dL_law_1839 : decode cL_law 1839 = .ok (.iconst 2, 1) := by decide +kernel
theorem dL_law_1840 : decode cL_law 1840 = .ok (.iadd, 1) := by decide +kernel
theorem dL_law_1841 : decode cL_law 1841 = .ok (.iaload, 1) := by decide +kernel
theorem dL_law_1842 : decode cL_law 1842 = .ok (.aload_n 0, 1) := by decide +kernel
theorem dL_law_1843 : decode cL_law 1843 = .ok (.iload 4, 2) := by decide +kernel
theorem dL_law_1845 : decode cL_law 1845 = .ok (.iconst 3, 1) := by decide +kernel
theorem dL_law_1846 : decode cL_law 1846 = .ok (.iadd, 1) := by decide +kernel
theorem dL_law_1847 : decode cL_law 1847 = .ok (.iaload, 1) := by decide +kernel
theorem dL_law_1848 : decode cL_law 1848 = .ok (.invokevirtual 218, 3) := by decide +kernel
theorem dL_law_1851 : decode cL_law 1851 = .ok (.istore 6, 2) := by decide +kernel
theorem dL_law_1853 : decode cL_law 1853 = .ok (.aload_n 2, 1) := by decide +kernel
theorem dL_law_1854 : decode cL_law 1854 = .ok (.invokevirtual 125, 3) := by decide +kernel
theorem dL_law_1857 : decode cL_law 1857 = .ok (.iload 5, 2) := by decide +kernel
theorem dL_law_1859 : decode cL_law 1859 = .ok (.if_icmp .eq 5, 3) := by decide +kernel
theorem dL_law_1862 : decode cL_law 1862 = .ok (.iconst 0, 1) := by decide +kernel
theorem dL_law_1863 : decode cL_law 1863 = .ok (.ireturn, 1) := by decide +kernel
theorem dL_law_1864 : decode cL_law 1864 = .ok (.iload 5, 2) := by decide +kernel
theorem dL_law_1866 : decode cL_law 1866 = .ok (.ifCond .ne 15, 3) := by decide +kernel
theorem dL_law_1869 : decode cL_law 1869 = .ok (.aload_n 3, 1) := by decide +kernel
theorem dL_law_1870 : decode cL_law 1870 = .ok (.iconst 0, 1) := by decide +kernel
theorem dL_law_1871 : decode cL_law 1871 = .ok (.laload, 1) := by decide +kernel
theorem dL_law_1872 : decode cL_law 1872 = .ok (.iload 6, 2) := by decide +kernel
theorem dL_law_1874 : decode cL_law 1874 = .ok (.i2l, 1) := by decide +kernel
theorem dL_law_1875 : decode cL_law 1875 = .ok (.lcmp, 1) := by decide +kernel
theorem dL_law_1876 : decode cL_law 1876 = .ok (.ifCond .eq 5, 3) := by decide +kernel
theorem dL_law_1879 : decode cL_law 1879 = .ok (.iconst 0, 1) := by decide +kernel
theorem dL_law_1880 : decode cL_law 1880 = .ok (.ireturn, 1) := by decide +kernel
theorem dL_law_1881 : decode cL_law 1881 = .ok (.goto 572, 3) := by decide +kernel
theorem dL_law_1884 : decode cL_law 1884 = .ok (.aload_n 1, 1) := by decide +kernel
theorem dL_law_1885 : decode cL_law 1885 = .ok (.aload_n 0, 1) := by decide +kernel
theorem dL_law_1886 : decode cL_law 1886 = .ok (.iload 4, 2) := by decide +kernel
theorem dL_law_1888 : decode cL_law 1888 = .ok (.iconst 1, 1) := by decide +kernel
theorem dL_law_1889 : decode cL_law 1889 = .ok (.iadd, 1) := by decide +kernel
theorem dL_law_1890 : decode cL_law 1890 = .ok (.iaload, 1) := by decide +kernel
theorem dL_law_1891 : decode cL_law 1891 = .ok (.aload_n 0, 1) := by decide +kernel
theorem dL_law_1892 : decode cL_law 1892 = .ok (.iload 4, 2) := by decide +kernel
theorem dL_law_1894 : decode cL_law 1894 = .ok (.iconst 2, 1) := by decide +kernel
theorem dL_law_1895 : decode cL_law 1895 = .ok (.iadd, 1) := by decide +kernel
theorem dL_law_1896 : decode cL_law 1896 = .ok (.iaload, 1) := by decide +kernel
theorem dL_law_1897 : decode cL_law 1897 = .ok (.aload_n 0, 1) := by decide +kernel
theorem dL_law_1898 : decode cL_law 1898 = .ok (.iload 4, 2) := by decide +kernel
theorem dL_law_1900 : decode cL_law 1900 = .ok (.iconst 3, 1) := by decide +kernel
theorem dL_law_1901 : decode cL_law 1901 = .ok (.iadd, 1) := by decide +kernel
theorem dL_law_1902 : decode cL_law 1902 = .ok (.iaload, 1) := by decide +kernel
theorem dL_law_1903 : decode cL_law 1903 = .ok (.aload_n 3, 1) := by decide +kernel
theorem dL_law_1904 : decode cL_law 1904 = .ok (.invokestatic 219, 3) := by decide +kernel
theorem dL_law_1907 : decode cL_law 1907 = .ok (.istore 5, 2) := by decide +kernel
theorem dL_law_1909 : decode cL_law 1909 = .ok (.aload_n 2, 1) := by decide +kernel
theorem dL_law_1910 : decode cL_law 1910 = .ok (.aload_n 0, 1) := by decide +kernel
theorem dL_law_1911 : decode cL_law 1911 = .ok (.iload 4, 2) := by decide +kernel
theorem dL_law_1913 : decode cL_law 1913 = .ok (.iconst 1, 1) := by decide +kernel
theorem dL_law_1914 : decode cL_law 1914 = .ok (.iadd, 1) := by decide +kernel
theorem dL_law_1915 : decode cL_law 1915 = .ok (.iaload, 1) := by decide +kernel
theorem dL_law_1916 : decode cL_law 1916 = .ok (.aload_n 0, 1) := by decide +kernel
theorem dL_law_1917 : decode cL_law 1917 = .ok (.iload 4, 2) := by decide +kernel
theorem dL_law_1919 : decode cL_law 1919 = .ok (.iconst 2, 1) := by decide +kernel
theorem dL_law_1920 : decode cL_law 1920 = .ok (.iadd, 1) := by decide +kernel
theorem dL_law_1921 : decode cL_law 1921 = .ok (.iaload, 1) := by decide +kernel
theorem dL_law_1922 : decode cL_law 1922 = .ok (.aload_n 0, 1) := by decide +kernel
theorem dL_law_1923 : decode cL_law 1923 = .ok (.iload 4, 2) := by decide +kernel
theorem dL_law_1925 : decode cL_law 1925 = .ok (.iconst 3, 1) := by decide +kernel
theorem dL_law_1926 : decode cL_law 1926 = .ok (.iadd, 1) := by decide +kernel
theorem dL_law_1927 : decode cL_law 1927 = .ok (.iaload, 1) := by decide +kernel
theorem dL_law_1928 : decode cL_law 1928 = .ok (.invokevirtual 221, 3) := by decide +kernel
theorem dL_law_1931 : decode cL_law 1931 = .ok (.istore 6, 2) := by decide +kernel
theorem dL_law_1933 : decode cL_law 1933 = .ok (.aload_n 2, 1) := by decide +kernel
theorem dL_law_1934 : decode cL_law 1934 = .ok (.invokevirtual 125, 3) := by decide +kernel
theorem dL_law_1937 : decode cL_law 1937 = .ok (.iload 5, 2) := by decide +kernel
theorem dL_law_1939 : decode cL_law 1939 = .ok (.if_icmp .eq 5, 3) := by decide +kernel
theorem dL_law_1942 : decode cL_law 1942 = .ok (.iconst 0, 1) := by decide +kernel
theorem dL_law_1943 : decode cL_law 1943 = .ok (.ireturn, 1) := by decide +kernel
theorem dL_law_1944 : decode cL_law 1944 = .ok (.iload 5, 2) := by decide +kernel
theorem dL_law_1946 : decode cL_law 1946 = .ok (.ifCond .ne 15, 3) := by decide +kernel
theorem dL_law_1949 : decode cL_law 1949 = .ok (.aload_n 3, 1) := by decide +kernel
theorem dL_law_1950 : decode cL_law 1950 = .ok (.iconst 0, 1) := by decide +kernel
theorem dL_law_1951 : decode cL_law 1951 = .ok (.laload, 1) := by decide +kernel
theorem dL_law_1952 : decode cL_law 1952 = .ok (.iload 6, 2) := by decide +kernel
theorem dL_law_1954 : decode cL_law 1954 = .ok (.i2l, 1) := by decide +kernel
theorem dL_law_1955 : decode cL_law 1955 = .ok (.lcmp, 1) := by decide +kernel
theorem dL_law_1956 : decode cL_law 1956 = .ok (.ifCond .eq 5, 3) := by decide +kernel
theorem dL_law_1959 : decode cL_law 1959 = .ok (.iconst 0, 1) := by decide +kernel
theorem dL_law_1960 : decode cL_law 1960 = .ok (.ireturn, 1) := by decide +kernel
theorem dL_law_1961 : decode cL_law 1961 = .ok (.goto 492, 3) := by decide +kernel
theorem dL_law_1964 : decode cL_law 1964 = .ok (.aload_n 1, 1) := by decide +kernel
theorem dL_law_1965 : decode cL_law 1965 = .ok (.aload_n 0, 1) := by decide +kernel
theorem dL_law_1966 : decode cL_law 1966 = .ok (.iload 4, 2) := by decide +kernel
theorem dL_law_1968 : decode cL_law 1968 = .ok (.iconst 1, 1) := by decide +kernel
theorem dL_law_1969 : decode cL_law 1969 = .ok (.iadd, 1) := by decide +kernel
theorem dL_law_1970 : decode cL_law 1970 = .ok (.iaload, 1) := by decide +kernel
theorem dL_law_1971 : decode cL_law 1971 = .ok (.aload_n 0, 1) := by decide +kernel
theorem dL_law_1972 : decode cL_law 1972 = .ok (.iload 4, 2) := by decide +kernel
theorem dL_law_1974 : decode cL_law 1974 = .ok (.iconst 2, 1) := by decide +kernel
theorem dL_law_1975 : decode cL_law 1975 = .ok (.iadd, 1) := by decide +kernel
theorem dL_law_1976 : decode cL_law 1976 = .ok (.iaload, 1) := by decide +kernel
theorem dL_law_1977 : decode cL_law 1977 = .ok (.aload_n 3, 1) := by decide +kernel
theorem dL_law_1978 : decode cL_law 1978 = .ok (.invokestatic 222, 3) := by decide +kernel
theorem dL_law_1981 : decode cL_law 1981 = .ok (.istore 5, 2) := by decide +kernel
theorem dL_law_1983 : decode cL_law 1983 = .ok (.aload_n 2, 1) := by decide +kernel
theorem dL_law_1984 : decode cL_law 1984 = .ok (.aload_n 0, 1) := by decide +kernel
theorem dL_law_1985 : decode cL_law 1985 = .ok (.iload 4, 2) := by decide +kernel
theorem dL_law_1987 : decode cL_law 1987 = .ok (.iconst 1, 1) := by decide +kernel
theorem dL_law_1988 : decode cL_law 1988 = .ok (.iadd, 1) := by decide +kernel
theorem dL_law_1989 : decode cL_law 1989 = .ok (.iaload, 1) := by decide +kernel
theorem dL_law_1990 : decode cL_law 1990 = .ok (.aload_n 0, 1) := by decide +kernel
theorem dL_law_1991 : decode cL_law 1991 = .ok (.iload 4, 2) := by decide +kernel
theorem dL_law_1993 : decode cL_law 1993 = .ok (.iconst 2, 1) := by decide +kernel
theorem dL_law_1994 : decode cL_law 1994 = .ok (.iadd, 1) := by decide +kernel
theorem dL_law_1995 : decode cL_law 1995 = .ok (.iaload, 1) := by decide +kernel
theorem dL_law_1996 : decode cL_law 1996 = .ok (.invokevirtual 224, 3) := by decide +kernel
theorem dL_law_1999 : decode cL_law 1999 = .ok (.istore 6, 2) := by decide +kernel
theorem dL_law_2001 : decode cL_law 2001 = .ok (.aload_n 2, 1) := by decide +kernel
theorem dL_law_2002 : decode cL_law 2002 = .ok (.invokevirtual 125, 3) := by decide +kernel
theorem dL_law_2005 : decode cL_law 2005 = .ok (.iload 5, 2) := by decide +kernel
theorem dL_law_2007 : decode cL_law 2007 = .ok (.if_icmp .eq 5, 3) := by decide +kernel
theorem dL_law_2010 : decode cL_law 2010 = .ok (.iconst 0, 1) := by decide +kernel
theorem dL_law_2011 : decode cL_law 2011 = .ok (.ireturn, 1) := by decide +kernel
theorem dL_law_2012 : decode cL_law 2012 = .ok (.iload 5, 2) := by decide +kernel
theorem dL_law_2014 : decode cL_law 2014 = .ok (.ifCond .ne 15, 3) := by decide +kernel
theorem dL_law_2017 : decode cL_law 2017 = .ok (.aload_n 3, 1) := by decide +kernel
theorem dL_law_2018 : decode cL_law 2018 = .ok (.iconst 0, 1) := by decide +kernel
theorem dL_law_2019 : decode cL_law 2019 = .ok (.laload, 1) := by decide +kernel
theorem dL_law_2020 : decode cL_law 2020 = .ok (.iload 6, 2) := by decide +kernel
theorem dL_law_2022 : decode cL_law 2022 = .ok (.i2l, 1) := by decide +kernel
theorem dL_law_2023 : decode cL_law 2023 = .ok (.lcmp, 1) := by decide +kernel
theorem dL_law_2024 : decode cL_law 2024 = .ok (.ifCond .eq 5, 3) := by decide +kernel
theorem dL_law_2027 : decode cL_law 2027 = .ok (.iconst 0, 1) := by decide +kernel
theorem dL_law_2028 : decode cL_law 2028 = .ok (.ireturn, 1) := by decide +kernel
theorem dL_law_2029 : decode cL_law 2029 = .ok (.goto 424, 3) := by decide +kernel
theorem dL_law_2032 : decode cL_law 2032 = .ok (.aload_n 1, 1) := by decide +kernel
theorem dL_law_2033 : decode cL_law 2033 = .ok (.aload_n 0, 1) := by decide +kernel
theorem dL_law_2034 : decode cL_law 2034 = .ok (.iload 4, 2) := by decide +kernel
theorem dL_law_2036 : decode cL_law 2036 = .ok (.iconst 1, 1) := by decide +kernel
theorem dL_law_2037 : decode cL_law 2037 = .ok (.iadd, 1) := by decide +kernel
theorem dL_law_2038 : decode cL_law 2038 = .ok (.iaload, 1) := by decide +kernel
theorem dL_law_2039 : decode cL_law 2039 = .ok (.aload_n 0, 1) := by decide +kernel
theorem dL_law_2040 : decode cL_law 2040 = .ok (.iload 4, 2) := by decide +kernel
theorem dL_law_2042 : decode cL_law 2042 = .ok (.iconst 2, 1) := by decide +kernel
theorem dL_law_2043 : decode cL_law 2043 = .ok (.iadd, 1) := by decide +kernel
theorem dL_law_2044 : decode cL_law 2044 = .ok (.iaload, 1) := by decide +kernel
theorem dL_law_2045 : decode cL_law 2045 = .ok (.aload_n 3, 1) := by decide +kernel
theorem dL_law_2046 : decode cL_law 2046 = .ok (.invokestatic 225, 3) := by decide +kernel
theorem dL_law_2049 : decode cL_law 2049 = .ok (.istore 5, 2) := by decide +kernel
theorem dL_law_2051 : decode cL_law 2051 = .ok (.aload_n 2, 1) := by decide +kernel
theorem dL_law_2052 : decode cL_law 2052 = .ok (.aload_n 0, 1) := by decide +kernel
theorem dL_law_2053 : decode cL_law 2053 = .ok (.iload 4, 2) := by decide +kernel
theorem dL_law_2055 : decode cL_law 2055 = .ok (.iconst 1, 1) := by decide +kernel
theorem dL_law_2056 : decode cL_law 2056 = .ok (.iadd, 1) := by decide +kernel
theorem dL_law_2057 : decode cL_law 2057 = .ok (.iaload, 1) := by decide +kernel
theorem dL_law_2058 : decode cL_law 2058 = .ok (.aload_n 0, 1) := by decide +kernel
theorem dL_law_2059 : decode cL_law 2059 = .ok (.iload 4, 2) := by decide +kernel
theorem dL_law_2061 : decode cL_law 2061 = .ok (.iconst 2, 1) := by decide +kernel
theorem dL_law_2062 : decode cL_law 2062 = .ok (.iadd, 1) := by decide +kernel
theorem dL_law_2063 : decode cL_law 2063 = .ok (.iaload, 1) := by decide +kernel
theorem dL_law_2064 : decode cL_law 2064 = .ok (.invokevirtual 227, 3) := by decide +kernel
theorem dL_law_2067 : decode cL_law 2067 = .ok (.istore 6, 2) := by decide +kernel
theorem dL_law_2069 : decode cL_law 2069 = .ok (.aload_n 2, 1) := by decide +kernel
theorem dL_law_2070 : decode cL_law 2070 = .ok (.invokevirtual 125, 3) := by decide +kernel
theorem dL_law_2073 : decode cL_law 2073 = .ok (.iload 5, 2) := by decide +kernel
theorem dL_law_2075 : decode cL_law 2075 = .ok (.if_icmp .eq 5, 3) := by decide +kernel
theorem dL_law_2078 : decode cL_law 2078 = .ok (.iconst 0, 1) := by decide +kernel
theorem dL_law_2079 : decode cL_law 2079 = .ok (.ireturn, 1) := by decide +kernel
theorem dL_law_2080 : decode cL_law 2080 = .ok (.iload 5, 2) := by decide +kernel
theorem dL_law_2082 : decode cL_law 2082 = .ok (.ifCond .ne 15, 3) := by decide +kernel
theorem dL_law_2085 : decode cL_law 2085 = .ok (.aload_n 3, 1) := by decide +kernel
theorem dL_law_2086 : decode cL_law 2086 = .ok (.iconst 0, 1) := by decide +kernel
theorem dL_law_2087 : decode cL_law 2087 = .ok (.laload, 1) := by decide +kernel
theorem dL_law_2088 : decode cL_law 2088 = .ok (.iload 6, 2) := by decide +kernel
theorem dL_law_2090 : decode cL_law 2090 = .ok (.i2l, 1) := by decide +kernel
theorem dL_law_2091 : decode cL_law 2091 = .ok (.lcmp, 1) := by decide +kernel
theorem dL_law_2092 : decode cL_law 2092 = .ok (.ifCond .eq 5, 3) := by decide +kernel
theorem dL_law_2095 : decode cL_law 2095 = .ok (.iconst 0, 1) := by decide +kernel
theorem dL_law_2096 : decode cL_law 2096 = .ok (.ireturn, 1) := by decide +kernel
theorem dL_law_2097 : decode cL_law 2097 = .ok (.goto 356, 3) := by decide +kernel
theorem dL_law_2100 : decode cL_law 2100 = .ok (.aload_n 1, 1) := by decide +kernel
theorem dL_law_2101 : decode cL_law 2101 = .ok (.aload_n 0, 1) := by decide +kernel
theorem dL_law_2102 : decode cL_law 2102 = .ok (.iload 4, 2) := by decide +kernel
theorem dL_law_2104 : decode cL_law 2104 = .ok (.iconst 1, 1) := by decide +kernel
theorem dL_law_2105 : decode cL_law 2105 = .ok (.iadd, 1) := by decide +kernel
theorem dL_law_2106 : decode cL_law 2106 = .ok (.iaload, 1) := by decide +kernel
theorem dL_law_2107 : decode cL_law 2107 = .ok (.aload_n 0, 1) := by decide +kernel
theorem dL_law_2108 : decode cL_law 2108 = .ok (.iload 4, 2) := by decide +kernel
theorem dL_law_2110 : decode cL_law 2110 = .ok (.iconst 2, 1) := by decide +kernel
theorem dL_law_2111 : decode cL_law 2111 = .ok (.iadd, 1) := by decide +kernel
theorem dL_law_2112 : decode cL_law 2112 = .ok (.iaload, 1) := by decide +kernel
theorem dL_law_2113 : decode cL_law 2113 = .ok (.aload_n 3, 1) := by decide +kernel
theorem dL_law_2114 : decode cL_law 2114 = .ok (.invokestatic 228, 3) := by decide +kernel
theorem dL_law_2117 : decode cL_law 2117 = .ok (.istore 5, 2) := by decide +kernel
theorem dL_law_2119 : decode cL_law 2119 = .ok (.aload_n 2, 1) := by decide +kernel
theorem dL_law_2120 : decode cL_law 2120 = .ok (.aload_n 0, 1) := by decide +kernel
theorem dL_law_2121 : decode cL_law 2121 = .ok (.iload 4, 2) := by decide +kernel
theorem dL_law_2123 : decode cL_law 2123 = .ok (.iconst 1, 1) := by decide +kernel
theorem dL_law_2124 : decode cL_law 2124 = .ok (.iadd, 1) := by decide +kernel
theorem dL_law_2125 : decode cL_law 2125 = .ok (.iaload, 1) := by decide +kernel
theorem dL_law_2126 : decode cL_law 2126 = .ok (.aload_n 0, 1) := by decide +kernel
theorem dL_law_2127 : decode cL_law 2127 = .ok (.iload 4, 2) := by decide +kernel
theorem dL_law_2129 : decode cL_law 2129 = .ok (.iconst 2, 1) := by decide +kernel
theorem dL_law_2130 : decode cL_law 2130 = .ok (.iadd, 1) := by decide +kernel
theorem dL_law_2131 : decode cL_law 2131 = .ok (.iaload, 1) := by decide +kernel
theorem dL_law_2132 : decode cL_law 2132 = .ok (.invokevirtual 230, 3) := by decide +kernel
theorem dL_law_2135 : decode cL_law 2135 = .ok (.istore 6, 2) := by decide +kernel
theorem dL_law_2137 : decode cL_law 2137 = .ok (.aload_n 2, 1) := by decide +kernel
theorem dL_law_2138 : decode cL_law 2138 = .ok (.invokevirtual 125, 3) := by decide +kernel
theorem dL_law_2141 : decode cL_law 2141 = .ok (.iload 5, 2) := by decide +kernel
theorem dL_law_2143 : decode cL_law 2143 = .ok (.if_icmp .eq 5, 3) := by decide +kernel
theorem dL_law_2146 : decode cL_law 2146 = .ok (.iconst 0, 1) := by decide +kernel
theorem dL_law_2147 : decode cL_law 2147 = .ok (.ireturn, 1) := by decide +kernel
theorem dL_law_2148 : decode cL_law 2148 = .ok (.iload 5, 2) := by decide +kernel
theorem dL_law_2150 : decode cL_law 2150 = .ok (.ifCond .ne 15, 3) := by decide +kernel
theorem dL_law_2153 : decode cL_law 2153 = .ok (.aload_n 3, 1) := by decide +kernel
theorem dL_law_2154 : decode cL_law 2154 = .ok (.iconst 0, 1) := by decide +kernel
theorem dL_law_2155 : decode cL_law 2155 = .ok (.laload, 1) := by decide +kernel
theorem dL_law_2156 : decode cL_law 2156 = .ok (.iload 6, 2) := by decide +kernel
theorem dL_law_2158 : decode cL_law 2158 = .ok (.i2l, 1) := by decide +kernel
theorem dL_law_2159 : decode cL_law 2159 = .ok (.lcmp, 1) := by decide +kernel
theorem dL_law_2160 : decode cL_law 2160 = .ok (.ifCond .eq 5, 3) := by decide +kernel
theorem dL_law_2163 : decode cL_law 2163 = .ok (.iconst 0, 1) := by decide +kernel
theorem dL_law_2164 : decode cL_law 2164 = .ok (.ireturn, 1) := by decide +kernel
theorem dL_law_2165 : decode cL_law 2165 = .ok (.goto 288, 3) := by decide +kernel
theorem dL_law_2168 : decode cL_law 2168 = .ok (.aload_n 1, 1) := by decide +kernel
theorem dL_law_2169 : decode cL_law 2169 = .ok (.aload_n 0, 1) := by decide +kernel
theorem dL_law_2170 : decode cL_law 2170 = .ok (.iload 4, 2) := by decide +kernel
theorem dL_law_2172 : decode cL_law 2172 = .ok (.iconst 1, 1) := by decide +kernel
theorem dL_law_2173 : decode cL_law 2173 = .ok (.iadd, 1) := by decide +kernel
theorem dL_law_2174 : decode cL_law 2174 = .ok (.iaload, 1) := by decide +kernel
theorem dL_law_2175 : decode cL_law 2175 = .ok (.aload_n 0, 1) := by decide +kernel
theorem dL_law_2176 : decode cL_law 2176 = .ok (.iload 4, 2) := by decide +kernel
theorem dL_law_2178 : decode cL_law 2178 = .ok (.iconst 2, 1) := by decide +kernel
theorem dL_law_2179 : decode cL_law 2179 = .ok (.iadd, 1) := by decide +kernel
theorem dL_law_2180 : decode cL_law 2180 = .ok (.iaload, 1) := by decide +kernel
theorem dL_law_2181 : decode cL_law 2181 = .ok (.aload_n 3, 1) := by decide +kernel
theorem dL_law_2182 : decode cL_law 2182 = .ok (.invokestatic 231, 3) := by decide +kernel
theorem dL_law_2185 : decode cL_law 2185 = .ok (.istore 5, 2) := by decide +kernel
theorem dL_law_2187 : decode cL_law 2187 = .ok (.aload_n 2, 1) := by decide +kernel
theorem dL_law_2188 : decode cL_law 2188 = .ok (.aload_n 0, 1) := by decide +kernel
theorem dL_law_2189 : decode cL_law 2189 = .ok (.iload 4, 2) := by decide +kernel
theorem dL_law_2191 : decode cL_law 2191 = .ok (.iconst 1, 1) := by decide +kernel
theorem dL_law_2192 : decode cL_law 2192 = .ok (.iadd, 1) := by decide +kernel
theorem dL_law_2193 : decode cL_law 2193 = .ok (.iaload, 1) := by decide +kernel
theorem dL_law_2194 : decode cL_law 2194 = .ok (.aload_n 0, 1) := by decide +kernel
theorem dL_law_2195 : decode cL_law 2195 = .ok (.iload 4, 2) := by decide +kernel
theorem dL_law_2197 : decode cL_law 2197 = .ok (.iconst 2, 1) := by decide +kernel
theorem dL_law_2198 : decode cL_law 2198 = .ok (.iadd, 1) := by decide +kernel
theorem dL_law_2199 : decode cL_law 2199 = .ok (.iaload, 1) := by decide +kernel
theorem dL_law_2200 : decode cL_law 2200 = .ok (.invokevirtual 233, 3) := by decide +kernel
theorem dL_law_2203 : decode cL_law 2203 = .ok (.istore 6, 2) := by decide +kernel
theorem dL_law_2205 : decode cL_law 2205 = .ok (.aload_n 2, 1) := by decide +kernel
theorem dL_law_2206 : decode cL_law 2206 = .ok (.invokevirtual 125, 3) := by decide +kernel
theorem dL_law_2209 : decode cL_law 2209 = .ok (.iload 5, 2) := by decide +kernel
theorem dL_law_2211 : decode cL_law 2211 = .ok (.if_icmp .eq 5, 3) := by decide +kernel
theorem dL_law_2214 : decode cL_law 2214 = .ok (.iconst 0, 1) := by decide +kernel
theorem dL_law_2215 : decode cL_law 2215 = .ok (.ireturn, 1) := by decide +kernel
theorem dL_law_2216 : decode cL_law 2216 = .ok (.iload 5, 2) := by decide +kernel
theorem dL_law_2218 : decode cL_law 2218 = .ok (.ifCond .ne 15, 3) := by decide +kernel
theorem dL_law_2221 : decode cL_law 2221 = .ok (.aload_n 3, 1) := by decide +kernel
theorem dL_law_2222 : decode cL_law 2222 = .ok (.iconst 0, 1) := by decide +kernel
theorem dL_law_2223 : decode cL_law 2223 = .ok (.laload, 1) := by decide +kernel
theorem dL_law_2224 : decode cL_law 2224 = .ok (.iload 6, 2) := by decide +kernel
theorem dL_law_2226 : decode cL_law 2226 = .ok (.i2l, 1) := by decide +kernel
theorem dL_law_2227 : decode cL_law 2227 = .ok (.lcmp, 1) := by decide +kernel
theorem dL_law_2228 : decode cL_law 2228 = .ok (.ifCond .eq 5, 3) := by decide +kernel
theorem dL_law_2231 : decode cL_law 2231 = .ok (.iconst 0, 1) := by decide +kernel
theorem dL_law_2232 : decode cL_law 2232 = .ok (.ireturn, 1) := by decide +kernel
theorem dL_law_2233 : decode cL_law 2233 = .ok (.goto 220, 3) := by decide +kernel
theorem dL_law_2236 : decode cL_law 2236 = .ok (.aload_n 1, 1) := by decide +kernel
theorem dL_law_2237 : decode cL_law 2237 = .ok (.invokevirtual 234, 3) := by decide +kernel
theorem dL_law_2240 : decode cL_law 2240 = .ok (.aload_n 2, 1) := by decide +kernel
theorem dL_law_2241 : decode cL_law 2241 = .ok (.invokevirtual 237, 3) := by decide +kernel
theorem dL_law_2244 : decode cL_law 2244 = .ok (.if_icmp .eq 209, 3) := by decide +kernel
theorem dL_law_2247 : decode cL_law 2247 = .ok (.iconst 0, 1) := by decide +kernel
theorem dL_law_2248 : decode cL_law 2248 = .ok (.ireturn, 1) := by decide +kernel
theorem dL_law_2249 : decode cL_law 2249 = .ok (.aload_n 1, 1) := by decide +kernel
theorem dL_law_2250 : decode cL_law 2250 = .ok (.aload_n 0, 1) := by decide +kernel
theorem dL_law_2251 : decode cL_law 2251 = .ok (.iload 4, 2) := by decide +kernel
theorem dL_law_2253 : decode cL_law 2253 = .ok (.iconst 1, 1) := by decide +kernel
theorem dL_law_2254 : decode cL_law 2254 = .ok (.iadd, 1) := by decide +kernel
theorem dL_law_2255 : decode cL_law 2255 = .ok (.iaload, 1) := by decide +kernel
theorem dL_law_2256 : decode cL_law 2256 = .ok (.aload_n 0, 1) := by decide +kernel
theorem dL_law_2257 : decode cL_law 2257 = .ok (.iload 4, 2) := by decide +kernel
theorem dL_law_2259 : decode cL_law 2259 = .ok (.iconst 2, 1) := by decide +kernel
theorem dL_law_2260 : decode cL_law 2260 = .ok (.iadd, 1) := by decide +kernel
theorem dL_law_2261 : decode cL_law 2261 = .ok (.iaload, 1) := by decide +kernel
theorem dL_law_2262 : decode cL_law 2262 = .ok (.aload_n 3, 1) := by decide +kernel
theorem dL_law_2263 : decode cL_law 2263 = .ok (.invokestatic 238, 3) := by decide +kernel
theorem dL_law_2266 : decode cL_law 2266 = .ok (.istore 5, 2) := by decide +kernel
theorem dL_law_2268 : decode cL_law 2268 = .ok (.aload_n 2, 1) := by decide +kernel
theorem dL_law_2269 : decode cL_law 2269 = .ok (.aload_n 0, 1) := by decide +kernel
theorem dL_law_2270 : decode cL_law 2270 = .ok (.iload 4, 2) := by decide +kernel
theorem dL_law_2272 : decode cL_law 2272 = .ok (.iconst 1, 1) := by decide +kernel
theorem dL_law_2273 : decode cL_law 2273 = .ok (.iadd, 1) := by decide +kernel
theorem dL_law_2274 : decode cL_law 2274 = .ok (.iaload, 1) := by decide +kernel
theorem dL_law_2275 : decode cL_law 2275 = .ok (.aload_n 0, 1) := by decide +kernel
theorem dL_law_2276 : decode cL_law 2276 = .ok (.iload 4, 2) := by decide +kernel
theorem dL_law_2278 : decode cL_law 2278 = .ok (.iconst 2, 1) := by decide +kernel
theorem dL_law_2279 : decode cL_law 2279 = .ok (.iadd, 1) := by decide +kernel
theorem dL_law_2280 : decode cL_law 2280 = .ok (.iaload, 1) := by decide +kernel
theorem dL_law_2281 : decode cL_law 2281 = .ok (.invokevirtual 240, 3) := by decide +kernel
theorem dL_law_2284 : decode cL_law 2284 = .ok (.istore 6, 2) := by decide +kernel
theorem dL_law_2286 : decode cL_law 2286 = .ok (.aload_n 2, 1) := by decide +kernel
theorem dL_law_2287 : decode cL_law 2287 = .ok (.invokevirtual 125, 3) := by decide +kernel
theorem dL_law_2290 : decode cL_law 2290 = .ok (.iload 5, 2) := by decide +kernel
theorem dL_law_2292 : decode cL_law 2292 = .ok (.if_icmp .eq 5, 3) := by decide +kernel
theorem dL_law_2295 : decode cL_law 2295 = .ok (.iconst 0, 1) := by decide +kernel
theorem dL_law_2296 : decode cL_law 2296 = .ok (.ireturn, 1) := by decide +kernel
theorem dL_law_2297 : decode cL_law 2297 = .ok (.iload 5, 2) := by decide +kernel
theorem dL_law_2299 : decode cL_law 2299 = .ok (.ifCond .ne 15, 3) := by decide +kernel
theorem dL_law_2302 : decode cL_law 2302 = .ok (.aload_n 3, 1) := by decide +kernel
theorem dL_law_2303 : decode cL_law 2303 = .ok (.iconst 0, 1) := by decide +kernel
theorem dL_law_2304 : decode cL_law 2304 = .ok (.laload, 1) := by decide +kernel
theorem dL_law_2305 : decode cL_law 2305 = .ok (.iload 6, 2) := by decide +kernel
theorem dL_law_2307 : decode cL_law 2307 = .ok (.i2l, 1) := by decide +kernel
theorem dL_law_2308 : decode cL_law 2308 = .ok (.lcmp, 1) := by decide +kernel
theorem dL_law_2309 : decode cL_law 2309 = .ok (.ifCond .eq 5, 3) := by decide +kernel
theorem dL_law_2312 : decode cL_law 2312 = .ok (.iconst 0, 1) := by decide +kernel
theorem dL_law_2313 : decode cL_law 2313 = .ok (.ireturn, 1) := by decide +kernel
theorem dL_law_2314 : decode cL_law 2314 = .ok (.goto 139, 3) := by decide +kernel
theorem dL_law_2317 : decode cL_law 2317 = .ok (.aload_n 1, 1) := by decide +kernel
theorem dL_law_2318 : decode cL_law 2318 = .ok (.aload_n 0, 1) := by decide +kernel
theorem dL_law_2319 : decode cL_law 2319 = .ok (.iload 4, 2) := by decide +kernel
theorem dL_law_2321 : decode cL_law 2321 = .ok (.iconst 1, 1) := by decide +kernel
theorem dL_law_2322 : decode cL_law 2322 = .ok (.iadd, 1) := by decide +kernel
theorem dL_law_2323 : decode cL_law 2323 = .ok (.iaload, 1) := by decide +kernel
theorem dL_law_2324 : decode cL_law 2324 = .ok (.aload_n 3, 1) := by decide +kernel
theorem dL_law_2325 : decode cL_law 2325 = .ok (.invokestatic 241, 3) := by decide +kernel
theorem dL_law_2328 : decode cL_law 2328 = .ok (.istore 5, 2) := by decide +kernel
theorem dL_law_2330 : decode cL_law 2330 = .ok (.aload_n 2, 1) := by decide +kernel
theorem dL_law_2331 : decode cL_law 2331 = .ok (.aload_n 0, 1) := by decide +kernel
theorem dL_law_2332 : decode cL_law 2332 = .ok (.iload 4, 2) := by decide +kernel
theorem dL_law_2334 : decode cL_law 2334 = .ok (.iconst 1, 1) := by decide +kernel
theorem dL_law_2335 : decode cL_law 2335 = .ok (.iadd, 1) := by decide +kernel
theorem dL_law_2336 : decode cL_law 2336 = .ok (.iaload, 1) := by decide +kernel
theorem dL_law_2337 : decode cL_law 2337 = .ok (.invokevirtual 243, 3) := by decide +kernel
theorem dL_law_2340 : decode cL_law 2340 = .ok (.istore 6, 2) := by decide +kernel
theorem dL_law_2342 : decode cL_law 2342 = .ok (.aload_n 2, 1) := by decide +kernel
theorem dL_law_2343 : decode cL_law 2343 = .ok (.invokevirtual 125, 3) := by decide +kernel
theorem dL_law_2346 : decode cL_law 2346 = .ok (.iload 5, 2) := by decide +kernel
theorem dL_law_2348 : decode cL_law 2348 = .ok (.if_icmp .eq 5, 3) := by decide +kernel
theorem dL_law_2351 : decode cL_law 2351 = .ok (.iconst 0, 1) := by decide +kernel
theorem dL_law_2352 : decode cL_law 2352 = .ok (.ireturn, 1) := by decide +kernel
theorem dL_law_2353 : decode cL_law 2353 = .ok (.iload 5, 2) := by decide +kernel
theorem dL_law_2355 : decode cL_law 2355 = .ok (.ifCond .ne 15, 3) := by decide +kernel
theorem dL_law_2358 : decode cL_law 2358 = .ok (.aload_n 3, 1) := by decide +kernel
theorem dL_law_2359 : decode cL_law 2359 = .ok (.iconst 0, 1) := by decide +kernel
theorem dL_law_2360 : decode cL_law 2360 = .ok (.laload, 1) := by decide +kernel
theorem dL_law_2361 : decode cL_law 2361 = .ok (.iload 6, 2) := by decide +kernel
theorem dL_law_2363 : decode cL_law 2363 = .ok (.i2l, 1) := by decide +kernel
theorem dL_law_2364 : decode cL_law 2364 = .ok (.lcmp, 1) := by decide +kernel
theorem dL_law_2365 : decode cL_law 2365 = .ok (.ifCond .eq 5, 3) := by decide +kernel
theorem dL_law_2368 : decode cL_law 2368 = .ok (.iconst 0, 1) := by decide +kernel
theorem dL_law_2369 : decode cL_law 2369 = .ok (.ireturn, 1) := by decide +kernel
theorem dL_law_2370 : decode cL_law 2370 = .ok (.goto 83, 3) := by decide +kernel
theorem dL_law_2373 : decode cL_law 2373 = .ok (.aload_n 1, 1) := by decide +kernel
theorem dL_law_2374 : decode cL_law 2374 = .ok (.aload_n 0, 1) := by decide +kernel
theorem dL_law_2375 : decode cL_law 2375 = .ok (.iload 4, 2) := by decide +kernel
theorem dL_law_2377 : decode cL_law 2377 = .ok (.iconst 1, 1) := by decide +kernel
theorem dL_law_2378 : decode cL_law 2378 = .ok (.iadd, 1) := by decide +kernel
theorem dL_law_2379 : decode cL_law 2379 = .ok (.iaload, 1) := by decide +kernel
theorem dL_law_2380 : decode cL_law 2380 = .ok (.aload_n 3, 1) := by decide +kernel
theorem dL_law_2381 : decode cL_law 2381 = .ok (.invokestatic 244, 3) := by decide +kernel
theorem dL_law_2384 : decode cL_law 2384 = .ok (.istore 5, 2) := by decide +kernel
theorem dL_law_2386 : decode cL_law 2386 = .ok (.aload_n 2, 1) := by decide +kernel
theorem dL_law_2387 : decode cL_law 2387 = .ok (.aload_n 0, 1) := by decide +kernel
theorem dL_law_2388 : decode cL_law 2388 = .ok (.iload 4, 2) := by decide +kernel
theorem dL_law_2390 : decode cL_law 2390 = .ok (.iconst 1, 1) := by decide +kernel
theorem dL_law_2391 : decode cL_law 2391 = .ok (.iadd, 1) := by decide +kernel
theorem dL_law_2392 : decode cL_law 2392 = .ok (.iaload, 1) := by decide +kernel
theorem dL_law_2393 : decode cL_law 2393 = .ok (.invokevirtual 246, 3) := by decide +kernel
theorem dL_law_2396 : decode cL_law 2396 = .ok (.istore 6, 2) := by decide +kernel
theorem dL_law_2398 : decode cL_law 2398 = .ok (.aload_n 2, 1) := by decide +kernel
theorem dL_law_2399 : decode cL_law 2399 = .ok (.invokevirtual 125, 3) := by decide +kernel
theorem dL_law_2402 : decode cL_law 2402 = .ok (.iload 5, 2) := by decide +kernel
theorem dL_law_2404 : decode cL_law 2404 = .ok (.if_icmp .eq 5, 3) := by decide +kernel
theorem dL_law_2407 : decode cL_law 2407 = .ok (.iconst 0, 1) := by decide +kernel
theorem dL_law_2408 : decode cL_law 2408 = .ok (.ireturn, 1) := by decide +kernel
theorem dL_law_2409 : decode cL_law 2409 = .ok (.iload 5, 2) := by decide +kernel
theorem dL_law_2411 : decode cL_law 2411 = .ok (.ifCond .ne 15, 3) := by decide +kernel
theorem dL_law_2414 : decode cL_law 2414 = .ok (.aload_n 3, 1) := by decide +kernel
theorem dL_law_2415 : decode cL_law 2415 = .ok (.iconst 0, 1) := by decide +kernel
theorem dL_law_2416 : decode cL_law 2416 = .ok (.laload, 1) := by decide +kernel
theorem dL_law_2417 : decode cL_law 2417 = .ok (.iload 6, 2) := by decide +kernel
theorem dL_law_2419 : decode cL_law 2419 = .ok (.i2l, 1) := by decide +kernel
theorem dL_law_2420 : decode cL_law 2420 = .ok (.lcmp, 1) := by decide +kernel
theorem dL_law_2421 : decode cL_law 2421 = .ok (.ifCond .eq 5, 3) := by decide +kernel
theorem dL_law_2424 : decode cL_law 2424 = .ok (.iconst 0, 1) := by decide +kernel
theorem dL_law_2425 : decode cL_law 2425 = .ok (.ireturn, 1) := by decide +kernel
theorem dL_law_2426 : decode cL_law 2426 = .ok (.goto 27, 3) := by decide +kernel
theorem dL_law_2429 : decode cL_law 2429 = .ok (.aload_n 1, 1) := by decide +kernel
theorem dL_law_2430 : decode cL_law 2430 = .ok (.invokevirtual 247, 3) := by decide +kernel
theorem dL_law_2433 : decode cL_law 2433 = .ok (.aload_n 2, 1) := by decide +kernel
theorem dL_law_2434 : decode cL_law 2434 = .ok (.invokevirtual 250, 3) := by decide +kernel
theorem dL_law_2437 : decode cL_law 2437 = .ok (.goto 16, 3) := by decide +kernel
theorem dL_law_2440 : decode cL_law 2440 = .ok (.aload_n 1, 1) := by decide +kernel
theorem dL_law_2441 : decode cL_law 2441 = .ok (.invokevirtual 251, 3) := by decide +kernel
theorem dL_law_2444 : decode cL_law 2444 = .ok (.aload_n 2, 1) := by decide +kernel
theorem dL_law_2445 : decode cL_law 2445 = .ok (.invokevirtual 255, 3) := by decide +kernel
theorem dL_law_2448 : decode cL_law 2448 = .ok (.if_icmp .eq 5, 3) := by decide +kernel
theorem dL_law_2451 : decode cL_law 2451 = .ok (.iconst 0, 1) := by decide +kernel
theorem dL_law_2452 : decode cL_law 2452 = .ok (.ireturn, 1) := by decide +kernel
theorem dL_law_2453 : decode cL_law 2453 = .ok (.iinc 4 6, 3) := by decide +kernel
theorem dL_law_2456 : decode cL_law 2456 = .ok (.goto (-2433), 3) := by decide +kernel
theorem dL_law_2459 : decode cL_law 2459 = .ok (.iconst 1, 1) := by decide +kernel
theorem dL_law_2460 : decode cL_law 2460 = .ok (.ireturn, 1) := by decide +kernel

theorem dX4_cell_73 : decode cX4_cell 73 = .ok (.invokestatic 89, 3) := by decide +kernel
theorem dX4_cell_76 : decode cX4_cell 76 = .ok (.ireturn, 1) := by decide +kernel
theorem dX4_cell_77 : decode cX4_cell 77 = .ok (.iconst (-1), 1) := by decide +kernel
theorem dX4_cell_78 : decode cX4_cell 78 = .ok (.ireturn, 1) := by decide +kernel
theorem dX4_lamp_0 : decode cX4_lamp 0 = .ok (.aload_n 0, 1) := by decide +kernel
theorem dX4_lamp_1 : decode cX4_lamp 1 = .ok (.iload_n 1, 1) := by decide +kernel
theorem dX4_lamp_2 : decode cX4_lamp 2 = .ok (.invokevirtual 104, 3) := by decide +kernel
theorem dX4_lamp_5 : decode cX4_lamp 5 = .ok (.ifCond .ne 5, 3) := by decide +kernel
theorem dX4_lamp_8 : decode cX4_lamp 8 = .ok (.iconst (-1), 1) := by decide +kernel
theorem dX4_lamp_9 : decode cX4_lamp 9 = .ok (.ireturn, 1) := by decide +kernel
theorem dX4_lamp_10 : decode cX4_lamp 10 = .ok (.iload_n 2, 1) := by decide +kernel
theorem dX4_lamp_11 : decode cX4_lamp 11 = .ok (.tableswitch 68 0 3 #[29, 39, 49, 58], 29) := by decide +kernel
theorem dX4_lamp_40 : decode cX4_lamp 40 = .ok (.aload_n 0, 1) := by decide +kernel
theorem dX4_lamp_41 : decode cX4_lamp 41 = .ok (.getfield 36, 3) := by decide +kernel
theorem dX4_lamp_44 : decode cX4_lamp 44 = .ok (.getfield 107, 3) := by decide +kernel
theorem dX4_lamp_47 : decode cX4_lamp 47 = .ok (.iload_n 1, 1) := by decide +kernel
theorem dX4_lamp_48 : decode cX4_lamp 48 = .ok (.iaload, 1) := by decide +kernel
theorem dX4_lamp_49 : decode cX4_lamp 49 = .ok (.ireturn, 1) := by decide +kernel
theorem dX4_lamp_50 : decode cX4_lamp 50 = .ok (.aload_n 0, 1) := by decide +kernel
theorem dX4_lamp_51 : decode cX4_lamp 51 = .ok (.getfield 36, 3) := by decide +kernel
theorem dX4_lamp_54 : decode cX4_lamp 54 = .ok (.getfield 110, 3) := by decide +kernel
theorem dX4_lamp_57 : decode cX4_lamp 57 = .ok (.iload_n 1, 1) := by decide +kernel
theorem dX4_lamp_58 : decode cX4_lamp 58 = .ok (.iaload, 1) := by decide +kernel
theorem dX4_lamp_59 : decode cX4_lamp 59 = .ok (.ireturn, 1) := by decide +kernel
theorem dX4_lamp_60 : decode cX4_lamp 60 = .ok (.aload_n 0, 1) := by decide +kernel
theorem dX4_lamp_61 : decode cX4_lamp 61 = .ok (.invokevirtual 100, 3) := by decide +kernel
theorem dX4_lamp_64 : decode cX4_lamp 64 = .ok (.iload_n 1, 1) := by decide +kernel
theorem dX4_lamp_65 : decode cX4_lamp 65 = .ok (.invokestatic 89, 3) := by decide +kernel
theorem dX4_lamp_68 : decode cX4_lamp 68 = .ok (.ireturn, 1) := by decide +kernel
theorem dX4_lamp_69 : decode cX4_lamp 69 = .ok (.aload_n 0, 1) := by decide +kernel
theorem dX4_lamp_70 : decode cX4_lamp 70 = .ok (.getfield 36, 3) := by decide +kernel
theorem dX4_lamp_73 : decode cX4_lamp 73 = .ok (.getfield 113, 3) := by decide +kernel
theorem dX4_lamp_76 : decode cX4_lamp 76 = .ok (.iload_n 1, 1) := by decide +kernel
theorem dX4_lamp_77 : decode cX4_lamp 77 = .ok (.iaload, 1) := by decide +kernel
theorem dX4_lamp_78 : decode cX4_lamp 78 = .ok (.ireturn, 1) := by decide +kernel
theorem dX4_lamp_79 : decode cX4_lamp 79 = .ok (.iconst (-1), 1) := by decide +kernel
theorem dX4_lamp_80 : decode cX4_lamp 80 = .ok (.ireturn, 1) := by decide +kernel
theorem dX4_person_0 : decode cX4_person 0 = .ok (.aload_n 0, 1) := by decide +kernel
theorem dX4_person_1 : decode cX4_person 1 = .ok (.iload_n 1, 1) := by decide +kernel
theorem dX4_person_2 : decode cX4_person 2 = .ok (.invokevirtual 116, 3) := by decide +kernel
theorem dX4_person_5 : decode cX4_person 5 = .ok (.ifCond .ne 5, 3) := by decide +kernel
theorem dX4_person_8 : decode cX4_person 8 = .ok (.iconst (-1), 1) := by decide +kernel
theorem dX4_person_9 : decode cX4_person 9 = .ok (.ireturn, 1) := by decide +kernel
theorem dX4_person_10 : decode cX4_person 10 = .ok (.iload_n 2, 1) := by decide +kernel
theorem dX4_person_11 : decode cX4_person 11 = .ok (.tableswitch 68 0 3 #[29, 39, 49, 59], 29) := by decide +kernel
theorem dX4_person_40 : decode cX4_person 40 = .ok (.aload_n 0, 1) := by decide +kernel
theorem dX4_person_41 : decode cX4_person 41 = .ok (.getfield 36, 3) := by decide +kernel
theorem dX4_person_44 : decode cX4_person 44 = .ok (.getfield 119, 3) := by decide +kernel
theorem dX4_person_47 : decode cX4_person 47 = .ok (.iload_n 1, 1) := by decide +kernel
theorem dX4_person_48 : decode cX4_person 48 = .ok (.iaload, 1) := by decide +kernel
theorem dX4_person_49 : decode cX4_person 49 = .ok (.ireturn, 1) := by decide +kernel
theorem dX4_person_50 : decode cX4_person 50 = .ok (.aload_n 0, 1) := by decide +kernel
theorem dX4_person_51 : decode cX4_person 51 = .ok (.getfield 36, 3) := by decide +kernel
theorem dX4_person_54 : decode cX4_person 54 = .ok (.getfield 122, 3) := by decide +kernel
theorem dX4_person_57 : decode cX4_person 57 = .ok (.iload_n 1, 1) := by decide +kernel
theorem dX4_person_58 : decode cX4_person 58 = .ok (.iaload, 1) := by decide +kernel
theorem dX4_person_59 : decode cX4_person 59 = .ok (.ireturn, 1) := by decide +kernel
theorem dX4_person_60 : decode cX4_person 60 = .ok (.aload_n 0, 1) := by decide +kernel
theorem dX4_person_61 : decode cX4_person 61 = .ok (.getfield 36, 3) := by decide +kernel
theorem dX4_person_64 : decode cX4_person 64 = .ok (.getfield 125, 3) := by decide +kernel
theorem dX4_person_67 : decode cX4_person 67 = .ok (.iload_n 1, 1) := by decide +kernel
theorem dX4_person_68 : decode cX4_person 68 = .ok (.iaload, 1) := by decide +kernel
theorem dX4_person_69 : decode cX4_person 69 = .ok (.ireturn, 1) := by decide +kernel
theorem dX4_person_70 : decode cX4_person 70 = .ok (.aload_n 0, 1) := by decide +kernel
theorem dX4_person_71 : decode cX4_person 71 = .ok (.getfield 19, 3) := by decide +kernel
theorem dX4_person_74 : decode cX4_person 74 = .ok (.iload_n 1, 1) := by decide +kernel
theorem dX4_person_75 : decode cX4_person 75 = .ok (.invokevirtual 128, 3) := by decide +kernel
theorem dX4_person_78 : decode cX4_person 78 = .ok (.ireturn, 1) := by decide +kernel
theorem dX4_person_79 : decode cX4_person 79 = .ok (.iconst (-1), 1) := by decide +kernel
theorem dX4_person_80 : decode cX4_person 80 = .ok (.ireturn, 1) := by decide +kernel
theorem dX4_can_0 : decode cX4_can 0 = .ok (.aload_n 0, 1) := by decide +kernel
theorem dX4_can_1 : decode cX4_can 1 = .ok (.iload_n 1, 1) := by decide +kernel
theorem dX4_can_2 : decode cX4_can 2 = .ok (.invokevirtual 116, 3) := by decide +kernel
theorem dX4_can_5 : decode cX4_can 5 = .ok (.ifCond .ne 5, 3) := by decide +kernel
theorem dX4_can_8 : decode cX4_can 8 = .ok (.iconst (-1), 1) := by decide +kernel
theorem dX4_can_9 : decode cX4_can 9 = .ok (.ireturn, 1) := by decide +kernel
theorem dX4_can_10 : decode cX4_can 10 = .ok (.aload_n 0, 1) := by decide +kernel
theorem dX4_can_11 : decode cX4_can 11 = .ok (.iload_n 1, 1) := by decide +kernel
theorem dX4_can_12 : decode cX4_can 12 = .ok (.invokevirtual 132, 3) := by decide +kernel
theorem dX4_can_15 : decode cX4_can 15 = .ok (.ifCond .eq 6, 3) := by decide +kernel
theorem dX4_can_18 : decode cX4_can 18 = .ok (.bipush (-2), 2) := by decide +kernel
theorem dX4_can_20 : decode cX4_can 20 = .ok (.ireturn, 1) := by decide +kernel
theorem dX4_can_21 : decode cX4_can 21 = .ok (.aload_n 0, 1) := by decide +kernel
theorem dX4_can_22 : decode cX4_can 22 = .ok (.getfield 36, 3) := by decide +kernel
theorem dX4_can_25 : decode cX4_can 25 = .ok (.getfield 135, 3) := by decide +kernel
theorem dX4_can_28 : decode cX4_can 28 = .ok (.aload_n 0, 1) := by decide +kernel
theorem dX4_can_29 : decode cX4_can 29 = .ok (.invokevirtual 100, 3) := by decide +kernel
theorem dX4_can_32 : decode cX4_can 32 = .ok (.iaload, 1) := by decide +kernel
theorem dX4_can_33 : decode cX4_can 33 = .ok (.iload_n 1, 1) := by decide +kernel
theorem dX4_can_34 : decode cX4_can 34 = .ok (.invokestatic 89, 3) := by decide +kernel
theorem dX4_can_37 : decode cX4_can 37 = .ok (.ireturn, 1) := by decide +kernel
theorem dX4_leaves_0 : decode cX4_leaves 0 = .ok (.aload_n 0, 1) := by decide +kernel
theorem dX4_leaves_1 : decode cX4_leaves 1 = .ok (.iload_n 1, 1) := by decide +kernel
theorem dX4_leaves_2 : decode cX4_leaves 2 = .ok (.invokevirtual 116, 3) := by decide +kernel
theorem dX4_leaves_5 : decode cX4_leaves 5 = .ok (.ifCond .eq 11, 3) := by decide +kernel
theorem dX4_leaves_8 : decode cX4_leaves 8 = .ok (.aload_n 0, 1) := by decide +kernel
theorem dX4_leaves_9 : decode cX4_leaves 9 = .ok (.iload_n 2, 1) := by decide +kernel
theorem dX4_leaves_10 : decode cX4_leaves 10 = .ok (.invokevirtual 104, 3) := by decide +kernel
theorem dX4_leaves_13 : decode cX4_leaves 13 = .ok (.ifCond .ne 5, 3) := by decide +kernel
theorem dX4_leaves_16 : decode cX4_leaves 16 = .ok (.iconst (-1), 1) := by decide +kernel
theorem dX4_leaves_17 : decode cX4_leaves 17 = .ok (.ireturn, 1) := by decide +kernel
theorem dX4_leaves_18 : decode cX4_leaves 18 = .ok (.aload_n 0, 1) := by decide +kernel
theorem dX4_leaves_19 : decode cX4_leaves 19 = .ok (.iload_n 1, 1) := by decide +kernel
theorem dX4_leaves_20 : decode cX4_leaves 20 = .ok (.invokevirtual 132, 3) := by decide +kernel
theorem dX4_leaves_23 : decode cX4_leaves 23 = .ok (.ifCond .ne 27, 3) := by decide +kernel
theorem dX4_leaves_26 : decode cX4_leaves 26 = .ok (.aload_n 0, 1) := by decide +kernel
theorem dX4_leaves_27 : decode cX4_leaves 27 = .ok (.getfield 36, 3) := by decide +kernel
theorem dX4_leaves_30 : decode cX4_leaves 30 = .ok (.getfield 135, 3) := by decide +kernel
theorem dX4_leaves_33 : decode cX4_leaves 33 = .ok (.aload_n 0, 1) := by decide +kernel
theorem dX4_leaves_34 : decode cX4_leaves 34 = .ok (.invokevirtual 100, 3) := by decide +kernel
theorem dX4_leaves_37 : decode cX4_leaves 37 = .ok (.iaload, 1) := by decide +kernel
theorem dX4_leaves_38 : decode cX4_leaves 38 = .ok (.iload_n 1, 1) := by decide +kernel
theorem dX4_leaves_39 : decode cX4_leaves 39 = .ok (.invokestatic 89, 3) := by decide +kernel
theorem dX4_leaves_42 : decode cX4_leaves 42 = .ok (.iconst 1, 1) := by decide +kernel
theorem dX4_leaves_43 : decode cX4_leaves 43 = .ok (.if_icmp .ne 7, 3) := by decide +kernel
theorem dX4_leaves_46 : decode cX4_leaves 46 = .ok (.iconst 1, 1) := by decide +kernel
theorem dX4_leaves_47 : decode cX4_leaves 47 = .ok (.goto 4, 3) := by decide +kernel
theorem dX4_leaves_50 : decode cX4_leaves 50 = .ok (.iconst 0, 1) := by decide +kernel
theorem dX4_leaves_51 : decode cX4_leaves 51 = .ok (.istore_n 3, 1) := by decide +kernel
theorem dX4_leaves_52 : decode cX4_leaves 52 = .ok (.iload_n 3, 1) := by decide +kernel
theorem dX4_leaves_53 : decode cX4_leaves 53 = .ok (.ifCond .eq 14, 3) := by decide +kernel
theorem dX4_leaves_56 : decode cX4_leaves 56 = .ok (.aload_n 0, 1) := by decide +kernel
theorem dX4_leaves_57 : decode cX4_leaves 57 = .ok (.invokevirtual 100, 3) := by decide +kernel
theorem dX4_leaves_60 : decode cX4_leaves 60 = .ok (.iload_n 2, 1) := by decide +kernel
theorem dX4_leaves_61 : decode cX4_leaves 61 = .ok (.invokestatic 89, 3) := by decide +kernel
theorem dX4_leaves_64 : decode cX4_leaves 64 = .ok (.ifCond .ne 6, 3) := by decide +kernel
theorem dX4_leaves_67 : decode cX4_leaves 67 = .ok (.bipush (-2), 2) := by decide +kernel
theorem dX4_leaves_69 : decode cX4_leaves 69 = .ok (.ireturn, 1) := by decide +kernel
theorem dX4_leaves_70 : decode cX4_leaves 70 = .ok (.aload_n 0, 1) := by decide +kernel
theorem dX4_leaves_71 : decode cX4_leaves 71 = .ok (.getfield 19, 3) := by decide +kernel
theorem dX4_leaves_74 : decode cX4_leaves 74 = .ok (.iload_n 1, 1) := by decide +kernel
theorem dX4_leaves_75 : decode cX4_leaves 75 = .ok (.iload_n 2, 1) := by decide +kernel
theorem dX4_leaves_76 : decode cX4_leaves 76 = .ok (.invokevirtual 138, 3) := by decide +kernel
theorem dX4_leaves_79 : decode cX4_leaves 79 = .ok (.aload_n 0, 1) := by decide +kernel
theorem dX4_leaves_80 : decode cX4_leaves 80 = .ok (.getfield 19, 3) := by decide +kernel
theorem dX4_leaves_83 : decode cX4_leaves 83 = .ok (.getfield 142, 3) := by decide +kernel
theorem dX4_leaves_86 : decode cX4_leaves 86 = .ok (.ireturn, 1) := by decide +kernel
theorem dX4_undo_0 : decode cX4_undo 0 = .ok (.aload_n 0, 1) := by decide +kernel
theorem dX4_undo_1 : decode cX4_undo 1 = .ok (.getfield 19, 3) := by decide +kernel
theorem dX4_undo_4 : decode cX4_undo 4 = .ok (.getfield 142, 3) := by decide +kernel
theorem dX4_undo_7 : decode cX4_undo 7 = .ok (.ifCond .ne 6, 3) := by decide +kernel
theorem dX4_undo_10 : decode cX4_undo 10 = .ok (.bipush (-2), 2) := by decide +kernel
theorem dX4_undo_12 : decode cX4_undo 12 = .ok (.ireturn, 1) := by decide +kernel
theorem dX4_undo_13 : decode cX4_undo 13 = .ok (.aload_n 0, 1) := by decide +kernel
theorem dX4_undo_14 : decode cX4_undo 14 = .ok (.getfield 19, 3) := by decide +kernel
theorem dX4_undo_17 : decode cX4_undo 17 = .ok (.invokevirtual 145, 3) := by decide +kernel
theorem dX4_undo_20 : decode cX4_undo 20 = .ok (.aload_n 0, 1) := by decide +kernel
theorem dX4_undo_21 : decode cX4_undo 21 = .ok (.getfield 19, 3) := by decide +kernel
theorem dX4_undo_24 : decode cX4_undo 24 = .ok (.getfield 142, 3) := by decide +kernel
theorem dX4_undo_27 : decode cX4_undo 27 = .ok (.ireturn, 1) := by decide +kernel
theorem dX4_most_0 : decode cX4_most 0 = .ok (.aload_n 0, 1) := by decide +kernel
theorem dX4_most_1 : decode cX4_most 1 = .ok (.getfield 48, 3) := by decide +kernel
theorem dX4_most_4 : decode cX4_most 4 = .ok (.aload_n 0, 1) := by decide +kernel
theorem dX4_most_5 : decode cX4_most 5 = .ok (.invokevirtual 148, 3) := by decide +kernel
theorem dX4_most_8 : decode cX4_most 8 = .ok (.aload_n 0, 1) := by decide +kernel
theorem dX4_most_9 : decode cX4_most 9 = .ok (.invokevirtual 100, 3) := by decide +kernel
theorem dX4_most_12 : decode cX4_most 12 = .ok (.invokevirtual 151, 3) := by decide +kernel
theorem dX4_most_15 : decode cX4_most 15 = .ok (.ireturn, 1) := by decide +kernel
theorem dX4_order_0 : decode cX4_order 0 = .ok (.iload_n 1, 1) := by decide +kernel
theorem dX4_order_1 : decode cX4_order 1 = .ok (.ifCond .lt 12, 3) := by decide +kernel
theorem dX4_order_4 : decode cX4_order 4 = .ok (.iload_n 2, 1) := by decide +kernel
theorem dX4_order_5 : decode cX4_order 5 = .ok (.ifCond .lt 8, 3) := by decide +kernel
theorem dX4_order_8 : decode cX4_order 8 = .ok (.iload_n 2, 1) := by decide +kernel
theorem dX4_order_9 : decode cX4_order 9 = .ok (.iconst 1, 1) := by decide +kernel
theorem dX4_order_10 : decode cX4_order 10 = .ok (.if_icmp .le 5, 3) := by decide +kernel
theorem dX4_order_13 : decode cX4_order 13 = .ok (.iconst (-1), 1) := by decide +kernel
theorem dX4_order_14 : decode cX4_order 14 = .ok (.ireturn, 1) := by decide +kernel
theorem dX4_order_15 : decode cX4_order 15 = .ok (.iload_n 1, 1) := by decide +kernel
theorem dX4_order_16 : decode cX4_order 16 = .ok (.aload_n 0, 1) := by decide +kernel
theorem dX4_order_17 : decode cX4_order 17 = .ok (.getfield 48, 3) := by decide +kernel
theorem dX4_order_20 : decode cX4_order 20 = .ok (.aload_n 0, 1) := by decide +kernel
theorem dX4_order_21 : decode cX4_order 21 = .ok (.invokevirtual 148, 3) := by decide +kernel
theorem dX4_order_24 : decode cX4_order 24 = .ok (.aload_n 0, 1) := by decide +kernel
theorem dX4_order_25 : decode cX4_order 25 = .ok (.invokevirtual 100, 3) := by decide +kernel
theorem dX4_order_28 : decode cX4_order 28 = .ok (.invokevirtual 151, 3) := by decide +kernel
theorem dX4_order_31 : decode cX4_order 31 = .ok (.if_icmp .lt 6, 3) := by decide +kernel
theorem dX4_order_34 : decode cX4_order 34 = .ok (.bipush (-5), 2) := by decide +kernel
theorem dX4_order_36 : decode cX4_order 36 = .ok (.ireturn, 1) := by decide +kernel
theorem dX4_order_37 : decode cX4_order 37 = .ok (.aload_n 0, 1) := by decide +kernel
theorem dX4_order_38 : decode cX4_order 38 = .ok (.getfield 48, 3) := by decide +kernel
theorem dX4_order_41 : decode cX4_order 41 = .ok (.aload_n 0, 1) := by decide +kernel
theorem dX4_order_42 : decode cX4_order 42 = .ok (.invokevirtual 148, 3) := by decide +kernel
theorem dX4_order_45 : decode cX4_order 45 = .ok (.aload_n 0, 1) := by decide +kernel
theorem dX4_order_46 : decode cX4_order 46 = .ok (.invokevirtual 100, 3) := by decide +kernel
theorem dX4_order_49 : decode cX4_order 49 = .ok (.iload_n 1, 1) := by decide +kernel
theorem dX4_order_50 : decode cX4_order 50 = .ok (.invokevirtual 154, 3) := by decide +kernel
theorem dX4_order_53 : decode cX4_order 53 = .ok (.iload_n 2, 1) := by decide +kernel
theorem dX4_order_54 : decode cX4_order 54 = .ok (.ifCond .ne 13, 3) := by decide +kernel
theorem dX4_order_57 : decode cX4_order 57 = .ok (.aload_n 0, 1) := by decide +kernel
theorem dX4_order_58 : decode cX4_order 58 = .ok (.getfield 48, 3) := by decide +kernel
theorem dX4_order_61 : decode cX4_order 61 = .ok (.getfield 158, 3) := by decide +kernel
theorem dX4_order_64 : decode cX4_order 64 = .ok (.goto 10, 3) := by decide +kernel
theorem dX4_order_67 : decode cX4_order 67 = .ok (.aload_n 0, 1) := by decide +kernel
theorem dX4_order_68 : decode cX4_order 68 = .ok (.getfield 48, 3) := by decide +kernel
theorem dX4_order_71 : decode cX4_order 71 = .ok (.getfield 161, 3) := by decide +kernel
theorem dX4_order_74 : decode cX4_order 74 = .ok (.ireturn, 1) := by decide +kernel
theorem dX4_rows_0 : decode cX4_rows 0 = .ok (.aload_n 0, 1) := by decide +kernel
theorem dX4_rows_1 : decode cX4_rows 1 = .ok (.getfield 48, 3) := by decide +kernel
theorem dX4_rows_4 : decode cX4_rows 4 = .ok (.aload_n 0, 1) := by decide +kernel
theorem dX4_rows_5 : decode cX4_rows 5 = .ok (.invokevirtual 148, 3) := by decide +kernel
theorem dX4_rows_8 : decode cX4_rows 8 = .ok (.aload_n 0, 1) := by decide +kernel
theorem dX4_rows_9 : decode cX4_rows 9 = .ok (.invokevirtual 100, 3) := by decide +kernel
theorem dX4_rows_12 : decode cX4_rows 12 = .ok (.iconst 0, 1) := by decide +kernel
theorem dX4_rows_13 : decode cX4_rows 13 = .ok (.iconst 0, 1) := by decide +kernel
theorem dX4_rows_14 : decode cX4_rows 14 = .ok (.aconst_null, 1) := by decide +kernel
theorem dX4_rows_15 : decode cX4_rows 15 = .ok (.invokevirtual 164, 3) := by decide +kernel
theorem dX4_rows_18 : decode cX4_rows 18 = .ok (.ireturn, 1) := by decide +kernel
theorem dX4_bar_0 : decode cX4_bar 0 = .ok (.aload_n 0, 1) := by decide +kernel
theorem dX4_bar_1 : decode cX4_bar 1 = .ok (.getfield 48, 3) := by decide +kernel
theorem dX4_bar_4 : decode cX4_bar 4 = .ok (.aload_n 0, 1) := by decide +kernel
theorem dX4_bar_5 : decode cX4_bar 5 = .ok (.invokevirtual 148, 3) := by decide +kernel
theorem dX4_bar_8 : decode cX4_bar 8 = .ok (.aload_n 0, 1) := by decide +kernel
theorem dX4_bar_9 : decode cX4_bar 9 = .ok (.invokevirtual 100, 3) := by decide +kernel
theorem dX4_bar_12 : decode cX4_bar 12 = .ok (.invokevirtual 168, 3) := by decide +kernel
theorem dX4_bar_15 : decode cX4_bar 15 = .ok (.ireturn, 1) := by decide +kernel
theorem dX4_grief_0 : decode cX4_grief 0 = .ok (.aload_n 0, 1) := by decide +kernel
theorem dX4_grief_1 : decode cX4_grief 1 = .ok (.getfield 48, 3) := by decide +kernel
theorem dX4_grief_4 : decode cX4_grief 4 = .ok (.aload_n 0, 1) := by decide +kernel
theorem dX4_grief_5 : decode cX4_grief 5 = .ok (.invokevirtual 148, 3) := by decide +kernel
theorem dX4_grief_8 : decode cX4_grief 8 = .ok (.aload_n 0, 1) := by decide +kernel
theorem dX4_grief_9 : decode cX4_grief 9 = .ok (.invokevirtual 100, 3) := by decide +kernel
theorem dX4_grief_12 : decode cX4_grief 12 = .ok (.invokevirtual 171, 3) := by decide +kernel
theorem dX4_grief_15 : decode cX4_grief 15 = .ok (.ireturn, 1) := by decide +kernel
theorem dX4_game_0 : decode cX4_game 0 = .ok (.aload_n 0, 1) := by decide +kernel
theorem dX4_game_1 : decode cX4_game 1 = .ok (.getfield 48, 3) := by decide +kernel
theorem dX4_game_4 : decode cX4_game 4 = .ok (.aload_n 0, 1) := by decide +kernel
theorem dX4_game_5 : decode cX4_game 5 = .ok (.invokevirtual 148, 3) := by decide +kernel
theorem dX4_game_8 : decode cX4_game 8 = .ok (.aload_n 0, 1) := by decide +kernel
theorem dX4_game_9 : decode cX4_game 9 = .ok (.invokevirtual 100, 3) := by decide +kernel
theorem dX4_game_12 : decode cX4_game 12 = .ok (.invokevirtual 174, 3) := by decide +kernel
theorem dX4_game_15 : decode cX4_game 15 = .ok (.ireturn, 1) := by decide +kernel
theorem dX4_worth_0 : decode cX4_worth 0 = .ok (.aload_n 0, 1) := by decide +kernel
theorem dX4_worth_1 : decode cX4_worth 1 = .ok (.iload_n 1, 1) := by decide +kernel
theorem dX4_worth_2 : decode cX4_worth 2 = .ok (.invokevirtual 177, 3) := by decide +kernel
theorem dX4_worth_5 : decode cX4_worth 5 = .ok (.ifCond .eq 13, 3) := by decide +kernel
theorem dX4_worth_8 : decode cX4_worth 8 = .ok (.iload_n 2, 1) := by decide +kernel
theorem dX4_worth_9 : decode cX4_worth 9 = .ok (.ifCond .lt 9, 3) := by decide +kernel
theorem dX4_worth_12 : decode cX4_worth 12 = .ok (.iload_n 2, 1) := by decide +kernel
theorem dX4_worth_13 : decode cX4_worth 13 = .ok (.bipush 9, 2) := by decide +kernel
theorem dX4_worth_15 : decode cX4_worth 15 = .ok (.if_icmp .le 5, 3) := by decide +kernel
theorem dX4_worth_18 : decode cX4_worth 18 = .ok (.iconst (-1), 1) := by decide +kernel
theorem dX4_worth_19 : decode cX4_worth 19 = .ok (.ireturn, 1) := by decide +kernel
theorem dX4_worth_20 : decode cX4_worth 20 = .ok (.aload_n 0, 1) := by decide +kernel
theorem dX4_worth_21 : decode cX4_worth 21 = .ok (.getfield 48, 3) := by decide +kernel
theorem dX4_worth_24 : decode cX4_worth 24 = .ok (.aload_n 0, 1) := by decide +kernel
theorem dX4_worth_25 : decode cX4_worth 25 = .ok (.invokevirtual 148, 3) := by decide +kernel
theorem dX4_worth_28 : decode cX4_worth 28 = .ok (.aload_n 0, 1) := by decide +kernel
theorem dX4_worth_29 : decode cX4_worth 29 = .ok (.invokevirtual 100, 3) := by decide +kernel
theorem dX4_worth_32 : decode cX4_worth 32 = .ok (.invokevirtual 151, 3) := by decide +kernel
theorem dX4_worth_35 : decode cX4_worth 35 = .ok (.istore_n 3, 1) := by decide +kernel
theorem dX4_worth_36 : decode cX4_worth 36 = .ok (.aload_n 0, 1) := by decide +kernel
theorem dX4_worth_37 : decode cX4_worth 37 = .ok (.getfield 36, 3) := by decide +kernel
theorem dX4_worth_40 : decode cX4_worth 40 = .ok (.iload_n 1, 1) := by decide +kernel
theorem dX4_worth_41 : decode cX4_worth 41 = .ok (.iload_n 2, 1) := by decide +kernel
theorem dX4_worth_42 : decode cX4_worth 42 = .ok (.invokevirtual 180, 3) := by decide +kernel
theorem dX4_worth_45 : decode cX4_worth 45 = .ok (.aload_n 0, 1) := by decide +kernel
theorem dX4_worth_46 : decode cX4_worth 46 = .ok (.getfield 48, 3) := by decide +kernel
theorem dX4_worth_49 : decode cX4_worth 49 = .ok (.aload_n 0, 1) := by decide +kernel
theorem dX4_worth_50 : decode cX4_worth 50 = .ok (.invokevirtual 148, 3) := by decide +kernel
theorem dX4_worth_53 : decode cX4_worth 53 = .ok (.aload_n 0, 1) := by decide +kernel
theorem dX4_worth_54 : decode cX4_worth 54 = .ok (.invokevirtual 100, 3) := by decide +kernel
theorem dX4_worth_57 : decode cX4_worth 57 = .ok (.invokevirtual 183, 3) := by decide +kernel
theorem dX4_worth_60 : decode cX4_worth 60 = .ok (.iload_n 3, 1) := by decide +kernel
theorem dX4_worth_61 : decode cX4_worth 61 = .ok (.isub, 1) := by decide +kernel
theorem dX4_worth_62 : decode cX4_worth 62 = .ok (.ireturn, 1) := by decide +kernel
theorem dX4_saw_0 : decode cX4_saw 0 = .ok (.iload_n 1, 1) := by decide +kernel
theorem dX4_saw_1 : decode cX4_saw 1 = .ok (.ifCond .lt 26, 3) := by decide +kernel
theorem dX4_saw_4 : decode cX4_saw 4 = .ok (.iload_n 1, 1) := by decide +kernel
theorem dX4_saw_5 : decode cX4_saw 5 = .ok (.bipush 6, 2) := by decide +kernel
theorem dX4_saw_7 : decode cX4_saw 7 = .ok (.if_icmp .gt 20, 3) := by decide +kernel
theorem dX4_saw_10 : decode cX4_saw 10 = .ok (.aload_n 0, 1) := by decide +kernel
theorem dX4_saw_11 : decode cX4_saw 11 = .ok (.iload_n 2, 1) := by decide +kernel
theorem dX4_saw_12 : decode cX4_saw 12 = .ok (.invokevirtual 177, 3) := by decide +kernel
theorem dX4_saw_15 : decode cX4_saw 15 = .ok (.ifCond .eq 12, 3) := by decide +kernel
theorem dX4_saw_18 : decode cX4_saw 18 = .ok (.iload_n 3, 1) := by decide +kernel
theorem dX4_saw_19 : decode cX4_saw 19 = .ok (.ifCond .lt 8, 3) := by decide +kernel
theorem dX4_saw_22 : decode cX4_saw 22 = .ok (.iload_n 3, 1) := by decide +kernel
theorem dX4_saw_23 : decode cX4_saw 23 = .ok (.iconst 1, 1) := by decide +kernel
theorem dX4_saw_24 : decode cX4_saw 24 = .ok (.if_icmp .le 5, 3) := by decide +kernel
theorem dX4_saw_27 : decode cX4_saw 27 = .ok (.iconst (-1), 1) := by decide +kernel
theorem dX4_saw_28 : decode cX4_saw 28 = .ok (.ireturn, 1) := by decide +kernel
theorem dX4_saw_29 : decode cX4_saw 29 = .ok (.aload_n 0, 1) := by decide +kernel
theorem dX4_saw_30 : decode cX4_saw 30 = .ok (.getfield 19, 3) := by decide +kernel
theorem dX4_saw_33 : decode cX4_saw 33 = .ok (.getfield 186, 3) := by decide +kernel
theorem dX4_saw_36 : decode cX4_saw 36 = .ok (.bipush 8, 2) := by decide +kernel
theorem dX4_saw_38 : decode cX4_saw 38 = .ok (.if_icmp .lt 6, 3) := by decide +kernel
theorem dX4_saw_41 : decode cX4_saw 41 = .ok (.bipush (-3), 2) := by decide +kernel
theorem dX4_saw_43 : decode cX4_saw 43 = .ok (.ireturn, 1) := by decide +kernel
theorem dX4_saw_44 : decode cX4_saw 44 = .ok (.aload_n 0, 1) := by decide +kernel
theorem dX4_saw_45 : decode cX4_saw 45 = .ok (.getfield 19, 3) := by decide +kernel
theorem dX4_saw_48 : decode cX4_saw 48 = .ok (.iload_n 1, 1) := by decide +kernel
theorem dX4_saw_49 : decode cX4_saw 49 = .ok (.iload_n 2, 1) := by decide +kernel
theorem dX4_saw_50 : decode cX4_saw 50 = .ok (.iload_n 3, 1) := by decide +kernel
theorem dX4_saw_51 : decode cX4_saw 51 = .ok (.invokevirtual 189, 3) := by decide +kernel
theorem dX4_saw_54 : decode cX4_saw 54 = .ok (.aload_n 0, 1) := by decide +kernel
theorem dX4_saw_55 : decode cX4_saw 55 = .ok (.getfield 19, 3) := by decide +kernel
theorem dX4_saw_58 : decode cX4_saw 58 = .ok (.getfield 186, 3) := by decide +kernel
theorem dX4_saw_61 : decode cX4_saw 61 = .ok (.ireturn, 1) := by decide +kernel
theorem dX4_forget_0 : decode cX4_forget 0 = .ok (.aload_n 0, 1) := by decide +kernel
theorem dX4_forget_1 : decode cX4_forget 1 = .ok (.getfield 19, 3) := by decide +kernel
theorem dX4_forget_4 : decode cX4_forget 4 = .ok (.getfield 186, 3) := by decide +kernel
theorem dX4_forget_7 : decode cX4_forget 7 = .ok (.istore_n 1, 1) := by decide +kernel
theorem dX4_forget_8 : decode cX4_forget 8 = .ok (.aload_n 0, 1) := by decide +kernel
theorem dX4_forget_9 : decode cX4_forget 9 = .ok (.getfield 19, 3) := by decide +kernel
theorem dX4_forget_12 : decode cX4_forget 12 = .ok (.iconst 0, 1) := by decide +kernel
theorem dX4_forget_13 : decode cX4_forget 13 = .ok (.putfield 186, 3) := by decide +kernel
theorem dX4_forget_16 : decode cX4_forget 16 = .ok (.iload_n 1, 1) := by decide +kernel
theorem dX4_forget_17 : decode cX4_forget 17 = .ok (.ireturn, 1) := by decide +kernel
theorem dX4_fits_0 : decode cX4_fits 0 = .ok (.aload_n 0, 1) := by decide +kernel
theorem dX4_fits_1 : decode cX4_fits 1 = .ok (.getfield 48, 3) := by decide +kernel
theorem dX4_fits_4 : decode cX4_fits 4 = .ok (.aload_n 0, 1) := by decide +kernel
theorem dX4_fits_5 : decode cX4_fits 5 = .ok (.getfield 36, 3) := by decide +kernel
theorem dX4_fits_8 : decode cX4_fits 8 = .ok (.invokevirtual 192, 3) := by decide +kernel
theorem dX4_fits_11 : decode cX4_fits 11 = .ok (.aload_n 0, 1) := by decide +kernel
theorem dX4_fits_12 : decode cX4_fits 12 = .ok (.getfield 36, 3) := by decide +kernel
theorem dX4_fits_15 : decode cX4_fits 15 = .ok (.invokevirtual 195, 3) := by decide +kernel
theorem dX4_fits_18 : decode cX4_fits 18 = .ok (.iconst 0, 1) := by decide +kernel
theorem dX4_fits_19 : decode cX4_fits 19 = .ok (.iconst 0, 1) := by decide +kernel
theorem dX4_fits_20 : decode cX4_fits 20 = .ok (.aload_n 0, 1) := by decide +kernel
theorem dX4_fits_21 : decode cX4_fits 21 = .ok (.getfield 19, 3) := by decide +kernel
theorem dX4_fits_24 : decode cX4_fits 24 = .ok (.invokevirtual 164, 3) := by decide +kernel
theorem dX4_fits_27 : decode cX4_fits 27 = .ok (.ireturn, 1) := by decide +kernel
theorem dX4_who_0 : decode cX4_who 0 = .ok (.aload_n 0, 1) := by decide +kernel
theorem dX4_who_1 : decode cX4_who 1 = .ok (.iload_n 1, 1) := by decide +kernel
theorem dX4_who_2 : decode cX4_who 2 = .ok (.invokevirtual 104, 3) := by decide +kernel
theorem dX4_who_5 : decode cX4_who 5 = .ok (.ifCond .ne 5, 3) := by decide +kernel
theorem dX4_who_8 : decode cX4_who 8 = .ok (.iconst (-1), 1) := by decide +kernel
theorem dX4_who_9 : decode cX4_who 9 = .ok (.ireturn, 1) := by decide +kernel
theorem dX4_who_10 : decode cX4_who 10 = .ok (.iconst 0, 1) := by decide +kernel
theorem dX4_who_11 : decode cX4_who 11 = .ok (.istore_n 2, 1) := by decide +kernel
theorem dX4_who_12 : decode cX4_who 12 = .ok (.iconst 0, 1) := by decide +kernel
theorem dX4_who_13 : decode cX4_who 13 = .ok (.istore_n 3, 1) := by decide +kernel
theorem dX4_who_14 : decode cX4_who 14 = .ok (.iload_n 3, 1) := by decide +kernel
theorem dX4_who_15 : decode cX4_who 15 = .ok (.aload_n 0, 1) := by decide +kernel
theorem dX4_who_16 : decode cX4_who 16 = .ok (.getfield 36, 3) := by decide +kernel
theorem dX4_who_19 : decode cX4_who 19 = .ok (.getfield 198, 3) := by decide +kernel
theorem dX4_who_22 : decode cX4_who 22 = .ok (.if_icmp .ge 49, 3) := by decide +kernel
theorem dX4_who_25 : decode cX4_who 25 = .ok (.aload_n 0, 1) := by decide +kernel
theorem dX4_who_26 : decode cX4_who 26 = .ok (.getfield 48, 3) := by decide +kernel
theorem dX4_who_29 : decode cX4_who 29 = .ok (.aload_n 0, 1) := by decide +kernel
theorem dX4_who_30 : decode cX4_who 30 = .ok (.getfield 36, 3) := by decide +kernel
theorem dX4_who_33 : decode cX4_who 33 = .ok (.invokevirtual 192, 3) := by decide +kernel
theorem dX4_who_36 : decode cX4_who 36 = .ok (.aload_n 0, 1) := by decide +kernel
theorem dX4_who_37 : decode cX4_who 37 = .ok (.getfield 36, 3) := by decide +kernel
theorem dX4_who_40 : decode cX4_who 40 = .ok (.invokevirtual 195, 3) := by decide +kernel
theorem dX4_who_43 : decode cX4_who 43 = .ok (.iconst 1, 1) := by decide +kernel
theorem dX4_who_44 : decode cX4_who 44 = .ok (.iload_n 3, 1) := by decide +kernel
theorem dX4_who_45 : decode cX4_who 45 = .ok (.ishl, 1) := by decide +kernel
theorem dX4_who_46 : decode cX4_who 46 = .ok (.iconst 1, 1) := by decide +kernel
theorem dX4_who_47 : decode cX4_who 47 = .ok (.iload_n 1, 1) := by decide +kernel
theorem dX4_who_48 : decode cX4_who 48 = .ok (.ishl, 1) := by decide +kernel
theorem dX4_who_49 : decode cX4_who 49 = .ok (.aload_n 0, 1) := by decide +kernel
theorem dX4_who_50 : decode cX4_who 50 = .ok (.getfield 19, 3) := by decide +kernel
theorem dX4_who_53 : decode cX4_who 53 = .ok (.invokevirtual 164, 3) := by decide +kernel
theorem dX4_who_56 : decode cX4_who 56 = .ok (.ifCond .le 9, 3) := by decide +kernel
theorem dX4_who_59 : decode cX4_who 59 = .ok (.iload_n 2, 1) := by decide +kernel
theorem dX4_who_60 : decode cX4_who 60 = .ok (.iconst 1, 1) := by decide +kernel
theorem dX4_who_61 : decode cX4_who 61 = .ok (.iload_n 3, 1) := by decide +kernel
theorem dX4_who_62 : decode cX4_who 62 = .ok (.ishl, 1) := by decide +kernel
theorem dX4_who_63 : decode cX4_who 63 = .ok (.ior, 1) := by decide +kernel
theorem dX4_who_64 : decode cX4_who 64 = .ok (.istore_n 2, 1) := by decide +kernel
theorem dX4_who_65 : decode cX4_who 65 = .ok (.iinc 3 1, 3) := by decide +kernel
theorem dX4_who_68 : decode cX4_who 68 = .ok (.goto (-54), 3) := by decide +kernel
theorem dX4_who_71 : decode cX4_who 71 = .ok (.iload_n 2, 1) := by decide +kernel
theorem dX4_who_72 : decode cX4_who 72 = .ok (.ireturn, 1) := by decide +kernel
theorem dX4_mark_0 : decode cX4_mark 0 = .ok (.iload_n 1, 1) := by decide +kernel
theorem dX4_mark_1 : decode cX4_mark 1 = .ok (.ifCond .lt 17, 3) := by decide +kernel
theorem dX4_mark_4 : decode cX4_mark 4 = .ok (.iload_n 1, 1) := by decide +kernel
theorem dX4_mark_5 : decode cX4_mark 5 = .ok (.bipush 6, 2) := by decide +kernel
theorem dX4_mark_7 : decode cX4_mark 7 = .ok (.if_icmp .ge 11, 3) := by decide +kernel
theorem dX4_mark_10 : decode cX4_mark 10 = .ok (.aload_n 0, 1) := by decide +kernel
theorem dX4_mark_11 : decode cX4_mark 11 = .ok (.iload_n 2, 1) := by decide +kernel
theorem dX4_mark_12 : decode cX4_mark 12 = .ok (.invokevirtual 116, 3) := by decide +kernel
theorem dX4_mark_15 : decode cX4_mark 15 = .ok (.ifCond .ne 6, 3) := by decide +kernel
theorem dX4_mark_18 : decode cX4_mark 18 = .ok (.ldc 201, 2) := by decide +kernel
theorem dX4_mark_20 : decode cX4_mark 20 = .ok (.ireturn, 1) := by decide +kernel
theorem dX4_mark_21 : decode cX4_mark 21 = .ok (.iload_n 1, 1) := by decide +kernel
theorem dX4_mark_22 : decode cX4_mark 22 = .ok (.tableswitch 64 1 5 #[34, 40, 46, 52, 58], 34) := by decide +kernel
theorem dX4_mark_56 : decode cX4_mark 56 = .ok (.aload_n 0, 1) := by decide +kernel
theorem dX4_mark_57 : decode cX4_mark 57 = .ok (.iload_n 2, 1) := by decide +kernel
theorem dX4_mark_58 : decode cX4_mark 58 = .ok (.invokevirtual 202, 3) := by decide +kernel
theorem dX4_mark_61 : decode cX4_mark 61 = .ok (.ireturn, 1) := by decide +kernel
theorem dX4_mark_62 : decode cX4_mark 62 = .ok (.aload_n 0, 1) := by decide +kernel
theorem dX4_mark_63 : decode cX4_mark 63 = .ok (.iload_n 2, 1) := by decide +kernel
theorem dX4_mark_64 : decode cX4_mark 64 = .ok (.invokevirtual 205, 3) := by decide +kernel
theorem dX4_mark_67 : decode cX4_mark 67 = .ok (.ireturn, 1) := by decide +kernel
theorem dX4_mark_68 : decode cX4_mark 68 = .ok (.aload_n 0, 1) := by decide +kernel
theorem dX4_mark_69 : decode cX4_mark 69 = .ok (.iload_n 2, 1) := by decide +kernel
theorem dX4_mark_70 : decode cX4_mark 70 = .ok (.invokevirtual 208, 3) := by decide +kernel
theorem dX4_mark_73 : decode cX4_mark 73 = .ok (.ireturn, 1) := by decide +kernel
theorem dX4_mark_74 : decode cX4_mark 74 = .ok (.aload_n 0, 1) := by decide +kernel
theorem dX4_mark_75 : decode cX4_mark 75 = .ok (.iload_n 2, 1) := by decide +kernel
theorem dX4_mark_76 : decode cX4_mark 76 = .ok (.invokevirtual 211, 3) := by decide +kernel
theorem dX4_mark_79 : decode cX4_mark 79 = .ok (.ireturn, 1) := by decide +kernel
theorem dX4_mark_80 : decode cX4_mark 80 = .ok (.aload_n 0, 1) := by decide +kernel
theorem dX4_mark_81 : decode cX4_mark 81 = .ok (.iload_n 2, 1) := by decide +kernel
theorem dX4_mark_82 : decode cX4_mark 82 = .ok (.invokevirtual 214, 3) := by decide +kernel
theorem dX4_mark_85 : decode cX4_mark 85 = .ok (.ireturn, 1) := by decide +kernel
theorem dX4_mark_86 : decode cX4_mark 86 = .ok (.aload_n 0, 1) := by decide +kernel
theorem dX4_mark_87 : decode cX4_mark 87 = .ok (.iload_n 2, 1) := by decide +kernel
theorem dX4_mark_88 : decode cX4_mark 88 = .ok (.invokevirtual 217, 3) := by decide +kernel
theorem dX4_mark_91 : decode cX4_mark 91 = .ok (.ireturn, 1) := by decide +kernel
theorem dX4_markOfGuest_0 : decode cX4_markOfGuest 0 = .ok (.aload_n 0, 1) := by decide +kernel
theorem dX4_markOfGuest_1 : decode cX4_markOfGuest 1 = .ok (.dup, 1) := by decide +kernel
theorem dX4_markOfGuest_2 : decode cX4_markOfGuest 2 = .ok (.getfield 52, 3) := by decide +kernel
theorem dX4_markOfGuest_5 : decode cX4_markOfGuest 5 = .ok (.lconst 1, 1) := by decide +kernel
theorem dX4_markOfGuest_6 : decode cX4_markOfGuest 6 = .ok (.ladd, 1) := by decide +kernel
theorem dX4_markOfGuest_7 : decode cX4_markOfGuest 7 = .ok (.putfield 52, 3) := by decide +kernel
theorem dX4_markOfGuest_10 : decode cX4_markOfGuest 10 = .ok (.aload_n 0, 1) := by decide +kernel
theorem dX4_markOfGuest_11 : decode cX4_markOfGuest 11 = .ok (.getfield 36, 3) := by decide +kernel
theorem dX4_markOfGuest_14 : decode cX4_markOfGuest 14 = .ok (.getfield 122, 3) := by decide +kernel
theorem dX4_markOfGuest_17 : decode cX4_markOfGuest 17 = .ok (.iload_n 1, 1) := by decide +kernel
theorem dX4_markOfGuest_18 : decode cX4_markOfGuest 18 = .ok (.iaload, 1) := by decide +kernel
theorem dX4_markOfGuest_19 : decode cX4_markOfGuest 19 = .ok (.ireturn, 1) := by decide +kernel
theorem dX4_markOfAunt_0 : decode cX4_markOfAunt 0 = .ok (.aload_n 0, 1) := by decide +kernel
theorem dX4_markOfAunt_1 : decode cX4_markOfAunt 1 = .ok (.dup, 1) := by decide +kernel
theorem dX4_markOfAunt_2 : decode cX4_markOfAunt 2 = .ok (.getfield 52, 3) := by decide +kernel
theorem dX4_markOfAunt_5 : decode cX4_markOfAunt 5 = .ok (.ldc2_w 220, 3) := by decide +kernel
theorem dX4_markOfAunt_8 : decode cX4_markOfAunt 8 = .ok (.ladd, 1) := by decide +kernel
theorem dX4_markOfAunt_9 : decode cX4_markOfAunt 9 = .ok (.putfield 52, 3) := by decide +kernel
theorem dX4_markOfAunt_12 : decode cX4_markOfAunt 12 = .ok (.aload_n 0, 1) := by decide +kernel
theorem dX4_markOfAunt_13 : decode cX4_markOfAunt 13 = .ok (.iload_n 1, 1) := by decide +kernel
theorem dX4_markOfAunt_14 : decode cX4_markOfAunt 14 = .ok (.invokevirtual 217, 3) := by decide +kernel
theorem dX4_markOfAunt_17 : decode cX4_markOfAunt 17 = .ok (.aload_n 0, 1) := by decide +kernel
theorem dX4_markOfAunt_18 : decode cX4_markOfAunt 18 = .ok (.getfield 19, 3) := by decide +kernel
theorem dX4_markOfAunt_21 : decode cX4_markOfAunt 21 = .ok (.getfield 142, 3) := by decide +kernel
theorem dX4_markOfAunt_24 : decode cX4_markOfAunt 24 = .ok (.iadd, 1) := by decide +kernel
theorem dX4_markOfAunt_25 : decode cX4_markOfAunt 25 = .ok (.ireturn, 1) := by decide +kernel
theorem dX4_markOfWaiter_0 : decode cX4_markOfWaiter 0 = .ok (.aload_n 0, 1) := by decide +kernel
theorem dX4_markOfWaiter_1 : decode cX4_markOfWaiter 1 = .ok (.dup, 1) := by decide +kernel
theorem dX4_markOfWaiter_2 : decode cX4_markOfWaiter 2 = .ok (.getfield 52, 3) := by decide +kernel
theorem dX4_markOfWaiter_5 : decode cX4_markOfWaiter 5 = .ok (.ldc2_w 222, 3) := by decide +kernel
theorem dX4_markOfWaiter_8 : decode cX4_markOfWaiter 8 = .ok (.ladd, 1) := by decide +kernel
theorem dX4_markOfWaiter_9 : decode cX4_markOfWaiter 9 = .ok (.putfield 52, 3) := by decide +kernel
theorem dX4_markOfWaiter_12 : decode cX4_markOfWaiter 12 = .ok (.aload_n 0, 1) := by decide +kernel
theorem dX4_markOfWaiter_13 : decode cX4_markOfWaiter 13 = .ok (.iload_n 1, 1) := by decide +kernel
theorem dX4_markOfWaiter_14 : decode cX4_markOfWaiter 14 = .ok (.invokevirtual 217, 3) := by decide +kernel
theorem dX4_markOfWaiter_17 : decode cX4_markOfWaiter 17 = .ok (.aload_n 0, 1) := by decide +kernel
theorem dX4_markOfWaiter_18 : decode cX4_markOfWaiter 18 = .ok (.invokevirtual 100, 3) := by decide +kernel
theorem dX4_markOfWaiter_21 : decode cX4_markOfWaiter 21 = .ok (.invokestatic 224, 3) := by decide +kernel
theorem dX4_markOfWaiter_24 : decode cX4_markOfWaiter 24 = .ok (.iadd, 1) := by decide +kernel
theorem dX4_markOfWaiter_25 : decode cX4_markOfWaiter 25 = .ok (.ireturn, 1) := by decide +kernel
theorem dX4_markOfGreatAunt_0 : decode cX4_markOfGreatAunt 0 = .ok (.aload_n 0, 1) := by decide +kernel
theorem dX4_markOfGreatAunt_1 : decode cX4_markOfGreatAunt 1 = .ok (.dup, 1) := by decide +kernel
theorem dX4_markOfGreatAunt_2 : decode cX4_markOfGreatAunt 2 = .ok (.getfield 52, 3) := by decide +kernel
theorem dX4_markOfGreatAunt_5 : decode cX4_markOfGreatAunt 5 = .ok (.ldc2_w 229, 3) := by decide +kernel
theorem dX4_markOfGreatAunt_8 : decode cX4_markOfGreatAunt 8 = .ok (.ladd, 1) := by decide +kernel
theorem dX4_markOfGreatAunt_9 : decode cX4_markOfGreatAunt 9 = .ok (.putfield 52, 3) := by decide +kernel
theorem dX4_markOfGreatAunt_12 : decode cX4_markOfGreatAunt 12 = .ok (.aload_n 0, 1) := by decide +kernel
theorem dX4_markOfGreatAunt_13 : decode cX4_markOfGreatAunt 13 = .ok (.iload_n 1, 1) := by decide +kernel
theorem dX4_markOfGreatAunt_14 : decode cX4_markOfGreatAunt 14 = .ok (.invokevirtual 202, 3) := by decide +kernel
theorem dX4_markOfGreatAunt_17 : decode cX4_markOfGreatAunt 17 = .ok (.iconst 2, 1) := by decide +kernel
theorem dX4_markOfGreatAunt_18 : decode cX4_markOfGreatAunt 18 = .ok (.imul, 1) := by decide +kernel
theorem dX4_markOfGreatAunt_19 : decode cX4_markOfGreatAunt 19 = .ok (.ireturn, 1) := by decide +kernel
theorem dX4_markOfPorter_0 : decode cX4_markOfPorter 0 = .ok (.aload_n 0, 1) := by decide +kernel
theorem dX4_markOfPorter_1 : decode cX4_markOfPorter 1 = .ok (.dup, 1) := by decide +kernel
theorem dX4_markOfPorter_2 : decode cX4_markOfPorter 2 = .ok (.getfield 52, 3) := by decide +kernel
theorem dX4_markOfPorter_5 : decode cX4_markOfPorter 5 = .ok (.ldc2_w 231, 3) := by decide +kernel
theorem dX4_markOfPorter_8 : decode cX4_markOfPorter 8 = .ok (.ladd, 1) := by decide +kernel
theorem dX4_markOfPorter_9 : decode cX4_markOfPorter 9 = .ok (.putfield 52, 3) := by decide +kernel
theorem dX4_markOfPorter_12 : decode cX4_markOfPorter 12 = .ok (.aload_n 0, 1) := by decide +kernel
theorem dX4_markOfPorter_13 : decode cX4_markOfPorter 13 = .ok (.iload_n 1, 1) := by decide +kernel
theorem dX4_markOfPorter_14 : decode cX4_markOfPorter 14 = .ok (.invokevirtual 205, 3) := by decide +kernel
theorem dX4_markOfPorter_17 : decode cX4_markOfPorter 17 = .ok (.aload_n 0, 1) := by decide +kernel
theorem dX4_markOfPorter_18 : decode cX4_markOfPorter 18 = .ok (.getfield 36, 3) := by decide +kernel
theorem dX4_markOfPorter_21 : decode cX4_markOfPorter 21 = .ok (.getfield 119, 3) := by decide +kernel
theorem dX4_markOfPorter_24 : decode cX4_markOfPorter 24 = .ok (.iload_n 1, 1) := by decide +kernel
theorem dX4_markOfPorter_25 : decode cX4_markOfPorter 25 = .ok (.iaload, 1) := by decide +kernel
theorem dX4_markOfPorter_26 : decode cX4_markOfPorter 26 = .ok (.isub, 1) := by decide +kernel
theorem dX4_markOfPorter_27 : decode cX4_markOfPorter 27 = .ok (.ireturn, 1) := by decide +kernel
theorem dX4_markOfFiddler_0 : decode cX4_markOfFiddler 0 = .ok (.aload_n 0, 1) := by decide +kernel
theorem dX4_markOfFiddler_1 : decode cX4_markOfFiddler 1 = .ok (.dup, 1) := by decide +kernel
theorem dX4_markOfFiddler_2 : decode cX4_markOfFiddler 2 = .ok (.getfield 52, 3) := by decide +kernel
theorem dX4_markOfFiddler_5 : decode cX4_markOfFiddler 5 = .ok (.ldc2_w 233, 3) := by decide +kernel
theorem dX4_markOfFiddler_8 : decode cX4_markOfFiddler 8 = .ok (.ladd, 1) := by decide +kernel
theorem dX4_markOfFiddler_9 : decode cX4_markOfFiddler 9 = .ok (.putfield 52, 3) := by decide +kernel
theorem dX4_markOfFiddler_12 : decode cX4_markOfFiddler 12 = .ok (.aload_n 0, 1) := by decide +kernel
theorem dX4_markOfFiddler_13 : decode cX4_markOfFiddler 13 = .ok (.iload_n 1, 1) := by decide +kernel
theorem dX4_markOfFiddler_14 : decode cX4_markOfFiddler 14 = .ok (.invokevirtual 217, 3) := by decide +kernel
theorem dX4_markOfFiddler_17 : decode cX4_markOfFiddler 17 = .ok (.aload_n 0, 1) := by decide +kernel
theorem dX4_markOfFiddler_18 : decode cX4_markOfFiddler 18 = .ok (.getfield 36, 3) := by decide +kernel
theorem dX4_markOfFiddler_21 : decode cX4_markOfFiddler 21 = .ok (.getfield 125, 3) := by decide +kernel
theorem dX4_markOfFiddler_24 : decode cX4_markOfFiddler 24 = .ok (.iload_n 1, 1) := by decide +kernel
theorem dX4_markOfFiddler_25 : decode cX4_markOfFiddler 25 = .ok (.iaload, 1) := by decide +kernel
theorem dX4_markOfFiddler_26 : decode cX4_markOfFiddler 26 = .ok (.iadd, 1) := by decide +kernel
theorem dX4_markOfFiddler_27 : decode cX4_markOfFiddler 27 = .ok (.ireturn, 1) := by decide +kernel
theorem dX4_keep_0 : decode cX4_keep 0 = .ok (.iload_n 1, 1) := by decide +kernel
theorem dX4_keep_1 : decode cX4_keep 1 = .ok (.ifCond .lt 8, 3) := by decide +kernel
theorem dX4_keep_4 : decode cX4_keep 4 = .ok (.iload_n 1, 1) := by decide +kernel
theorem dX4_keep_5 : decode cX4_keep 5 = .ok (.iconst 2, 1) := by decide +kernel
theorem dX4_keep_6 : decode cX4_keep 6 = .ok (.if_icmp .lt 5, 3) := by decide +kernel
theorem dX4_keep_9 : decode cX4_keep 9 = .ok (.iconst (-1), 1) := by decide +kernel
theorem dX4_keep_10 : decode cX4_keep 10 = .ok (.ireturn, 1) := by decide +kernel
theorem dX4_keep_11 : decode cX4_keep 11 = .ok (.aload_n 0, 1) := by decide +kernel
theorem dX4_keep_12 : decode cX4_keep 12 = .ok (.iload_n 1, 1) := by decide +kernel
theorem dX4_keep_13 : decode cX4_keep 13 = .ok (.invokevirtual 235, 3) := by decide +kernel
theorem dX4_keep_16 : decode cX4_keep 16 = .ok (.aload_n 0, 1) := by decide +kernel
theorem dX4_keep_17 : decode cX4_keep 17 = .ok (.getfield 19, 3) := by decide +kernel
theorem dX4_keep_20 : decode cX4_keep 20 = .ok (.invokevirtual 239, 3) := by decide +kernel
theorem dX4_keep_23 : decode cX4_keep 23 = .ok (.aload_n 0, 1) := by decide +kernel
theorem dX4_keep_24 : decode cX4_keep 24 = .ok (.getfield 29, 3) := by decide +kernel
theorem dX4_keep_27 : decode cX4_keep 27 = .ok (.iload_n 1, 1) := by decide +kernel
theorem dX4_keep_28 : decode cX4_keep 28 = .ok (.iconst 1, 1) := by decide +kernel
theorem dX4_keep_29 : decode cX4_keep 29 = .ok (.bastore, 1) := by decide +kernel
theorem dX4_keep_30 : decode cX4_keep 30 = .ok (.aload_n 0, 1) := by decide +kernel
theorem dX4_keep_31 : decode cX4_keep 31 = .ok (.getfield 19, 3) := by decide +kernel
theorem dX4_keep_34 : decode cX4_keep 34 = .ok (.getfield 142, 3) := by decide +kernel
theorem dX4_keep_37 : decode cX4_keep 37 = .ok (.ireturn, 1) := by decide +kernel
theorem dX4_back_0 : decode cX4_back 0 = .ok (.iload_n 1, 1) := by decide +kernel
theorem dX4_back_1 : decode cX4_back 1 = .ok (.ifCond .lt 8, 3) := by decide +kernel
theorem dX4_back_4 : decode cX4_back 4 = .ok (.iload_n 1, 1) := by decide +kernel
theorem dX4_back_5 : decode cX4_back 5 = .ok (.iconst 2, 1) := by decide +kernel
theorem dX4_back_6 : decode cX4_back 6 = .ok (.if_icmp .lt 5, 3) := by decide +kernel
theorem dX4_back_9 : decode cX4_back 9 = .ok (.iconst (-1), 1) := by decide +kernel
theorem dX4_back_10 : decode cX4_back 10 = .ok (.ireturn, 1) := by decide +kernel
theorem dX4_back_11 : decode cX4_back 11 = .ok (.aload_n 0, 1) := by decide +kernel
theorem dX4_back_12 : decode cX4_back 12 = .ok (.getfield 29, 3) := by decide +kernel
theorem dX4_back_15 : decode cX4_back 15 = .ok (.iload_n 1, 1) := by decide +kernel
theorem dX4_back_16 : decode cX4_back 16 = .ok (.baload, 1) := by decide +kernel
theorem dX4_back_17 : decode cX4_back 17 = .ok (.ifCond .ne 6, 3) := by decide +kernel
theorem dX4_back_20 : decode cX4_back 20 = .ok (.bipush (-2), 2) := by decide +kernel
theorem dX4_back_22 : decode cX4_back 22 = .ok (.ireturn, 1) := by decide +kernel
theorem dX4_back_23 : decode cX4_back 23 = .ok (.aload_n 0, 1) := by decide +kernel
theorem dX4_back_24 : decode cX4_back 24 = .ok (.getfield 19, 3) := by decide +kernel
theorem dX4_back_27 : decode cX4_back 27 = .ok (.aload_n 0, 1) := by decide +kernel
theorem dX4_back_28 : decode cX4_back 28 = .ok (.iload_n 1, 1) := by decide +kernel
theorem dX4_back_29 : decode cX4_back 29 = .ok (.invokevirtual 235, 3) := by decide +kernel
theorem dX4_back_32 : decode cX4_back 32 = .ok (.invokevirtual 239, 3) := by decide +kernel
theorem dX4_back_35 : decode cX4_back 35 = .ok (.aload_n 0, 1) := by decide +kernel
theorem dX4_back_36 : decode cX4_back 36 = .ok (.getfield 19, 3) := by decide +kernel
theorem dX4_back_39 : decode cX4_back 39 = .ok (.getfield 142, 3) := by decide +kernel
theorem dX4_back_42 : decode cX4_back 42 = .ok (.ireturn, 1) := by decide +kernel
theorem dX4_imageOf_0 : decode cX4_imageOf 0 = .ok (.iload_n 1, 1) := by decide +kernel
theorem dX4_imageOf_1 : decode cX4_imageOf 1 = .ok (.ifCond .ne 10, 3) := by decide +kernel
theorem dX4_imageOf_4 : decode cX4_imageOf 4 = .ok (.aload_n 0, 1) := by decide +kernel
theorem dX4_imageOf_5 : decode cX4_imageOf 5 = .ok (.getfield 23, 3) := by decide +kernel
theorem dX4_imageOf_8 : decode cX4_imageOf 8 = .ok (.goto 7, 3) := by decide +kernel
theorem dX4_imageOf_11 : decode cX4_imageOf 11 = .ok (.aload_n 0, 1) := by decide +kernel
theorem dX4_imageOf_12 : decode cX4_imageOf 12 = .ok (.getfield 26, 3) := by decide +kernel
theorem dX4_imageOf_15 : decode cX4_imageOf 15 = .ok (.areturn, 1) := by decide +kernel
theorem dX4_count_0 : decode cX4_count 0 = .ok (.iload_n 1, 1) := by decide +kernel
theorem dX4_count_1 : decode cX4_count 1 = .ok (.tableswitch 111 0 7 #[47, 55, 63, 71, 79, 87, 95, 103], 47) := by decide +kernel
theorem dX4_count_48 : decode cX4_count 48 = .ok (.aload_n 0, 1) := by decide +kernel
theorem dX4_count_49 : decode cX4_count 49 = .ok (.getfield 36, 3) := by decide +kernel
theorem dX4_count_52 : decode cX4_count 52 = .ok (.invokevirtual 243, 3) := by decide +kernel
theorem dX4_count_55 : decode cX4_count 55 = .ok (.ireturn, 1) := by decide +kernel
theorem dX4_count_56 : decode cX4_count 56 = .ok (.aload_n 0, 1) := by decide +kernel
theorem dX4_count_57 : decode cX4_count 57 = .ok (.getfield 36, 3) := by decide +kernel
theorem dX4_count_60 : decode cX4_count 60 = .ok (.getfield 246, 3) := by decide +kernel
theorem dX4_count_63 : decode cX4_count 63 = .ok (.ireturn, 1) := by decide +kernel
theorem dX4_count_64 : decode cX4_count 64 = .ok (.aload_n 0, 1) := by decide +kernel
theorem dX4_count_65 : decode cX4_count 65 = .ok (.getfield 36, 3) := by decide +kernel
theorem dX4_count_68 : decode cX4_count 68 = .ok (.getfield 198, 3) := by decide +kernel
theorem dX4_count_71 : decode cX4_count 71 = .ok (.ireturn, 1) := by decide +kernel
theorem dX4_count_72 : decode cX4_count 72 = .ok (.aload_n 0, 1) := by decide +kernel
theorem dX4_count_73 : decode cX4_count 73 = .ok (.invokevirtual 100, 3) := by decide +kernel
theorem dX4_count_76 : decode cX4_count 76 = .ok (.invokestatic 224, 3) := by decide +kernel
theorem dX4_count_79 : decode cX4_count 79 = .ok (.ireturn, 1) := by decide +kernel
theorem dX4_count_80 : decode cX4_count 80 = .ok (.aload_n 0, 1) := by decide +kernel
theorem dX4_count_81 : decode cX4_count 81 = .ok (.getfield 19, 3) := by decide +kernel
theorem dX4_count_84 : decode cX4_count 84 = .ok (.getfield 142, 3) := by decide +kernel
theorem dX4_count_87 : decode cX4_count 87 = .ok (.ireturn, 1) := by decide +kernel
theorem dX4_count_88 : decode cX4_count 88 = .ok (.aload_n 0, 1) := by decide +kernel
theorem dX4_count_89 : decode cX4_count 89 = .ok (.getfield 36, 3) := by decide +kernel
theorem dX4_count_92 : decode cX4_count 92 = .ok (.getfield 249, 3) := by decide +kernel
theorem dX4_count_95 : decode cX4_count 95 = .ok (.ireturn, 1) := by decide +kernel
theorem dX4_count_96 : decode cX4_count 96 = .ok (.aload_n 0, 1) := by decide +kernel
theorem dX4_count_97 : decode cX4_count 97 = .ok (.getfield 19, 3) := by decide +kernel
theorem dX4_count_100 : decode cX4_count 100 = .ok (.getfield 186, 3) := by decide +kernel
theorem dX4_count_103 : decode cX4_count 103 = .ok (.ireturn, 1) := by decide +kernel
theorem dX4_count_104 : decode cX4_count 104 = .ok (.aload_n 0, 1) := by decide +kernel
theorem dX4_count_105 : decode cX4_count 105 = .ok (.getfield 12, 3) := by decide +kernel
theorem dX4_count_108 : decode cX4_count 108 = .ok (.getfield 56, 3) := by decide +kernel
theorem dX4_count_111 : decode cX4_count 111 = .ok (.ireturn, 1) := by decide +kernel
theorem dX4_count_112 : decode cX4_count 112 = .ok (.iconst (-1), 1) := by decide +kernel
theorem dX4_count_113 : decode cX4_count 113 = .ok (.ireturn, 1) := by decide +kernel
theorem dX4_trace_0 : decode cX4_trace 0 = .ok (.aload_n 0, 1) := by decide +kernel
theorem dX4_trace_1 : decode cX4_trace 1 = .ok (.getfield 52, 3) := by decide +kernel
theorem dX4_trace_4 : decode cX4_trace 4 = .ok (.lreturn, 1) := by decide +kernel
theorem dX4_isCell_0 : decode cX4_isCell 0 = .ok (.iload_n 1, 1) := by decide +kernel
theorem dX4_isCell_1 : decode cX4_isCell 1 = .ok (.ifCond .lt 18, 3) := by decide +kernel
theorem dX4_isCell_4 : decode cX4_isCell 4 = .ok (.iload_n 1, 1) := by decide +kernel
theorem dX4_isCell_5 : decode cX4_isCell 5 = .ok (.aload_n 0, 1) := by decide +kernel
theorem dX4_isCell_6 : decode cX4_isCell 6 = .ok (.getfield 36, 3) := by decide +kernel
theorem dX4_isCell_9 : decode cX4_isCell 9 = .ok (.invokevirtual 243, 3) := by decide +kernel
theorem dX4_isCell_12 : decode cX4_isCell 12 = .ok (.if_icmp .ge 7, 3) := by decide +kernel
theorem dX4_isCell_15 : decode cX4_isCell 15 = .ok (.iconst 1, 1) := by decide +kernel
theorem dX4_isCell_16 : decode cX4_isCell 16 = .ok (.goto 4, 3) := by decide +kernel
theorem dX4_isCell_19 : decode cX4_isCell 19 = .ok (.iconst 0, 1) := by decide +kernel
theorem dX4_isCell_20 : decode cX4_isCell 20 = .ok (.ireturn, 1) := by decide +kernel
theorem dX4_isOpenCell_0 : decode cX4_isOpenCell 0 = .ok (.aload_n 0, 1) := by decide +kernel
theorem dX4_isOpenCell_1 : decode cX4_isOpenCell 1 = .ok (.iload_n 1, 1) := by decide +kernel
theorem dX4_isOpenCell_2 : decode cX4_isOpenCell 2 = .ok (.invokevirtual 82, 3) := by decide +kernel
theorem dX4_isOpenCell_5 : decode cX4_isOpenCell 5 = .ok (.ifCond .eq 21, 3) := by decide +kernel
theorem dX4_isOpenCell_8 : decode cX4_isOpenCell 8 = .ok (.aload_n 0, 1) := by decide +kernel
theorem dX4_isOpenCell_9 : decode cX4_isOpenCell 9 = .ok (.getfield 36, 3) := by decide +kernel
theorem dX4_isOpenCell_12 : decode cX4_isOpenCell 12 = .ok (.getfield 86, 3) := by decide +kernel
theorem dX4_isOpenCell_15 : decode cX4_isOpenCell 15 = .ok (.iload_n 1, 1) := by decide +kernel
theorem dX4_isOpenCell_16 : decode cX4_isOpenCell 16 = .ok (.invokestatic 89, 3) := by decide +kernel
theorem dX4_isOpenCell_19 : decode cX4_isOpenCell 19 = .ok (.ifCond .ne 7, 3) := by decide +kernel
theorem dX4_isOpenCell_22 : decode cX4_isOpenCell 22 = .ok (.iconst 1, 1) := by decide +kernel
theorem dX4_isOpenCell_23 : decode cX4_isOpenCell 23 = .ok (.goto 4, 3) := by decide +kernel
theorem dX4_isOpenCell_26 : decode cX4_isOpenCell 26 = .ok (.iconst 0, 1) := by decide +kernel
theorem dX4_isOpenCell_27 : decode cX4_isOpenCell 27 = .ok (.ireturn, 1) := by decide +kernel
theorem dX4_isLamp_0 : decode cX4_isLamp 0 = .ok (.iload_n 1, 1) := by decide +kernel
theorem dX4_isLamp_1 : decode cX4_isLamp 1 = .ok (.ifCond .lt 18, 3) := by decide +kernel
theorem dX4_isLamp_4 : decode cX4_isLamp 4 = .ok (.iload_n 1, 1) := by decide +kernel
theorem dX4_isLamp_5 : decode cX4_isLamp 5 = .ok (.aload_n 0, 1) := by decide +kernel
theorem dX4_isLamp_6 : decode cX4_isLamp 6 = .ok (.getfield 36, 3) := by decide +kernel
theorem dX4_isLamp_9 : decode cX4_isLamp 9 = .ok (.getfield 246, 3) := by decide +kernel
theorem dX4_isLamp_12 : decode cX4_isLamp 12 = .ok (.if_icmp .ge 7, 3) := by decide +kernel
theorem dX4_isLamp_15 : decode cX4_isLamp 15 = .ok (.iconst 1, 1) := by decide +kernel
theorem dX4_isLamp_16 : decode cX4_isLamp 16 = .ok (.goto 4, 3) := by decide +kernel
theorem dX4_isLamp_19 : decode cX4_isLamp 19 = .ok (.iconst 0, 1) := by decide +kernel
theorem dX4_isLamp_20 : decode cX4_isLamp 20 = .ok (.ireturn, 1) := by decide +kernel
theorem dX4_isPerson_0 : decode cX4_isPerson 0 = .ok (.iload_n 1, 1) := by decide +kernel
theorem dX4_isPerson_1 : decode cX4_isPerson 1 = .ok (.ifCond .lt 18, 3) := by decide +kernel
theorem dX4_isPerson_4 : decode cX4_isPerson 4 = .ok (.iload_n 1, 1) := by decide +kernel
theorem dX4_isPerson_5 : decode cX4_isPerson 5 = .ok (.aload_n 0, 1) := by decide +kernel
theorem dX4_isPerson_6 : decode cX4_isPerson 6 = .ok (.getfield 36, 3) := by decide +kernel
theorem dX4_isPerson_9 : decode cX4_isPerson 9 = .ok (.getfield 198, 3) := by decide +kernel
theorem dX4_isPerson_12 : decode cX4_isPerson 12 = .ok (.if_icmp .ge 7, 3) := by decide +kernel
theorem dX4_isPerson_15 : decode cX4_isPerson 15 = .ok (.iconst 1, 1) := by decide +kernel
theorem dX4_isPerson_16 : decode cX4_isPerson 16 = .ok (.goto 4, 3) := by decide +kernel
theorem dX4_isPerson_19 : decode cX4_isPerson 19 = .ok (.iconst 0, 1) := by decide +kernel
theorem dX4_isPerson_20 : decode cX4_isPerson 20 = .ok (.ireturn, 1) := by decide +kernel
theorem dX4_hasLeft_0 : decode cX4_hasLeft 0 = .ok (.aload_n 0, 1) := by decide +kernel
theorem dX4_hasLeft_1 : decode cX4_hasLeft 1 = .ok (.getfield 19, 3) := by decide +kernel
theorem dX4_hasLeft_4 : decode cX4_hasLeft 4 = .ok (.getfield 252, 3) := by decide +kernel
theorem dX4_hasLeft_7 : decode cX4_hasLeft 7 = .ok (.iload_n 1, 1) := by decide +kernel
theorem dX4_hasLeft_8 : decode cX4_hasLeft 8 = .ok (.invokestatic 89, 3) := by decide +kernel
theorem dX4_hasLeft_11 : decode cX4_hasLeft 11 = .ok (.iconst 1, 1) := by decide +kernel
theorem dX4_hasLeft_12 : decode cX4_hasLeft 12 = .ok (.if_icmp .ne 7, 3) := by decide +kernel
theorem dX4_hasLeft_15 : decode cX4_hasLeft 15 = .ok (.iconst 1, 1) := by decide +kernel
theorem dX4_hasLeft_16 : decode cX4_hasLeft 16 = .ok (.goto 4, 3) := by decide +kernel
theorem dX4_hasLeft_19 : decode cX4_hasLeft 19 = .ok (.iconst 0, 1) := by decide +kernel
theorem dX4_hasLeft_20 : decode cX4_hasLeft 20 = .ok (.ireturn, 1) := by decide +kernel
theorem dX4_litNow_0 : decode cX4_litNow 0 = .ok (.aload_n 0, 1) := by decide +kernel
theorem dX4_litNow_1 : decode cX4_litNow 1 = .ok (.getfield 36, 3) := by decide +kernel
theorem dX4_litNow_4 : decode cX4_litNow 4 = .ok (.invokevirtual 195, 3) := by decide +kernel
theorem dX4_litNow_7 : decode cX4_litNow 7 = .ok (.aload_n 0, 1) := by decide +kernel
theorem dX4_litNow_8 : decode cX4_litNow 8 = .ok (.getfield 19, 3) := by decide +kernel
theorem dX4_litNow_11 : decode cX4_litNow 11 = .ok (.getfield 255, 3) := by decide +kernel
theorem dX4_litNow_14 : decode cX4_litNow 14 = .ok (.iconst (-1), 1) := by decide +kernel
theorem dX4_litNow_15 : decode cX4_litNow 15 = .ok (.ixor, 1) := by decide +kernel
theorem dX4_litNow_16 : decode cX4_litNow 16 = .ok (.iand, 1) := by decide +kernel
theorem dX4_litNow_17 : decode cX4_litNow 17 = .ok (.ireturn, 1) := by decide +kernel
theorem dX4_thereNow_0 : decode cX4_thereNow 0 = .ok (.aload_n 0, 1) := by decide +kernel
theorem dX4_thereNow_1 : decode cX4_thereNow 1 = .ok (.getfield 36, 3) := by decide +kernel
theorem dX4_thereNow_4 : decode cX4_thereNow 4 = .ok (.invokevirtual 192, 3) := by decide +kernel
theorem dX4_thereNow_7 : decode cX4_thereNow 7 = .ok (.aload_n 0, 1) := by decide +kernel
theorem dX4_thereNow_8 : decode cX4_thereNow 8 = .ok (.getfield 19, 3) := by decide +kernel
theorem dX4_thereNow_11 : decode cX4_thereNow 11 = .ok (.getfield 252, 3) := by decide +kernel
theorem dX4_thereNow_14 : decode cX4_thereNow 14 = .ok (.iconst (-1), 1) := by decide +kernel
theorem dX4_thereNow_15 : decode cX4_thereNow 15 = .ok (.ixor, 1) := by decide +kernel
theorem dX4_thereNow_16 : decode cX4_thereNow 16 = .ok (.iand, 1) := by decide +kernel
theorem dX4_thereNow_17 : decode cX4_thereNow 17 = .ok (.ireturn, 1) := by decide +kernel
theorem dX4_bitOf_0 : decode cX4_bitOf 0 = .ok (.iload_n 0, 1) := by decide +kernel
theorem dX4_bitOf_1 : decode cX4_bitOf 1 = .ok (.iload_n 1, 1) := by decide +kernel
theorem dX4_bitOf_2 : decode cX4_bitOf 2 = .ok (.iushr, 1) := by decide +kernel
theorem dX4_bitOf_3 : decode cX4_bitOf 3 = .ok (.iconst 1, 1) := by decide +kernel
theorem dX4_bitOf_4 : decode cX4_bitOf 4 = .ok (.iand, 1) := by decide +kernel
theorem dX4_bitOf_5 : decode cX4_bitOf 5 = .ok (.ireturn, 1) := by decide +kernel
theorem dX5_init_0 : decode cX5_init 0 = .ok (.aload_n 0, 1) := by decide +kernel
theorem dX5_init_1 : decode cX5_init 1 = .ok (.invokespecial 1, 3) := by decide +kernel
theorem dX5_init_4 : decode cX5_init 4 = .ok (.aload_n 0, 1) := by decide +kernel
theorem dX5_init_5 : decode cX5_init 5 = .ok (.sipush 300, 3) := by decide +kernel
theorem dX5_init_8 : decode cX5_init 8 = .ok (.newarray .int, 2) := by decide +kernel
theorem dX5_init_10 : decode cX5_init 10 = .ok (.putfield 7, 3) := by decide +kernel
theorem dX5_init_13 : decode cX5_init 13 = .ok (.aload_n 0, 1) := by decide +kernel
theorem dX5_init_14 : decode cX5_init 14 = .ok (.bipush 43, 2) := by decide +kernel
theorem dX5_init_16 : decode cX5_init 16 = .ok (.newarray .int, 2) := by decide +kernel
theorem dX5_init_18 : decode cX5_init 18 = .ok (.putfield 13, 3) := by decide +kernel
theorem dX5_init_21 : decode cX5_init 21 = .ok (.aload_n 0, 1) := by decide +kernel
theorem dX5_init_22 : decode cX5_init 22 = .ok (.bipush 43, 2) := by decide +kernel
theorem dX5_init_24 : decode cX5_init 24 = .ok (.newarray .int, 2) := by decide +kernel
theorem dX5_init_26 : decode cX5_init 26 = .ok (.putfield 16, 3) := by decide +kernel
theorem dX5_init_29 : decode cX5_init 29 = .ok (.aload_n 0, 1) := by decide +kernel
theorem dX5_init_30 : decode cX5_init 30 = .ok (.bipush 38, 2) := by decide +kernel
theorem dX5_init_32 : decode cX5_init 32 = .ok (.newarray .int, 2) := by decide +kernel
theorem dX5_init_34 : decode cX5_init 34 = .ok (.putfield 19, 3) := by decide +kernel
theorem dX5_init_37 : decode cX5_init 37 = .ok (.aload_n 0, 1) := by decide +kernel
theorem dX5_init_38 : decode cX5_init 38 = .ok (.bipush 76, 2) := by decide +kernel
theorem dX5_init_40 : decode cX5_init 40 = .ok (.newarray .int, 2) := by decide +kernel
theorem dX5_init_42 : decode cX5_init 42 = .ok (.putfield 22, 3) := by decide +kernel
theorem dX5_init_45 : decode cX5_init 45 = .ok (.aload_n 0, 1) := by decide +kernel
theorem dX5_init_46 : decode cX5_init 46 = .ok (.iconst 2, 1) := by decide +kernel
theorem dX5_init_47 : decode cX5_init 47 = .ok (.newarray .boolean, 2) := by decide +kernel
theorem dX5_init_49 : decode cX5_init 49 = .ok (.putfield 25, 3) := by decide +kernel
theorem dX5_init_52 : decode cX5_init 52 = .ok (.aload_n 0, 1) := by decide +kernel
theorem dX5_init_53 : decode cX5_init 53 = .ok (.sipush 128, 3) := by decide +kernel
theorem dX5_init_56 : decode cX5_init 56 = .ok (.newarray .int, 2) := by decide +kernel
theorem dX5_init_58 : decode cX5_init 58 = .ok (.putfield 29, 3) := by decide +kernel
theorem dX5_init_61 : decode cX5_init 61 = .ok (.aload_n 0, 1) := by decide +kernel
theorem dX5_init_62 : decode cX5_init 62 = .ok (.sipush 128, 3) := by decide +kernel
theorem dX5_init_65 : decode cX5_init 65 = .ok (.newarray .int, 2) := by decide +kernel
theorem dX5_init_67 : decode cX5_init 67 = .ok (.putfield 32, 3) := by decide +kernel
theorem dX5_init_70 : decode cX5_init 70 = .ok (.aload_n 0, 1) := by decide +kernel
theorem dX5_init_71 : decode cX5_init 71 = .ok (.bipush 7, 2) := by decide +kernel
theorem dX5_init_73 : decode cX5_init 73 = .ok (.newarray .int, 2) := by decide +kernel
theorem dX5_init_75 : decode cX5_init 75 = .ok (.putfield 35, 3) := by decide +kernel
theorem dX5_init_78 : decode cX5_init 78 = .ok (.aload_n 0, 1) := by decide +kernel
theorem dX5_init_79 : decode cX5_init 79 = .ok (.sipush 8192, 3) := by decide +kernel
theorem dX5_init_82 : decode cX5_init 82 = .ok (.newarray .int, 2) := by decide +kernel
theorem dX5_init_84 : decode cX5_init 84 = .ok (.putfield 38, 3) := by decide +kernel
theorem dX5_init_87 : decode cX5_init 87 = .ok (.aload_n 0, 1) := by decide +kernel
theorem dX5_init_88 : decode cX5_init 88 = .ok (.sipush 8192, 3) := by decide +kernel
theorem dX5_init_91 : decode cX5_init 91 = .ok (.newarray .int, 2) := by decide +kernel
theorem dX5_init_93 : decode cX5_init 93 = .ok (.putfield 41, 3) := by decide +kernel
theorem dX5_init_96 : decode cX5_init 96 = .ok (.aload_n 0, 1) := by decide +kernel
theorem dX5_init_97 : decode cX5_init 97 = .ok (.getfield 13, 3) := by decide +kernel
theorem dX5_init_100 : decode cX5_init 100 = .ok (.iconst 0, 1) := by decide +kernel
theorem dX5_init_101 : decode cX5_init 101 = .ok (.iconst 4, 1) := by decide +kernel
theorem dX5_init_102 : decode cX5_init 102 = .ok (.iastore, 1) := by decide +kernel
theorem dX5_init_103 : decode cX5_init 103 = .ok (.aload_n 0, 1) := by decide +kernel
theorem dX5_init_104 : decode cX5_init 104 = .ok (.getfield 13, 3) := by decide +kernel
theorem dX5_init_107 : decode cX5_init 107 = .ok (.iconst 1, 1) := by decide +kernel
theorem dX5_init_108 : decode cX5_init 108 = .ok (.iconst 3, 1) := by decide +kernel
theorem dX5_init_109 : decode cX5_init 109 = .ok (.iastore, 1) := by decide +kernel
theorem dX5_init_110 : decode cX5_init 110 = .ok (.return_, 1) := by decide +kernel
theorem dX5_in_0 : decode cX5_in 0 = .ok (.iload_n 0, 1) := by decide +kernel
theorem dX5_in_1 : decode cX5_in 1 = .ok (.iload_n 1, 1) := by decide +kernel
theorem dX5_in_2 : decode cX5_in 2 = .ok (.if_icmp .lt 12, 3) := by decide +kernel
theorem dX5_in_5 : decode cX5_in 5 = .ok (.iload_n 0, 1) := by decide +kernel
theorem dX5_in_6 : decode cX5_in 6 = .ok (.iload_n 2, 1) := by decide +kernel
theorem dX5_in_7 : decode cX5_in 7 = .ok (.if_icmp .gt 7, 3) := by decide +kernel
theorem dX5_in_10 : decode cX5_in 10 = .ok (.iconst 1, 1) := by decide +kernel
theorem dX5_in_11 : decode cX5_in 11 = .ok (.goto 4, 3) := by decide +kernel
theorem dX5_in_14 : decode cX5_in 14 = .ok (.iconst 0, 1) := by decide +kernel
theorem dX5_in_15 : decode cX5_in 15 = .ok (.ireturn, 1) := by decide +kernel
theorem dX5_cells_0 : decode cX5_cells 0 = .ok (.aload_n 0, 1) := by decide +kernel
theorem dX5_cells_1 : decode cX5_cells 1 = .ok (.getfield 13, 3) := by decide +kernel
theorem dX5_cells_4 : decode cX5_cells 4 = .ok (.iconst 0, 1) := by decide +kernel
theorem dX5_cells_5 : decode cX5_cells 5 = .ok (.iaload, 1) := by decide +kernel
theorem dX5_cells_6 : decode cX5_cells 6 = .ok (.aload_n 0, 1) := by decide +kernel
theorem dX5_cells_7 : decode cX5_cells 7 = .ok (.getfield 13, 3) := by decide +kernel
theorem dX5_cells_10 : decode cX5_cells 10 = .ok (.iconst 1, 1) := by decide +kernel
theorem dX5_cells_11 : decode cX5_cells 11 = .ok (.iaload, 1) := by decide +kernel
theorem dX5_cells_12 : decode cX5_cells 12 = .ok (.imul, 1) := by decide +kernel
theorem dX5_cells_13 : decode cX5_cells 13 = .ok (.ireturn, 1) := by decide +kernel
theorem dX5_isCell_0 : decode cX5_isCell 0 = .ok (.iload_n 1, 1) := by decide +kernel
theorem dX5_isCell_1 : decode cX5_isCell 1 = .ok (.iconst 0, 1) := by decide +kernel
theorem dX5_isCell_2 : decode cX5_isCell 2 = .ok (.aload_n 0, 1) := by decide +kernel
theorem dX5_isCell_3 : decode cX5_isCell 3 = .ok (.invokevirtual 44, 3) := by decide +kernel
theorem dX5_isCell_6 : decode cX5_isCell 6 = .ok (.iconst 1, 1) := by decide +kernel
theorem dX5_isCell_7 : decode cX5_isCell 7 = .ok (.isub, 1) := by decide +kernel
theorem dX5_isCell_8 : decode cX5_isCell 8 = .ok (.invokestatic 48, 3) := by decide +kernel
theorem dX5_isCell_11 : decode cX5_isCell 11 = .ok (.ireturn, 1) := by decide +kernel
theorem dX5_isLamp_0 : decode cX5_isLamp 0 = .ok (.iload_n 1, 1) := by decide +kernel
theorem dX5_isLamp_1 : decode cX5_isLamp 1 = .ok (.iconst 0, 1) := by decide +kernel
theorem dX5_isLamp_2 : decode cX5_isLamp 2 = .ok (.aload_n 0, 1) := by decide +kernel
theorem dX5_isLamp_3 : decode cX5_isLamp 3 = .ok (.getfield 13, 3) := by decide +kernel
theorem dX5_isLamp_6 : decode cX5_isLamp 6 = .ok (.iconst 3, 1) := by decide +kernel
theorem dX5_isLamp_7 : decode cX5_isLamp 7 = .ok (.iaload, 1) := by decide +kernel
theorem dX5_isLamp_8 : decode cX5_isLamp 8 = .ok (.iconst 1, 1) := by decide +kernel
theorem dX5_isLamp_9 : decode cX5_isLamp 9 = .ok (.isub, 1) := by decide +kernel
theorem dX5_isLamp_10 : decode cX5_isLamp 10 = .ok (.invokestatic 48, 3) := by decide +kernel
theorem dX5_isLamp_13 : decode cX5_isLamp 13 = .ok (.ireturn, 1) := by decide +kernel
theorem dX5_isPerson_0 : decode cX5_isPerson 0 = .ok (.iload_n 1, 1) := by decide +kernel
theorem dX5_isPerson_1 : decode cX5_isPerson 1 = .ok (.iconst 0, 1) := by decide +kernel
theorem dX5_isPerson_2 : decode cX5_isPerson 2 = .ok (.aload_n 0, 1) := by decide +kernel
theorem dX5_isPerson_3 : decode cX5_isPerson 3 = .ok (.getfield 13, 3) := by decide +kernel
theorem dX5_isPerson_6 : decode cX5_isPerson 6 = .ok (.iconst 4, 1) := by decide +kernel
theorem dX5_isPerson_7 : decode cX5_isPerson 7 = .ok (.iaload, 1) := by decide +kernel
theorem dX5_isPerson_8 : decode cX5_isPerson 8 = .ok (.iconst 1, 1) := by decide +kernel
theorem dX5_isPerson_9 : decode cX5_isPerson 9 = .ok (.isub, 1) := by decide +kernel
theorem dX5_isPerson_10 : decode cX5_isPerson 10 = .ok (.invokestatic 48, 3) := by decide +kernel
theorem dX5_isPerson_13 : decode cX5_isPerson 13 = .ok (.ireturn, 1) := by decide +kernel
theorem dX5_type_0 : decode cX5_type 0 = .ok (.iload_n 3, 1) := by decide +kernel
theorem dX5_type_1 : decode cX5_type 1 = .ok (.iconst 1, 1) := by decide +kernel
theorem dX5_type_2 : decode cX5_type 2 = .ok (.bipush 8, 2) := by decide +kernel
theorem dX5_type_4 : decode cX5_type 4 = .ok (.invokestatic 48, 3) := by decide +kernel
theorem dX5_type_7 : decode cX5_type 7 = .ok (.ifCond .ne 5, 3) := by decide +kernel
theorem dX5_type_10 : decode cX5_type 10 = .ok (.iconst (-1), 1) := by decide +kernel
theorem dX5_type_11 : decode cX5_type 11 = .ok (.ireturn, 1) := by decide +kernel
theorem dX5_type_12 : decode cX5_type 12 = .ok (.aload_n 0, 1) := by decide +kernel
theorem dX5_type_13 : decode cX5_type 13 = .ok (.getfield 52, 3) := by decide +kernel
theorem dX5_type_16 : decode cX5_type 16 = .ok (.iload_n 3, 1) := by decide +kernel
theorem dX5_type_17 : decode cX5_type 17 = .ok (.iadd, 1) := by decide +kernel
theorem dX5_type_18 : decode cX5_type 18 = .ok (.sipush 300, 3) := by decide +kernel
theorem dX5_type_21 : decode cX5_type 21 = .ok (.if_icmp .le 6, 3) := by decide +kernel
theorem dX5_type_24 : decode cX5_type 24 = .ok (.bipush (-3), 2) := by decide +kernel
theorem dX5_type_26 : decode cX5_type 26 = .ok (.ireturn, 1) := by decide +kernel
theorem dX5_type_27 : decode cX5_type 27 = .ok (.iload_n 3, 1) := by decide +kernel
theorem dX5_type_28 : decode cX5_type 28 = .ok (.iconst 1, 1) := by decide +kernel
theorem dX5_type_29 : decode cX5_type 29 = .ok (.isub, 1) := by decide +kernel
theorem dX5_type_30 : decode cX5_type 30 = .ok (.istore 4, 2) := by decide +kernel
theorem dX5_type_32 : decode cX5_type 32 = .ok (.iload 4, 2) := by decide +kernel
theorem dX5_type_34 : decode cX5_type 34 = .ok (.ifCond .lt 40, 3) := by decide +kernel
theorem dX5_type_37 : decode cX5_type 37 = .ok (.aload_n 0, 1) := by decide +kernel
theorem dX5_type_38 : decode cX5_type 38 = .ok (.getfield 7, 3) := by decide +kernel
theorem dX5_type_41 : decode cX5_type 41 = .ok (.aload_n 0, 1) := by decide +kernel
theorem dX5_type_42 : decode cX5_type 42 = .ok (.getfield 52, 3) := by decide +kernel
theorem dX5_type_45 : decode cX5_type 45 = .ok (.lload_n 1, 1) := by decide +kernel
theorem dX5_type_46 : decode cX5_type 46 = .ok (.bipush 8, 2) := by decide +kernel
theorem dX5_type_48 : decode cX5_type 48 = .ok (.iload 4, 2) := by decide +kernel
theorem dX5_type_50 : decode cX5_type 50 = .ok (.imul, 1) := by decide +kernel
theorem dX5_type_51 : decode cX5_type 51 = .ok (.lshr, 1) := by decide +kernel
theorem dX5_type_52 : decode cX5_type 52 = .ok (.ldc2_w 56, 3) := by decide +kernel
theorem dX5_type_55 : decode cX5_type 55 = .ok (.land, 1) := by decide +kernel
theorem dX5_type_56 : decode cX5_type 56 = .ok (.l2i, 1) := by decide +kernel
theorem dX5_type_57 : decode cX5_type 57 = .ok (.iastore, 1) := by decide +kernel
theorem dX5_type_58 : decode cX5_type 58 = .ok (.aload_n 0, 1) := by decide +kernel
theorem dX5_type_59 : decode cX5_type 59 = .ok (.dup, 1) := by decide +kernel
theorem dX5_type_60 : decode cX5_type 60 = .ok (.getfield 52, 3) := by decide +kernel
theorem dX5_type_63 : decode cX5_type 63 = .ok (.iconst 1, 1) := by decide +kernel
theorem dX5_type_64 : decode cX5_type 64 = .ok (.iadd, 1) := by decide +kernel
theorem dX5_type_65 : decode cX5_type 65 = .ok (.putfield 52, 3) := by decide +kernel
theorem dX5_type_68 : decode cX5_type 68 = .ok (.iinc 4 (-1), 3) := by decide +kernel
theorem dX5_type_71 : decode cX5_type 71 = .ok (.goto (-39), 3) := by decide +kernel
theorem dX5_type_74 : decode cX5_type 74 = .ok (.aload_n 0, 1) := by decide +kernel
theorem dX5_type_75 : decode cX5_type 75 = .ok (.getfield 52, 3) := by decide +kernel
theorem dX5_type_78 : decode cX5_type 78 = .ok (.ireturn, 1) := by decide +kernel
theorem dX5_clear_0 : decode cX5_clear 0 = .ok (.aload_n 0, 1) := by decide +kernel
theorem dX5_clear_1 : decode cX5_clear 1 = .ok (.getfield 52, 3) := by decide +kernel
theorem dX5_clear_4 : decode cX5_clear 4 = .ok (.istore_n 1, 1) := by decide +kernel
theorem dX5_clear_5 : decode cX5_clear 5 = .ok (.aload_n 0, 1) := by decide +kernel
theorem dX5_clear_6 : decode cX5_clear 6 = .ok (.iconst 0, 1) := by decide +kernel
theorem dX5_clear_7 : decode cX5_clear 7 = .ok (.putfield 52, 3) := by decide +kernel
theorem dX5_clear_10 : decode cX5_clear 10 = .ok (.iload_n 1, 1) := by decide +kernel
theorem dX5_clear_11 : decode cX5_clear 11 = .ok (.ireturn, 1) := by decide +kernel
theorem dX5_byteAt_0 : decode cX5_byteAt 0 = .ok (.iload_n 1, 1) := by decide +kernel
theorem dX5_byteAt_1 : decode cX5_byteAt 1 = .ok (.aload_n 0, 1) := by decide +kernel
theorem dX5_byteAt_2 : decode cX5_byteAt 2 = .ok (.getfield 52, 3) := by decide +kernel
theorem dX5_byteAt_5 : decode cX5_byteAt 5 = .ok (.if_icmp .ge 12, 3) := by decide +kernel
theorem dX5_byteAt_8 : decode cX5_byteAt 8 = .ok (.aload_n 0, 1) := by decide +kernel
theorem dX5_byteAt_9 : decode cX5_byteAt 9 = .ok (.getfield 7, 3) := by decide +kernel
theorem dX5_byteAt_12 : decode cX5_byteAt 12 = .ok (.iload_n 1, 1) := by decide +kernel
theorem dX5_byteAt_13 : decode cX5_byteAt 13 = .ok (.iaload, 1) := by decide +kernel
theorem dX5_byteAt_14 : decode cX5_byteAt 14 = .ok (.goto 4, 3) := by decide +kernel
theorem dX5_byteAt_17 : decode cX5_byteAt 17 = .ok (.iconst (-1), 1) := by decide +kernel
theorem dX5_byteAt_18 : decode cX5_byteAt 18 = .ok (.ireturn, 1) := by decide +kernel
theorem dX5_sortOf_0 : decode cX5_sortOf 0 = .ok (.iload_n 0, 1) := by decide +kernel
theorem dX5_sortOf_1 : decode cX5_sortOf 1 = .ok (.ifCond .ge 7, 3) := by decide +kernel
theorem dX5_sortOf_4 : decode cX5_sortOf 4 = .ok (.iconst 0, 1) := by decide +kernel
theorem dX5_sortOf_5 : decode cX5_sortOf 5 = .ok (.goto 44, 3) := by decide +kernel
theorem dX5_sortOf_8 : decode cX5_sortOf 8 = .ok (.iload_n 0, 1) := by decide +kernel
theorem dX5_sortOf_9 : decode cX5_sortOf 9 = .ok (.bipush 97, 2) := by decide +kernel
theorem dX5_sortOf_11 : decode cX5_sortOf 11 = .ok (.bipush 122, 2) := by decide +kernel
theorem dX5_sortOf_13 : decode cX5_sortOf 13 = .ok (.invokestatic 48, 3) := by decide +kernel
theorem dX5_sortOf_16 : decode cX5_sortOf 16 = .ok (.ifCond .eq 7, 3) := by decide +kernel
theorem dX5_sortOf_19 : decode cX5_sortOf 19 = .ok (.iconst 1, 1) := by decide +kernel
theorem dX5_sortOf_20 : decode cX5_sortOf 20 = .ok (.goto 29, 3) := by decide +kernel
theorem dX5_sortOf_23 : decode cX5_sortOf 23 = .ok (.iload_n 0, 1) := by decide +kernel
theorem dX5_sortOf_24 : decode cX5_sortOf 24 = .ok (.bipush 48, 2) := by decide +kernel
theorem dX5_sortOf_26 : decode cX5_sortOf 26 = .ok (.bipush 57, 2) := by decide +kernel
theorem dX5_sortOf_28 : decode cX5_sortOf 28 = .ok (.invokestatic 48, 3) := by decide +kernel
theorem dX5_sortOf_31 : decode cX5_sortOf 31 = .ok (.ifCond .eq 7, 3) := by decide +kernel
theorem dX5_sortOf_34 : decode cX5_sortOf 34 = .ok (.iconst 2, 1) := by decide +kernel
theorem dX5_sortOf_35 : decode cX5_sortOf 35 = .ok (.goto 14, 3) := by decide +kernel
theorem dX5_sortOf_38 : decode cX5_sortOf 38 = .ok (.iload_n 0, 1) := by decide +kernel
theorem dX5_sortOf_39 : decode cX5_sortOf 39 = .ok (.bipush 59, 2) := by decide +kernel
theorem dX5_sortOf_41 : decode cX5_sortOf 41 = .ok (.if_icmp .ne 7, 3) := by decide +kernel
theorem dX5_sortOf_44 : decode cX5_sortOf 44 = .ok (.iconst 3, 1) := by decide +kernel
theorem dX5_sortOf_45 : decode cX5_sortOf 45 = .ok (.goto 4, 3) := by decide +kernel
theorem dX5_sortOf_48 : decode cX5_sortOf 48 = .ok (.iconst 4, 1) := by decide +kernel
theorem dX5_sortOf_49 : decode cX5_sortOf 49 = .ok (.ireturn, 1) := by decide +kernel
theorem dX5_token_0 : decode cX5_token 0 = .ok (.aload_n 0, 1) := by decide +kernel
theorem dX5_token_1 : decode cX5_token 1 = .ok (.aload_n 0, 1) := by decide +kernel
theorem dX5_token_2 : decode cX5_token 2 = .ok (.getfield 58, 3) := by decide +kernel
theorem dX5_token_5 : decode cX5_token 5 = .ok (.invokevirtual 61, 3) := by decide +kernel
theorem dX5_token_8 : decode cX5_token 8 = .ok (.bipush 32, 2) := by decide +kernel
theorem dX5_token_10 : decode cX5_token 10 = .ok (.if_icmp .ne 16, 3) := by decide +kernel
theorem dX5_token_13 : decode cX5_token 13 = .ok (.aload_n 0, 1) := by decide +kernel
theorem dX5_token_14 : decode cX5_token 14 = .ok (.dup, 1) := by decide +kernel
theorem dX5_token_15 : decode cX5_token 15 = .ok (.getfield 58, 3) := by decide +kernel
theorem dX5_token_18 : decode cX5_token 18 = .ok (.iconst 1, 1) := by decide +kernel
theorem dX5_token_19 : decode cX5_token 19 = .ok (.iadd, 1) := by decide +kernel
theorem dX5_token_20 : decode cX5_token 20 = .ok (.putfield 58, 3) := by decide +kernel
theorem dX5_token_23 : decode cX5_token 23 = .ok (.goto (-23), 3) := by decide +kernel
theorem dX5_token_26 : decode cX5_token 26 = .ok (.aload_n 0, 1) := by decide +kernel
theorem dX5_token_27 : decode cX5_token 27 = .ok (.aload_n 0, 1) := by decide +kernel
theorem dX5_token_28 : decode cX5_token 28 = .ok (.getfield 58, 3) := by decide +kernel
theorem dX5_token_31 : decode cX5_token 31 = .ok (.putfield 65, 3) := by decide +kernel
theorem dX5_token_34 : decode cX5_token 34 = .ok (.aload_n 0, 1) := by decide +kernel
theorem dX5_token_35 : decode cX5_token 35 = .ok (.aload_n 0, 1) := by decide +kernel
theorem dX5_token_36 : decode cX5_token 36 = .ok (.aload_n 0, 1) := by decide +kernel
theorem dX5_token_37 : decode cX5_token 37 = .ok (.getfield 58, 3) := by decide +kernel
theorem dX5_token_40 : decode cX5_token 40 = .ok (.invokevirtual 61, 3) := by decide +kernel
theorem dX5_token_43 : decode cX5_token 43 = .ok (.invokestatic 68, 3) := by decide +kernel
theorem dX5_token_46 : decode cX5_token 46 = .ok (.putfield 71, 3) := by decide +kernel
theorem dX5_token_49 : decode cX5_token 49 = .ok (.aload_n 0, 1) := by decide +kernel
theorem dX5_token_50 : decode cX5_token 50 = .ok (.iconst 0, 1) := by decide +kernel
theorem dX5_token_51 : decode cX5_token 51 = .ok (.putfield 74, 3) := by decide +kernel
theorem dX5_token_54 : decode cX5_token 54 = .ok (.aload_n 0, 1) := by decide +kernel
theorem dX5_token_55 : decode cX5_token 55 = .ok (.getfield 74, 3) := by decide +kernel
theorem dX5_token_58 : decode cX5_token 58 = .ok (.ifCond .ne 10, 3) := by decide +kernel
theorem dX5_token_61 : decode cX5_token 61 = .ok (.aload_n 0, 1) := by decide +kernel
theorem dX5_token_62 : decode cX5_token 62 = .ok (.getfield 71, 3) := by decide +kernel
theorem dX5_token_65 : decode cX5_token 65 = .ok (.ifCond .ne 37, 3) := by decide +kernel
theorem dX5_token_68 : decode cX5_token 68 = .ok (.aload_n 0, 1) := by decide +kernel
theorem dX5_token_69 : decode cX5_token 69 = .ok (.getfield 71, 3) := by decide +kernel
theorem dX5_token_72 : decode cX5_token 72 = .ok (.iconst 1, 1) := by decide +kernel
theorem dX5_token_73 : decode cX5_token 73 = .ok (.if_icmp .eq 11, 3) := by decide +kernel
theorem dX5_token_76 : decode cX5_token 76 = .ok (.aload_n 0, 1) := by decide +kernel
theorem dX5_token_77 : decode cX5_token 77 = .ok (.getfield 71, 3) := by decide +kernel
theorem dX5_token_80 : decode cX5_token 80 = .ok (.iconst 2, 1) := by decide +kernel
theorem dX5_token_81 : decode cX5_token 81 = .ok (.if_icmp .ne 44, 3) := by decide +kernel
theorem dX5_token_84 : decode cX5_token 84 = .ok (.aload_n 0, 1) := by decide +kernel
theorem dX5_token_85 : decode cX5_token 85 = .ok (.aload_n 0, 1) := by decide +kernel
theorem dX5_token_86 : decode cX5_token 86 = .ok (.getfield 58, 3) := by decide +kernel
theorem dX5_token_89 : decode cX5_token 89 = .ok (.invokevirtual 61, 3) := by decide +kernel
theorem dX5_token_92 : decode cX5_token 92 = .ok (.invokestatic 68, 3) := by decide +kernel
theorem dX5_token_95 : decode cX5_token 95 = .ok (.aload_n 0, 1) := by decide +kernel
theorem dX5_token_96 : decode cX5_token 96 = .ok (.getfield 71, 3) := by decide +kernel
theorem dX5_token_99 : decode cX5_token 99 = .ok (.if_icmp .ne 26, 3) := by decide +kernel
theorem dX5_token_102 : decode cX5_token 102 = .ok (.aload_n 0, 1) := by decide +kernel
theorem dX5_token_103 : decode cX5_token 103 = .ok (.dup, 1) := by decide +kernel
theorem dX5_token_104 : decode cX5_token 104 = .ok (.getfield 58, 3) := by decide +kernel
theorem dX5_token_107 : decode cX5_token 107 = .ok (.iconst 1, 1) := by decide +kernel
theorem dX5_token_108 : decode cX5_token 108 = .ok (.iadd, 1) := by decide +kernel
theorem dX5_token_109 : decode cX5_token 109 = .ok (.putfield 58, 3) := by decide +kernel
theorem dX5_token_112 : decode cX5_token 112 = .ok (.aload_n 0, 1) := by decide +kernel
theorem dX5_token_113 : decode cX5_token 113 = .ok (.dup, 1) := by decide +kernel
theorem dX5_token_114 : decode cX5_token 114 = .ok (.getfield 74, 3) := by decide +kernel
theorem dX5_token_117 : decode cX5_token 117 = .ok (.iconst 1, 1) := by decide +kernel
theorem dX5_token_118 : decode cX5_token 118 = .ok (.iadd, 1) := by decide +kernel
theorem dX5_token_119 : decode cX5_token 119 = .ok (.putfield 74, 3) := by decide +kernel
theorem dX5_token_122 : decode cX5_token 122 = .ok (.goto (-68), 3) := by decide +kernel
theorem dX5_token_125 : decode cX5_token 125 = .ok (.return_, 1) := by decide +kernel
theorem dX5_verb_0 : decode cX5_verb 0 = .ok (.lconst 0, 1) := by decide +kernel
theorem dX5_verb_1 : decode cX5_verb 1 = .ok (.lstore_n 1, 1) := by decide +kernel
theorem dX5_verb_2 : decode cX5_verb 2 = .ok (.iconst 0, 1) := by decide +kernel
theorem dX5_verb_3 : decode cX5_verb 3 = .ok (.istore_n 3, 1) := by decide +kernel
theorem dX5_verb_4 : decode cX5_verb 4 = .ok (.iload_n 3, 1) := by decide +kernel
theorem dX5_verb_5 : decode cX5_verb 5 = .ok (.aload_n 0, 1) := by decide +kernel
theorem dX5_verb_6 : decode cX5_verb 6 = .ok (.getfield 74, 3) := by decide +kernel
theorem dX5_verb_9 : decode cX5_verb 9 = .ok (.if_icmp .ge 41, 3) := by decide +kernel
theorem dX5_verb_12 : decode cX5_verb 12 = .ok (.iload_n 3, 1) := by decide +kernel
theorem dX5_verb_13 : decode cX5_verb 13 = .ok (.bipush 7, 2) := by decide +kernel
theorem dX5_verb_15 : decode cX5_verb 15 = .ok (.if_icmp .ge 35, 3) := by decide +kernel
theorem dX5_verb_18 : decode cX5_verb 18 = .ok (.aload_n 0, 1) := by decide +kernel
theorem dX5_verb_19 : decode cX5_verb 19 = .ok (.getfield 71, 3) := by decide +kernel
theorem dX5_verb_22 : decode cX5_verb 22 = .ok (.iconst 1, 1) := by decide +kernel
theorem dX5_verb_23 : decode cX5_verb 23 = .ok (.if_icmp .ne 27, 3) := by decide +kernel
theorem dX5_verb_26 : decode cX5_verb 26 = .ok (.ldc2_w 77, 3) := by decide +kernel
theorem dX5_verb_29 : decode cX5_verb 29 = .ok (.lload_n 1, 1) := by decide +kernel
theorem dX5_verb_30 : decode cX5_verb 30 = .ok (.lmul, 1) := by decide +kernel
theorem dX5_verb_31 : decode cX5_verb 31 = .ok (.aload_n 0, 1) := by decide +kernel
theorem dX5_verb_32 : decode cX5_verb 32 = .ok (.aload_n 0, 1) := by decide +kernel
theorem dX5_verb_33 : decode cX5_verb 33 = .ok (.getfield 65, 3) := by decide +kernel
theorem dX5_verb_36 : decode cX5_verb 36 = .ok (.iload_n 3, 1) := by decide +kernel
theorem dX5_verb_37 : decode cX5_verb 37 = .ok (.iadd, 1) := by decide +kernel
theorem dX5_verb_38 : decode cX5_verb 38 = .ok (.invokevirtual 61, 3) := by decide +kernel
theorem dX5_verb_41 : decode cX5_verb 41 = .ok (.i2l, 1) := by decide +kernel
theorem dX5_verb_42 : decode cX5_verb 42 = .ok (.ladd, 1) := by decide +kernel
theorem dX5_verb_43 : decode cX5_verb 43 = .ok (.lstore_n 1, 1) := by decide +kernel
theorem dX5_verb_44 : decode cX5_verb 44 = .ok (.iinc 3 1, 3) := by decide +kernel
theorem dX5_verb_47 : decode cX5_verb 47 = .ok (.goto (-43), 3) := by decide +kernel
theorem dX5_verb_50 : decode cX5_verb 50 = .ok (.lload_n 1, 1) := by decide +kernel
theorem dX5_verb_51 : decode cX5_verb 51 = .ok (.ldc2_w 79, 3) := by decide +kernel
theorem dX5_verb_54 : decode cX5_verb 54 = .ok (.lcmp, 1) := by decide +kernel
theorem dX5_verb_55 : decode cX5_verb 55 = .ok (.ifCond .ne 7, 3) := by decide +kernel
theorem dX5_verb_58 : decode cX5_verb 58 = .ok (.iconst 0, 1) := by decide +kernel
theorem dX5_verb_59 : decode cX5_verb 59 = .ok (.goto 29, 3) := by decide +kernel
theorem dX5_verb_62 : decode cX5_verb 62 = .ok (.lload_n 1, 1) := by decide +kernel
theorem dX5_verb_63 : decode cX5_verb 63 = .ok (.ldc2_w 81, 3) := by decide +kernel
theorem dX5_verb_66 : decode cX5_verb 66 = .ok (.lcmp, 1) := by decide +kernel
theorem dX5_verb_67 : decode cX5_verb 67 = .ok (.ifCond .ne 7, 3) := by decide +kernel
theorem dX5_verb_70 : decode cX5_verb 70 = .ok (.iconst 1, 1) := by decide +kernel
theorem dX5_verb_71 : decode cX5_verb 71 = .ok (.goto 17, 3) := by decide +kernel
theorem dX5_verb_74 : decode cX5_verb 74 = .ok (.lload_n 1, 1) := by decide +kernel
theorem dX5_verb_75 : decode cX5_verb 75 = .ok (.ldc2_w 83, 3) := by decide +kernel
theorem dX5_verb_78 : decode cX5_verb 78 = .ok (.lcmp, 1) := by decide +kernel
theorem dX5_verb_79 : decode cX5_verb 79 = .ok (.ifCond .ne 7, 3) := by decide +kernel
theorem dX5_verb_82 : decode cX5_verb 82 = .ok (.iconst 2, 1) := by decide +kernel
theorem dX5_verb_83 : decode cX5_verb 83 = .ok (.goto 5, 3) := by decide +kernel
theorem dX5_verb_86 : decode cX5_verb 86 = .ok (.bipush (-9), 2) := by decide +kernel
theorem dX5_verb_88 : decode cX5_verb 88 = .ok (.istore_n 3, 1) := by decide +kernel
theorem dX5_verb_89 : decode cX5_verb 89 = .ok (.iload_n 3, 1) := by decide +kernel
theorem dX5_verb_90 : decode cX5_verb 90 = .ok (.bipush (-9), 2) := by decide +kernel
theorem dX5_verb_92 : decode cX5_verb 92 = .ok (.if_icmp .eq 7, 3) := by decide +kernel
theorem dX5_verb_95 : decode cX5_verb 95 = .ok (.iload_n 3, 1) := by decide +kernel
theorem dX5_verb_96 : decode cX5_verb 96 = .ok (.goto 41, 3) := by decide +kernel
theorem dX5_verb_99 : decode cX5_verb 99 = .ok (.lload_n 1, 1) := by decide +kernel
theorem dX5_verb_100 : decode cX5_verb 100 = .ok (.ldc2_w 85, 3) := by decide +kernel
theorem dX5_verb_103 : decode cX5_verb 103 = .ok (.lcmp, 1) := by decide +kernel
theorem dX5_verb_104 : decode cX5_verb 104 = .ok (.ifCond .ne 7, 3) := by decide +kernel
theorem dX5_verb_107 : decode cX5_verb 107 = .ok (.iconst 3, 1) := by decide +kernel
theorem dX5_verb_108 : decode cX5_verb 108 = .ok (.goto 29, 3) := by decide +kernel
theorem dX5_verb_111 : decode cX5_verb 111 = .ok (.lload_n 1, 1) := by decide +kernel
theorem dX5_verb_112 : decode cX5_verb 112 = .ok (.ldc2_w 87, 3) := by decide +kernel
theorem dX5_verb_115 : decode cX5_verb 115 = .ok (.lcmp, 1) := by decide +kernel
theorem dX5_verb_116 : decode cX5_verb 116 = .ok (.ifCond .ne 7, 3) := by decide +kernel
theorem dX5_verb_119 : decode cX5_verb 119 = .ok (.iconst 4, 1) := by decide +kernel
theorem dX5_verb_120 : decode cX5_verb 120 = .ok (.goto 17, 3) := by decide +kernel
theorem dX5_verb_123 : decode cX5_verb 123 = .ok (.lload_n 1, 1) := by decide +kernel
theorem dX5_verb_124 : decode cX5_verb 124 = .ok (.ldc2_w 89, 3) := by decide +kernel
theorem dX5_verb_127 : decode cX5_verb 127 = .ok (.lcmp, 1) := by decide +kernel
theorem dX5_verb_128 : decode cX5_verb 128 = .ok (.ifCond .ne 7, 3) := by decide +kernel
theorem dX5_verb_131 : decode cX5_verb 131 = .ok (.iconst 5, 1) := by decide +kernel
theorem dX5_verb_132 : decode cX5_verb 132 = .ok (.goto 5, 3) := by decide +kernel
theorem dX5_verb_135 : decode cX5_verb 135 = .ok (.bipush (-9), 2) := by decide +kernel
theorem dX5_verb_137 : decode cX5_verb 137 = .ok (.ireturn, 1) := by decide +kernel
theorem dX5_number_0 : decode cX5_number 0 = .ok (.aload_n 0, 1) := by decide +kernel
theorem dX5_number_1 : decode cX5_number 1 = .ok (.invokevirtual 91, 3) := by decide +kernel
theorem dX5_number_4 : decode cX5_number 4 = .ok (.aload_n 0, 1) := by decide +kernel
theorem dX5_number_5 : decode cX5_number 5 = .ok (.aload_n 0, 1) := by decide +kernel
theorem dX5_number_6 : decode cX5_number 6 = .ok (.getfield 65, 3) := by decide +kernel
theorem dX5_number_9 : decode cX5_number 9 = .ok (.invokevirtual 61, 3) := by decide +kernel
theorem dX5_number_12 : decode cX5_number 12 = .ok (.bipush 48, 2) := by decide +kernel
theorem dX5_number_14 : decode cX5_number 14 = .ok (.isub, 1) := by decide +kernel
theorem dX5_number_15 : decode cX5_number 15 = .ok (.istore_n 3, 1) := by decide +kernel
theorem dX5_number_16 : decode cX5_number 16 = .ok (.aload_n 0, 1) := by decide +kernel
theorem dX5_number_17 : decode cX5_number 17 = .ok (.getfield 71, 3) := by decide +kernel
theorem dX5_number_20 : decode cX5_number 20 = .ok (.iconst 2, 1) := by decide +kernel
theorem dX5_number_21 : decode cX5_number 21 = .ok (.if_icmp .ne 24, 3) := by decide +kernel
theorem dX5_number_24 : decode cX5_number 24 = .ok (.aload_n 0, 1) := by decide +kernel
theorem dX5_number_25 : decode cX5_number 25 = .ok (.getfield 74, 3) := by decide +kernel
theorem dX5_number_28 : decode cX5_number 28 = .ok (.iconst 1, 1) := by decide +kernel
theorem dX5_number_29 : decode cX5_number 29 = .ok (.if_icmp .ne 16, 3) := by decide +kernel
theorem dX5_number_32 : decode cX5_number 32 = .ok (.iload_n 3, 1) := by decide +kernel
theorem dX5_number_33 : decode cX5_number 33 = .ok (.iload_n 1, 1) := by decide +kernel
theorem dX5_number_34 : decode cX5_number 34 = .ok (.iload_n 2, 1) := by decide +kernel
theorem dX5_number_35 : decode cX5_number 35 = .ok (.invokestatic 48, 3) := by decide +kernel
theorem dX5_number_38 : decode cX5_number 38 = .ok (.ifCond .eq 7, 3) := by decide +kernel
theorem dX5_number_41 : decode cX5_number 41 = .ok (.iload_n 3, 1) := by decide +kernel
theorem dX5_number_42 : decode cX5_number 42 = .ok (.goto 5, 3) := by decide +kernel
theorem dX5_number_45 : decode cX5_number 45 = .ok (.bipush (-9), 2) := by decide +kernel
theorem dX5_number_47 : decode cX5_number 47 = .ok (.ireturn, 1) := by decide +kernel
theorem dX5_place_0 : decode cX5_place 0 = .ok (.aload_n 0, 1) := by decide +kernel
theorem dX5_place_1 : decode cX5_place 1 = .ok (.iconst 0, 1) := by decide +kernel
theorem dX5_place_2 : decode cX5_place 2 = .ok (.aload_n 0, 1) := by decide +kernel
theorem dX5_place_3 : decode cX5_place 3 = .ok (.getfield 16, 3) := by decide +kernel
theorem dX5_place_6 : decode cX5_place 6 = .ok (.iconst 0, 1) := by decide +kernel
theorem dX5_place_7 : decode cX5_place 7 = .ok (.iaload, 1) := by decide +kernel
theorem dX5_place_8 : decode cX5_place 8 = .ok (.iconst 1, 1) := by decide +kernel
theorem dX5_place_9 : decode cX5_place 9 = .ok (.isub, 1) := by decide +kernel
theorem dX5_place_10 : decode cX5_place 10 = .ok (.invokevirtual 94, 3) := by decide +kernel
theorem dX5_place_13 : decode cX5_place 13 = .ok (.istore_n 2, 1) := by decide +kernel
theorem dX5_place_14 : decode cX5_place 14 = .ok (.iload_n 2, 1) := by decide +kernel
theorem dX5_place_15 : decode cX5_place 15 = .ok (.bipush (-9), 2) := by decide +kernel
theorem dX5_place_17 : decode cX5_place 17 = .ok (.if_icmp .ne 6, 3) := by decide +kernel
theorem dX5_place_20 : decode cX5_place 20 = .ok (.bipush (-9), 2) := by decide +kernel
theorem dX5_place_22 : decode cX5_place 22 = .ok (.ireturn, 1) := by decide +kernel
theorem dX5_place_23 : decode cX5_place 23 = .ok (.aload_n 0, 1) := by decide +kernel
theorem dX5_place_24 : decode cX5_place 24 = .ok (.iconst 0, 1) := by decide +kernel
theorem dX5_place_25 : decode cX5_place 25 = .ok (.aload_n 0, 1) := by decide +kernel
theorem dX5_place_26 : decode cX5_place 26 = .ok (.getfield 16, 3) := by decide +kernel
theorem dX5_place_29 : decode cX5_place 29 = .ok (.iconst 1, 1) := by decide +kernel
theorem dX5_place_30 : decode cX5_place 30 = .ok (.iaload, 1) := by decide +kernel
theorem dX5_place_31 : decode cX5_place 31 = .ok (.iconst 1, 1) := by decide +kernel
theorem dX5_place_32 : decode cX5_place 32 = .ok (.isub, 1) := by decide +kernel
theorem dX5_place_33 : decode cX5_place 33 = .ok (.invokevirtual 94, 3) := by decide +kernel
theorem dX5_place_36 : decode cX5_place 36 = .ok (.istore_n 3, 1) := by decide +kernel
theorem dX5_place_37 : decode cX5_place 37 = .ok (.aload_n 0, 1) := by decide +kernel
theorem dX5_place_38 : decode cX5_place 38 = .ok (.getfield 16, 3) := by decide +kernel
theorem dX5_place_41 : decode cX5_place 41 = .ok (.iconst 0, 1) := by decide +kernel
theorem dX5_place_42 : decode cX5_place 42 = .ok (.iaload, 1) := by decide +kernel
theorem dX5_place_43 : decode cX5_place 43 = .ok (.iload_n 3, 1) := by decide +kernel
theorem dX5_place_44 : decode cX5_place 44 = .ok (.imul, 1) := by decide +kernel
theorem dX5_place_45 : decode cX5_place 45 = .ok (.iload_n 2, 1) := by decide +kernel
theorem dX5_place_46 : decode cX5_place 46 = .ok (.iadd, 1) := by decide +kernel
theorem dX5_place_47 : decode cX5_place 47 = .ok (.istore 4, 2) := by decide +kernel
theorem dX5_place_49 : decode cX5_place 49 = .ok (.iload_n 3, 1) := by decide +kernel
theorem dX5_place_50 : decode cX5_place 50 = .ok (.bipush (-9), 2) := by decide +kernel
theorem dX5_place_52 : decode cX5_place 52 = .ok (.if_icmp .eq 22, 3) := by decide +kernel
theorem dX5_place_55 : decode cX5_place 55 = .ok (.iload_n 1, 1) := by decide +kernel
theorem dX5_place_56 : decode cX5_place 56 = .ok (.ifCond .ne 23, 3) := by decide +kernel
theorem dX5_place_59 : decode cX5_place 59 = .ok (.aload_n 0, 1) := by decide +kernel
theorem dX5_place_60 : decode cX5_place 60 = .ok (.getfield 16, 3) := by decide +kernel
theorem dX5_place_63 : decode cX5_place 63 = .ok (.iconst 5, 1) := by decide +kernel
theorem dX5_place_64 : decode cX5_place 64 = .ok (.iaload, 1) := by decide +kernel
theorem dX5_place_65 : decode cX5_place 65 = .ok (.iload 4, 2) := by decide +kernel
theorem dX5_place_67 : decode cX5_place 67 = .ok (.ishr, 1) := by decide +kernel
theorem dX5_place_68 : decode cX5_place 68 = .ok (.iconst 1, 1) := by decide +kernel
theorem dX5_place_69 : decode cX5_place 69 = .ok (.iand, 1) := by decide +kernel
theorem dX5_place_70 : decode cX5_place 70 = .ok (.iconst 1, 1) := by decide +kernel
theorem dX5_place_71 : decode cX5_place 71 = .ok (.if_icmp .ne 8, 3) := by decide +kernel
theorem dX5_place_74 : decode cX5_place 74 = .ok (.bipush (-9), 2) := by decide +kernel
theorem dX5_place_76 : decode cX5_place 76 = .ok (.goto 5, 3) := by decide +kernel
theorem dX5_place_79 : decode cX5_place 79 = .ok (.iload 4, 2) := by decide +kernel
theorem dX5_place_81 : decode cX5_place 81 = .ok (.ireturn, 1) := by decide +kernel
theorem dX5_readsHall_0 : decode cX5_readsHall 0 = .ok (.aload_n 0, 1) := by decide +kernel
theorem dX5_readsHall_1 : decode cX5_readsHall 1 = .ok (.getfield 16, 3) := by decide +kernel
theorem dX5_readsHall_4 : decode cX5_readsHall 4 = .ok (.bipush 38, 2) := by decide +kernel
theorem dX5_readsHall_6 : decode cX5_readsHall 6 = .ok (.iaload, 1) := by decide +kernel
theorem dX5_readsHall_7 : decode cX5_readsHall 7 = .ok (.ifCond .le 5, 3) := by decide +kernel
theorem dX5_readsHall_10 : decode cX5_readsHall 10 = .ok (.iconst 0, 1) := by decide +kernel
theorem dX5_readsHall_11 : decode cX5_readsHall 11 = .ok (.ireturn, 1) := by decide +kernel
theorem dX5_readsHall_12 : decode cX5_readsHall 12 = .ok (.aload_n 0, 1) := by decide +kernel
theorem dX5_readsHall_13 : decode cX5_readsHall 13 = .ok (.iconst 1, 1) := by decide +kernel
theorem dX5_readsHall_14 : decode cX5_readsHall 14 = .ok (.iconst 4, 1) := by decide +kernel
theorem dX5_readsHall_15 : decode cX5_readsHall 15 = .ok (.invokevirtual 94, 3) := by decide +kernel
theorem dX5_readsHall_18 : decode cX5_readsHall 18 = .ok (.istore_n 1, 1) := by decide +kernel
theorem dX5_readsHall_19 : decode cX5_readsHall 19 = .ok (.iload_n 1, 1) := by decide +kernel
theorem dX5_readsHall_20 : decode cX5_readsHall 20 = .ok (.bipush (-9), 2) := by decide +kernel
theorem dX5_readsHall_22 : decode cX5_readsHall 22 = .ok (.if_icmp .ne 5, 3) := by decide +kernel
theorem dX5_readsHall_25 : decode cX5_readsHall 25 = .ok (.iconst 0, 1) := by decide +kernel
theorem dX5_readsHall_26 : decode cX5_readsHall 26 = .ok (.ireturn, 1) := by decide +kernel
theorem dX5_readsHall_27 : decode cX5_readsHall 27 = .ok (.aload_n 0, 1) := by decide +kernel
theorem dX5_readsHall_28 : decode cX5_readsHall 28 = .ok (.getfield 16, 3) := by decide +kernel
theorem dX5_readsHall_31 : decode cX5_readsHall 31 = .ok (.iconst 0, 1) := by decide +kernel
theorem dX5_readsHall_32 : decode cX5_readsHall 32 = .ok (.iload_n 1, 1) := by decide +kernel
theorem dX5_readsHall_33 : decode cX5_readsHall 33 = .ok (.iastore, 1) := by decide +kernel
theorem dX5_readsHall_34 : decode cX5_readsHall 34 = .ok (.aload_n 0, 1) := by decide +kernel
theorem dX5_readsHall_35 : decode cX5_readsHall 35 = .ok (.iconst 1, 1) := by decide +kernel
theorem dX5_readsHall_36 : decode cX5_readsHall 36 = .ok (.iconst 3, 1) := by decide +kernel
theorem dX5_readsHall_37 : decode cX5_readsHall 37 = .ok (.invokevirtual 94, 3) := by decide +kernel
theorem dX5_readsHall_40 : decode cX5_readsHall 40 = .ok (.istore_n 2, 1) := by decide +kernel
theorem dX5_readsHall_41 : decode cX5_readsHall 41 = .ok (.aload_n 0, 1) := by decide +kernel
theorem dX5_readsHall_42 : decode cX5_readsHall 42 = .ok (.getfield 16, 3) := by decide +kernel
theorem dX5_readsHall_45 : decode cX5_readsHall 45 = .ok (.iconst 1, 1) := by decide +kernel
theorem dX5_readsHall_46 : decode cX5_readsHall 46 = .ok (.iload_n 2, 1) := by decide +kernel
theorem dX5_readsHall_47 : decode cX5_readsHall 47 = .ok (.iastore, 1) := by decide +kernel
theorem dX5_readsHall_48 : decode cX5_readsHall 48 = .ok (.iload_n 2, 1) := by decide +kernel
theorem dX5_readsHall_49 : decode cX5_readsHall 49 = .ok (.bipush (-9), 2) := by decide +kernel
theorem dX5_readsHall_51 : decode cX5_readsHall 51 = .ok (.if_icmp .eq 7, 3) := by decide +kernel
theorem dX5_readsHall_54 : decode cX5_readsHall 54 = .ok (.iconst 1, 1) := by decide +kernel
theorem dX5_readsHall_55 : decode cX5_readsHall 55 = .ok (.goto 4, 3) := by decide +kernel
theorem dX5_readsHall_58 : decode cX5_readsHall 58 = .ok (.iconst 0, 1) := by decide +kernel
theorem dX5_readsHall_59 : decode cX5_readsHall 59 = .ok (.ireturn, 1) := by decide +kernel
theorem dX5_readsCell_0 : decode cX5_readsCell 0 = .ok (.iload_n 1, 1) := by decide +kernel
theorem dX5_readsCell_1 : decode cX5_readsCell 1 = .ok (.iconst 1, 1) := by decide +kernel
theorem dX5_readsCell_2 : decode cX5_readsCell 2 = .ok (.if_icmp .ne 33, 3) := by decide +kernel
theorem dX5_readsCell_5 : decode cX5_readsCell 5 = .ok (.aload_n 0, 1) := by decide +kernel
theorem dX5_readsCell_6 : decode cX5_readsCell 6 = .ok (.getfield 16, 3) := by decide +kernel
theorem dX5_readsCell_9 : decode cX5_readsCell 9 = .ok (.bipush 6, 2) := by decide +kernel
theorem dX5_readsCell_11 : decode cX5_readsCell 11 = .ok (.iaload, 1) := by decide +kernel
theorem dX5_readsCell_12 : decode cX5_readsCell 12 = .ok (.ifCond .ne 21, 3) := by decide +kernel
theorem dX5_readsCell_15 : decode cX5_readsCell 15 = .ok (.aload_n 0, 1) := by decide +kernel
theorem dX5_readsCell_16 : decode cX5_readsCell 16 = .ok (.getfield 16, 3) := by decide +kernel
theorem dX5_readsCell_19 : decode cX5_readsCell 19 = .ok (.iconst 3, 1) := by decide +kernel
theorem dX5_readsCell_20 : decode cX5_readsCell 20 = .ok (.iaload, 1) := by decide +kernel
theorem dX5_readsCell_21 : decode cX5_readsCell 21 = .ok (.ifCond .gt 12, 3) := by decide +kernel
theorem dX5_readsCell_24 : decode cX5_readsCell 24 = .ok (.aload_n 0, 1) := by decide +kernel
theorem dX5_readsCell_25 : decode cX5_readsCell 25 = .ok (.getfield 16, 3) := by decide +kernel
theorem dX5_readsCell_28 : decode cX5_readsCell 28 = .ok (.iconst 4, 1) := by decide +kernel
theorem dX5_readsCell_29 : decode cX5_readsCell 29 = .ok (.iaload, 1) := by decide +kernel
theorem dX5_readsCell_30 : decode cX5_readsCell 30 = .ok (.ifCond .le 5, 3) := by decide +kernel
theorem dX5_readsCell_33 : decode cX5_readsCell 33 = .ok (.iconst 0, 1) := by decide +kernel
theorem dX5_readsCell_34 : decode cX5_readsCell 34 = .ok (.ireturn, 1) := by decide +kernel
theorem dX5_readsCell_35 : decode cX5_readsCell 35 = .ok (.aload_n 0, 1) := by decide +kernel
theorem dX5_readsCell_36 : decode cX5_readsCell 36 = .ok (.iload_n 1, 1) := by decide +kernel
theorem dX5_readsCell_37 : decode cX5_readsCell 37 = .ok (.iconst 1, 1) := by decide +kernel
theorem dX5_readsCell_38 : decode cX5_readsCell 38 = .ok (.if_icmp .ne 7, 3) := by decide +kernel
theorem dX5_readsCell_41 : decode cX5_readsCell 41 = .ok (.iconst 1, 1) := by decide +kernel
theorem dX5_readsCell_42 : decode cX5_readsCell 42 = .ok (.goto 4, 3) := by decide +kernel
theorem dX5_readsCell_45 : decode cX5_readsCell 45 = .ok (.iconst 0, 1) := by decide +kernel
theorem dX5_readsCell_46 : decode cX5_readsCell 46 = .ok (.invokevirtual 98, 3) := by decide +kernel
theorem dX5_readsCell_49 : decode cX5_readsCell 49 = .ok (.istore_n 2, 1) := by decide +kernel
theorem dX5_readsCell_50 : decode cX5_readsCell 50 = .ok (.iload_n 2, 1) := by decide +kernel
theorem dX5_readsCell_51 : decode cX5_readsCell 51 = .ok (.bipush (-9), 2) := by decide +kernel
theorem dX5_readsCell_53 : decode cX5_readsCell 53 = .ok (.if_icmp .ne 5, 3) := by decide +kernel
theorem dX5_readsCell_56 : decode cX5_readsCell 56 = .ok (.iconst 0, 1) := by decide +kernel
theorem dX5_readsCell_57 : decode cX5_readsCell 57 = .ok (.ireturn, 1) := by decide +kernel
theorem dX5_readsCell_58 : decode cX5_readsCell 58 = .ok (.aload_n 0, 1) := by decide +kernel
theorem dX5_readsCell_59 : decode cX5_readsCell 59 = .ok (.getfield 16, 3) := by decide +kernel
theorem dX5_readsCell_62 : decode cX5_readsCell 62 = .ok (.iload_n 1, 1) := by decide +kernel
theorem dX5_readsCell_63 : decode cX5_readsCell 63 = .ok (.iconst 1, 1) := by decide +kernel
theorem dX5_readsCell_64 : decode cX5_readsCell 64 = .ok (.if_icmp .ne 7, 3) := by decide +kernel
theorem dX5_readsCell_67 : decode cX5_readsCell 67 = .ok (.iconst 5, 1) := by decide +kernel
theorem dX5_readsCell_68 : decode cX5_readsCell 68 = .ok (.goto 5, 3) := by decide +kernel
theorem dX5_readsCell_71 : decode cX5_readsCell 71 = .ok (.bipush 6, 2) := by decide +kernel
theorem dX5_readsCell_73 : decode cX5_readsCell 73 = .ok (.dup2, 1) := by decide +kernel
theorem dX5_readsCell_74 : decode cX5_readsCell 74 = .ok (.iaload, 1) := by decide +kernel
theorem dX5_readsCell_75 : decode cX5_readsCell 75 = .ok (.iconst 1, 1) := by decide +kernel
theorem dX5_readsCell_76 : decode cX5_readsCell 76 = .ok (.iload_n 2, 1) := by decide +kernel
theorem dX5_readsCell_77 : decode cX5_readsCell 77 = .ok (.ishl, 1) := by decide +kernel
theorem dX5_readsCell_78 : decode cX5_readsCell 78 = .ok (.ior, 1) := by decide +kernel
theorem dX5_readsCell_79 : decode cX5_readsCell 79 = .ok (.iastore, 1) := by decide +kernel
theorem dX5_readsCell_80 : decode cX5_readsCell 80 = .ok (.iconst 1, 1) := by decide +kernel
theorem dX5_readsCell_81 : decode cX5_readsCell 81 = .ok (.ireturn, 1) := by decide +kernel
theorem dX5_readsLamp_0 : decode cX5_readsLamp 0 = .ok (.aload_n 0, 1) := by decide +kernel
theorem dX5_readsLamp_1 : decode cX5_readsLamp 1 = .ok (.getfield 16, 3) := by decide +kernel
theorem dX5_readsLamp_4 : decode cX5_readsLamp 4 = .ok (.iconst 3, 1) := by decide +kernel
theorem dX5_readsLamp_5 : decode cX5_readsLamp 5 = .ok (.iaload, 1) := by decide +kernel
theorem dX5_readsLamp_6 : decode cX5_readsLamp 6 = .ok (.istore_n 1, 1) := by decide +kernel
theorem dX5_readsLamp_7 : decode cX5_readsLamp 7 = .ok (.iload_n 1, 1) := by decide +kernel
theorem dX5_readsLamp_8 : decode cX5_readsLamp 8 = .ok (.bipush 6, 2) := by decide +kernel
theorem dX5_readsLamp_10 : decode cX5_readsLamp 10 = .ok (.if_icmp .ne 8, 3) := by decide +kernel
theorem dX5_readsLamp_13 : decode cX5_readsLamp 13 = .ok (.bipush (-9), 2) := by decide +kernel
theorem dX5_readsLamp_15 : decode cX5_readsLamp 15 = .ok (.goto 8, 3) := by decide +kernel
theorem dX5_readsLamp_18 : decode cX5_readsLamp 18 = .ok (.aload_n 0, 1) := by decide +kernel
theorem dX5_readsLamp_19 : decode cX5_readsLamp 19 = .ok (.iconst 0, 1) := by decide +kernel
theorem dX5_readsLamp_20 : decode cX5_readsLamp 20 = .ok (.invokevirtual 98, 3) := by decide +kernel
theorem dX5_readsLamp_23 : decode cX5_readsLamp 23 = .ok (.istore_n 2, 1) := by decide +kernel
theorem dX5_readsLamp_24 : decode cX5_readsLamp 24 = .ok (.iload_n 2, 1) := by decide +kernel
theorem dX5_readsLamp_25 : decode cX5_readsLamp 25 = .ok (.bipush (-9), 2) := by decide +kernel
theorem dX5_readsLamp_27 : decode cX5_readsLamp 27 = .ok (.if_icmp .ne 5, 3) := by decide +kernel
theorem dX5_readsLamp_30 : decode cX5_readsLamp 30 = .ok (.iconst 0, 1) := by decide +kernel
theorem dX5_readsLamp_31 : decode cX5_readsLamp 31 = .ok (.ireturn, 1) := by decide +kernel
theorem dX5_readsLamp_32 : decode cX5_readsLamp 32 = .ok (.aload_n 0, 1) := by decide +kernel
theorem dX5_readsLamp_33 : decode cX5_readsLamp 33 = .ok (.iconst 0, 1) := by decide +kernel
theorem dX5_readsLamp_34 : decode cX5_readsLamp 34 = .ok (.bipush 9, 2) := by decide +kernel
theorem dX5_readsLamp_36 : decode cX5_readsLamp 36 = .ok (.invokevirtual 94, 3) := by decide +kernel
theorem dX5_readsLamp_39 : decode cX5_readsLamp 39 = .ok (.istore_n 3, 1) := by decide +kernel
theorem dX5_readsLamp_40 : decode cX5_readsLamp 40 = .ok (.iload_n 3, 1) := by decide +kernel
theorem dX5_readsLamp_41 : decode cX5_readsLamp 41 = .ok (.bipush (-9), 2) := by decide +kernel
theorem dX5_readsLamp_43 : decode cX5_readsLamp 43 = .ok (.if_icmp .ne 5, 3) := by decide +kernel
theorem dX5_readsLamp_46 : decode cX5_readsLamp 46 = .ok (.iconst 0, 1) := by decide +kernel
theorem dX5_readsLamp_47 : decode cX5_readsLamp 47 = .ok (.ireturn, 1) := by decide +kernel
theorem dX5_readsLamp_48 : decode cX5_readsLamp 48 = .ok (.aload_n 0, 1) := by decide +kernel
theorem dX5_readsLamp_49 : decode cX5_readsLamp 49 = .ok (.getfield 16, 3) := by decide +kernel
theorem dX5_readsLamp_52 : decode cX5_readsLamp 52 = .ok (.bipush 7, 2) := by decide +kernel
theorem dX5_readsLamp_54 : decode cX5_readsLamp 54 = .ok (.iload_n 1, 1) := by decide +kernel
theorem dX5_readsLamp_55 : decode cX5_readsLamp 55 = .ok (.iadd, 1) := by decide +kernel
theorem dX5_readsLamp_56 : decode cX5_readsLamp 56 = .ok (.iload_n 2, 1) := by decide +kernel
theorem dX5_readsLamp_57 : decode cX5_readsLamp 57 = .ok (.iastore, 1) := by decide +kernel
theorem dX5_readsLamp_58 : decode cX5_readsLamp 58 = .ok (.aload_n 0, 1) := by decide +kernel
theorem dX5_readsLamp_59 : decode cX5_readsLamp 59 = .ok (.getfield 16, 3) := by decide +kernel
theorem dX5_readsLamp_62 : decode cX5_readsLamp 62 = .ok (.bipush 13, 2) := by decide +kernel
theorem dX5_readsLamp_64 : decode cX5_readsLamp 64 = .ok (.iload_n 1, 1) := by decide +kernel
theorem dX5_readsLamp_65 : decode cX5_readsLamp 65 = .ok (.iadd, 1) := by decide +kernel
theorem dX5_readsLamp_66 : decode cX5_readsLamp 66 = .ok (.iload_n 3, 1) := by decide +kernel
theorem dX5_readsLamp_67 : decode cX5_readsLamp 67 = .ok (.iastore, 1) := by decide +kernel
theorem dX5_readsLamp_68 : decode cX5_readsLamp 68 = .ok (.aload_n 0, 1) := by decide +kernel
theorem dX5_readsLamp_69 : decode cX5_readsLamp 69 = .ok (.getfield 16, 3) := by decide +kernel
theorem dX5_readsLamp_72 : decode cX5_readsLamp 72 = .ok (.iconst 3, 1) := by decide +kernel
theorem dX5_readsLamp_73 : decode cX5_readsLamp 73 = .ok (.dup2, 1) := by decide +kernel
theorem dX5_readsLamp_74 : decode cX5_readsLamp 74 = .ok (.iaload, 1) := by decide +kernel
theorem dX5_readsLamp_75 : decode cX5_readsLamp 75 = .ok (.iconst 1, 1) := by decide +kernel
theorem dX5_readsLamp_76 : decode cX5_readsLamp 76 = .ok (.iadd, 1) := by decide +kernel
theorem dX5_readsLamp_77 : decode cX5_readsLamp 77 = .ok (.iastore, 1) := by decide +kernel
theorem dX5_readsLamp_78 : decode cX5_readsLamp 78 = .ok (.iconst 1, 1) := by decide +kernel
theorem dX5_readsLamp_79 : decode cX5_readsLamp 79 = .ok (.ireturn, 1) := by decide +kernel
theorem dX5_readsPerson_0 : decode cX5_readsPerson 0 = .ok (.aload_n 0, 1) := by decide +kernel
theorem dX5_readsPerson_1 : decode cX5_readsPerson 1 = .ok (.getfield 16, 3) := by decide +kernel
theorem dX5_readsPerson_4 : decode cX5_readsPerson 4 = .ok (.iconst 4, 1) := by decide +kernel
theorem dX5_readsPerson_5 : decode cX5_readsPerson 5 = .ok (.iaload, 1) := by decide +kernel
theorem dX5_readsPerson_6 : decode cX5_readsPerson 6 = .ok (.istore_n 1, 1) := by decide +kernel
theorem dX5_readsPerson_7 : decode cX5_readsPerson 7 = .ok (.iload_n 1, 1) := by decide +kernel
theorem dX5_readsPerson_8 : decode cX5_readsPerson 8 = .ok (.bipush 6, 2) := by decide +kernel
theorem dX5_readsPerson_10 : decode cX5_readsPerson 10 = .ok (.if_icmp .ne 8, 3) := by decide +kernel
theorem dX5_readsPerson_13 : decode cX5_readsPerson 13 = .ok (.bipush (-9), 2) := by decide +kernel
theorem dX5_readsPerson_15 : decode cX5_readsPerson 15 = .ok (.goto 8, 3) := by decide +kernel
theorem dX5_readsPerson_18 : decode cX5_readsPerson 18 = .ok (.aload_n 0, 1) := by decide +kernel
theorem dX5_readsPerson_19 : decode cX5_readsPerson 19 = .ok (.iconst 0, 1) := by decide +kernel
theorem dX5_readsPerson_20 : decode cX5_readsPerson 20 = .ok (.invokevirtual 98, 3) := by decide +kernel
theorem dX5_readsPerson_23 : decode cX5_readsPerson 23 = .ok (.istore_n 2, 1) := by decide +kernel
theorem dX5_readsPerson_24 : decode cX5_readsPerson 24 = .ok (.iload_n 2, 1) := by decide +kernel
theorem dX5_readsPerson_25 : decode cX5_readsPerson 25 = .ok (.bipush (-9), 2) := by decide +kernel
theorem dX5_readsPerson_27 : decode cX5_readsPerson 27 = .ok (.if_icmp .ne 5, 3) := by decide +kernel
theorem dX5_readsPerson_30 : decode cX5_readsPerson 30 = .ok (.iconst 0, 1) := by decide +kernel
theorem dX5_readsPerson_31 : decode cX5_readsPerson 31 = .ok (.ireturn, 1) := by decide +kernel
theorem dX5_readsPerson_32 : decode cX5_readsPerson 32 = .ok (.aload_n 0, 1) := by decide +kernel
theorem dX5_readsPerson_33 : decode cX5_readsPerson 33 = .ok (.iconst 0, 1) := by decide +kernel
theorem dX5_readsPerson_34 : decode cX5_readsPerson 34 = .ok (.bipush 9, 2) := by decide +kernel
theorem dX5_readsPerson_36 : decode cX5_readsPerson 36 = .ok (.invokevirtual 94, 3) := by decide +kernel
theorem dX5_readsPerson_39 : decode cX5_readsPerson 39 = .ok (.istore_n 3, 1) := by decide +kernel
theorem dX5_readsPerson_40 : decode cX5_readsPerson 40 = .ok (.iload_n 3, 1) := by decide +kernel
theorem dX5_readsPerson_41 : decode cX5_readsPerson 41 = .ok (.bipush (-9), 2) := by decide +kernel
theorem dX5_readsPerson_43 : decode cX5_readsPerson 43 = .ok (.if_icmp .ne 5, 3) := by decide +kernel
theorem dX5_readsPerson_46 : decode cX5_readsPerson 46 = .ok (.iconst 0, 1) := by decide +kernel
theorem dX5_readsPerson_47 : decode cX5_readsPerson 47 = .ok (.ireturn, 1) := by decide +kernel
theorem dX5_readsPerson_48 : decode cX5_readsPerson 48 = .ok (.aload_n 0, 1) := by decide +kernel
theorem dX5_readsPerson_49 : decode cX5_readsPerson 49 = .ok (.iconst 0, 1) := by decide +kernel
theorem dX5_readsPerson_50 : decode cX5_readsPerson 50 = .ok (.iconst 1, 1) := by decide +kernel
theorem dX5_readsPerson_51 : decode cX5_readsPerson 51 = .ok (.invokevirtual 94, 3) := by decide +kernel
theorem dX5_readsPerson_54 : decode cX5_readsPerson 54 = .ok (.istore 4, 2) := by decide +kernel
theorem dX5_readsPerson_56 : decode cX5_readsPerson 56 = .ok (.iload 4, 2) := by decide +kernel
theorem dX5_readsPerson_58 : decode cX5_readsPerson 58 = .ok (.bipush (-9), 2) := by decide +kernel
theorem dX5_readsPerson_60 : decode cX5_readsPerson 60 = .ok (.if_icmp .ne 5, 3) := by decide +kernel
theorem dX5_readsPerson_63 : decode cX5_readsPerson 63 = .ok (.iconst 0, 1) := by decide +kernel
theorem dX5_readsPerson_64 : decode cX5_readsPerson 64 = .ok (.ireturn, 1) := by decide +kernel
theorem dX5_readsPerson_65 : decode cX5_readsPerson 65 = .ok (.aload_n 0, 1) := by decide +kernel
theorem dX5_readsPerson_66 : decode cX5_readsPerson 66 = .ok (.getfield 16, 3) := by decide +kernel
theorem dX5_readsPerson_69 : decode cX5_readsPerson 69 = .ok (.bipush 19, 2) := by decide +kernel
theorem dX5_readsPerson_71 : decode cX5_readsPerson 71 = .ok (.iload_n 1, 1) := by decide +kernel
theorem dX5_readsPerson_72 : decode cX5_readsPerson 72 = .ok (.iadd, 1) := by decide +kernel
theorem dX5_readsPerson_73 : decode cX5_readsPerson 73 = .ok (.iload_n 2, 1) := by decide +kernel
theorem dX5_readsPerson_74 : decode cX5_readsPerson 74 = .ok (.iastore, 1) := by decide +kernel
theorem dX5_readsPerson_75 : decode cX5_readsPerson 75 = .ok (.aload_n 0, 1) := by decide +kernel
theorem dX5_readsPerson_76 : decode cX5_readsPerson 76 = .ok (.getfield 16, 3) := by decide +kernel
theorem dX5_readsPerson_79 : decode cX5_readsPerson 79 = .ok (.bipush 25, 2) := by decide +kernel
theorem dX5_readsPerson_81 : decode cX5_readsPerson 81 = .ok (.iload_n 1, 1) := by decide +kernel
theorem dX5_readsPerson_82 : decode cX5_readsPerson 82 = .ok (.iadd, 1) := by decide +kernel
theorem dX5_readsPerson_83 : decode cX5_readsPerson 83 = .ok (.iload_n 3, 1) := by decide +kernel
theorem dX5_readsPerson_84 : decode cX5_readsPerson 84 = .ok (.iastore, 1) := by decide +kernel
theorem dX5_readsPerson_85 : decode cX5_readsPerson 85 = .ok (.aload_n 0, 1) := by decide +kernel
theorem dX5_readsPerson_86 : decode cX5_readsPerson 86 = .ok (.getfield 16, 3) := by decide +kernel
theorem dX5_readsPerson_89 : decode cX5_readsPerson 89 = .ok (.bipush 31, 2) := by decide +kernel
theorem dX5_readsPerson_91 : decode cX5_readsPerson 91 = .ok (.iload_n 1, 1) := by decide +kernel
theorem dX5_readsPerson_92 : decode cX5_readsPerson 92 = .ok (.iadd, 1) := by decide +kernel
theorem dX5_readsPerson_93 : decode cX5_readsPerson 93 = .ok (.iload 4, 2) := by decide +kernel
theorem dX5_readsPerson_95 : decode cX5_readsPerson 95 = .ok (.iastore, 1) := by decide +kernel
theorem dX5_readsPerson_96 : decode cX5_readsPerson 96 = .ok (.aload_n 0, 1) := by decide +kernel
theorem dX5_readsPerson_97 : decode cX5_readsPerson 97 = .ok (.getfield 16, 3) := by decide +kernel
theorem dX5_readsPerson_100 : decode cX5_readsPerson 100 = .ok (.iconst 4, 1) := by decide +kernel
theorem dX5_readsPerson_101 : decode cX5_readsPerson 101 = .ok (.dup2, 1) := by decide +kernel
theorem dX5_readsPerson_102 : decode cX5_readsPerson 102 = .ok (.iaload, 1) := by decide +kernel
theorem dX5_readsPerson_103 : decode cX5_readsPerson 103 = .ok (.iconst 1, 1) := by decide +kernel
theorem dX5_readsPerson_104 : decode cX5_readsPerson 104 = .ok (.iadd, 1) := by decide +kernel
theorem dX5_readsPerson_105 : decode cX5_readsPerson 105 = .ok (.iastore, 1) := by decide +kernel
theorem dX5_readsPerson_106 : decode cX5_readsPerson 106 = .ok (.iconst 1, 1) := by decide +kernel
theorem dX5_readsPerson_107 : decode cX5_readsPerson 107 = .ok (.ireturn, 1) := by decide +kernel
theorem dX5_readsItem_0 : decode cX5_readsItem 0 = .ok (.iload_n 1, 1) := by decide +kernel
theorem dX5_readsItem_1 : decode cX5_readsItem 1 = .ok (.iconst 5, 1) := by decide +kernel
theorem dX5_readsItem_2 : decode cX5_readsItem 2 = .ok (.if_icmp .ne 52, 3) := by decide +kernel
theorem dX5_readsItem_5 : decode cX5_readsItem 5 = .ok (.aload_n 0, 1) := by decide +kernel
theorem dX5_readsItem_6 : decode cX5_readsItem 6 = .ok (.getfield 16, 3) := by decide +kernel
theorem dX5_readsItem_9 : decode cX5_readsItem 9 = .ok (.bipush 37, 2) := by decide +kernel
theorem dX5_readsItem_11 : decode cX5_readsItem 11 = .ok (.iaload, 1) := by decide +kernel
theorem dX5_readsItem_12 : decode cX5_readsItem 12 = .ok (.ifCond .le 8, 3) := by decide +kernel
theorem dX5_readsItem_15 : decode cX5_readsItem 15 = .ok (.bipush (-9), 2) := by decide +kernel
theorem dX5_readsItem_17 : decode cX5_readsItem 17 = .ok (.goto 9, 3) := by decide +kernel
theorem dX5_readsItem_20 : decode cX5_readsItem 20 = .ok (.aload_n 0, 1) := by decide +kernel
theorem dX5_readsItem_21 : decode cX5_readsItem 21 = .ok (.iconst 0, 1) := by decide +kernel
theorem dX5_readsItem_22 : decode cX5_readsItem 22 = .ok (.iconst 1, 1) := by decide +kernel
theorem dX5_readsItem_23 : decode cX5_readsItem 23 = .ok (.invokevirtual 94, 3) := by decide +kernel
theorem dX5_readsItem_26 : decode cX5_readsItem 26 = .ok (.istore_n 2, 1) := by decide +kernel
theorem dX5_readsItem_27 : decode cX5_readsItem 27 = .ok (.aload_n 0, 1) := by decide +kernel
theorem dX5_readsItem_28 : decode cX5_readsItem 28 = .ok (.getfield 16, 3) := by decide +kernel
theorem dX5_readsItem_31 : decode cX5_readsItem 31 = .ok (.iconst 2, 1) := by decide +kernel
theorem dX5_readsItem_32 : decode cX5_readsItem 32 = .ok (.iload_n 2, 1) := by decide +kernel
theorem dX5_readsItem_33 : decode cX5_readsItem 33 = .ok (.iastore, 1) := by decide +kernel
theorem dX5_readsItem_34 : decode cX5_readsItem 34 = .ok (.aload_n 0, 1) := by decide +kernel
theorem dX5_readsItem_35 : decode cX5_readsItem 35 = .ok (.getfield 16, 3) := by decide +kernel
theorem dX5_readsItem_38 : decode cX5_readsItem 38 = .ok (.bipush 37, 2) := by decide +kernel
theorem dX5_readsItem_40 : decode cX5_readsItem 40 = .ok (.iconst 1, 1) := by decide +kernel
theorem dX5_readsItem_41 : decode cX5_readsItem 41 = .ok (.iastore, 1) := by decide +kernel
theorem dX5_readsItem_42 : decode cX5_readsItem 42 = .ok (.iload_n 2, 1) := by decide +kernel
theorem dX5_readsItem_43 : decode cX5_readsItem 43 = .ok (.bipush (-9), 2) := by decide +kernel
theorem dX5_readsItem_45 : decode cX5_readsItem 45 = .ok (.if_icmp .eq 7, 3) := by decide +kernel
theorem dX5_readsItem_48 : decode cX5_readsItem 48 = .ok (.iconst 1, 1) := by decide +kernel
theorem dX5_readsItem_49 : decode cX5_readsItem 49 = .ok (.goto 4, 3) := by decide +kernel
theorem dX5_readsItem_52 : decode cX5_readsItem 52 = .ok (.iconst 0, 1) := by decide +kernel
theorem dX5_readsItem_53 : decode cX5_readsItem 53 = .ok (.ireturn, 1) := by decide +kernel
theorem dX5_readsItem_54 : decode cX5_readsItem 54 = .ok (.iload_n 1, 1) := by decide +kernel
theorem dX5_readsItem_55 : decode cX5_readsItem 55 = .ok (.ifCond .ne 10, 3) := by decide +kernel
theorem dX5_readsItem_58 : decode cX5_readsItem 58 = .ok (.aload_n 0, 1) := by decide +kernel
theorem dX5_readsItem_59 : decode cX5_readsItem 59 = .ok (.invokevirtual 102, 3) := by decide +kernel
theorem dX5_readsItem_62 : decode cX5_readsItem 62 = .ok (.goto 46, 3) := by decide +kernel
theorem dX5_readsItem_65 : decode cX5_readsItem 65 = .ok (.iload_n 1, 1) := by decide +kernel
theorem dX5_readsItem_66 : decode cX5_readsItem 66 = .ok (.iconst 3, 1) := by decide +kernel
theorem dX5_readsItem_67 : decode cX5_readsItem 67 = .ok (.if_icmp .ne 10, 3) := by decide +kernel
theorem dX5_readsItem_70 : decode cX5_readsItem 70 = .ok (.aload_n 0, 1) := by decide +kernel
theorem dX5_readsItem_71 : decode cX5_readsItem 71 = .ok (.invokevirtual 106, 3) := by decide +kernel
theorem dX5_readsItem_74 : decode cX5_readsItem 74 = .ok (.goto 34, 3) := by decide +kernel
theorem dX5_readsItem_77 : decode cX5_readsItem 77 = .ok (.iload_n 1, 1) := by decide +kernel
theorem dX5_readsItem_78 : decode cX5_readsItem 78 = .ok (.iconst 4, 1) := by decide +kernel
theorem dX5_readsItem_79 : decode cX5_readsItem 79 = .ok (.if_icmp .ne 10, 3) := by decide +kernel
theorem dX5_readsItem_82 : decode cX5_readsItem 82 = .ok (.aload_n 0, 1) := by decide +kernel
theorem dX5_readsItem_83 : decode cX5_readsItem 83 = .ok (.invokevirtual 109, 3) := by decide +kernel
theorem dX5_readsItem_86 : decode cX5_readsItem 86 = .ok (.goto 22, 3) := by decide +kernel
theorem dX5_readsItem_89 : decode cX5_readsItem 89 = .ok (.iload_n 1, 1) := by decide +kernel
theorem dX5_readsItem_90 : decode cX5_readsItem 90 = .ok (.bipush (-9), 2) := by decide +kernel
theorem dX5_readsItem_92 : decode cX5_readsItem 92 = .ok (.if_icmp .eq 15, 3) := by decide +kernel
theorem dX5_readsItem_95 : decode cX5_readsItem 95 = .ok (.aload_n 0, 1) := by decide +kernel
theorem dX5_readsItem_96 : decode cX5_readsItem 96 = .ok (.iload_n 1, 1) := by decide +kernel
theorem dX5_readsItem_97 : decode cX5_readsItem 97 = .ok (.invokevirtual 112, 3) := by decide +kernel
theorem dX5_readsItem_100 : decode cX5_readsItem 100 = .ok (.ifCond .eq 7, 3) := by decide +kernel
theorem dX5_readsItem_103 : decode cX5_readsItem 103 = .ok (.iconst 1, 1) := by decide +kernel
theorem dX5_readsItem_104 : decode cX5_readsItem 104 = .ok (.goto 4, 3) := by decide +kernel
theorem dX5_readsItem_107 : decode cX5_readsItem 107 = .ok (.iconst 0, 1) := by decide +kernel
theorem dX5_readsItem_108 : decode cX5_readsItem 108 = .ok (.ireturn, 1) := by decide +kernel
theorem dX5_reads_0 : decode cX5_reads 0 = .ok (.iconst 0, 1) := by decide +kernel
theorem dX5_reads_1 : decode cX5_reads 1 = .ok (.istore_n 1, 1) := by decide +kernel
theorem dX5_reads_2 : decode cX5_reads 2 = .ok (.iload_n 1, 1) := by decide +kernel
theorem dX5_reads_3 : decode cX5_reads 3 = .ok (.bipush 43, 2) := by decide +kernel
theorem dX5_reads_5 : decode cX5_reads 5 = .ok (.if_icmp .ge 16, 3) := by decide +kernel
theorem dX5_reads_8 : decode cX5_reads 8 = .ok (.aload_n 0, 1) := by decide +kernel
theorem dX5_reads_9 : decode cX5_reads 9 = .ok (.getfield 16, 3) := by decide +kernel
theorem dX5_reads_12 : decode cX5_reads 12 = .ok (.iload_n 1, 1) := by decide +kernel
theorem dX5_reads_13 : decode cX5_reads 13 = .ok (.iconst 0, 1) := by decide +kernel
theorem dX5_reads_14 : decode cX5_reads 14 = .ok (.iastore, 1) := by decide +kernel
theorem dX5_reads_15 : decode cX5_reads 15 = .ok (.iinc 1 1, 3) := by decide +kernel
theorem dX5_reads_18 : decode cX5_reads 18 = .ok (.goto (-16), 3) := by decide +kernel
theorem dX5_reads_21 : decode cX5_reads 21 = .ok (.aload_n 0, 1) := by decide +kernel
theorem dX5_reads_22 : decode cX5_reads 22 = .ok (.getfield 16, 3) := by decide +kernel
theorem dX5_reads_25 : decode cX5_reads 25 = .ok (.iconst 0, 1) := by decide +kernel
theorem dX5_reads_26 : decode cX5_reads 26 = .ok (.iconst 4, 1) := by decide +kernel
theorem dX5_reads_27 : decode cX5_reads 27 = .ok (.iastore, 1) := by decide +kernel
theorem dX5_reads_28 : decode cX5_reads 28 = .ok (.aload_n 0, 1) := by decide +kernel
theorem dX5_reads_29 : decode cX5_reads 29 = .ok (.getfield 16, 3) := by decide +kernel
theorem dX5_reads_32 : decode cX5_reads 32 = .ok (.iconst 1, 1) := by decide +kernel
theorem dX5_reads_33 : decode cX5_reads 33 = .ok (.iconst 3, 1) := by decide +kernel
theorem dX5_reads_34 : decode cX5_reads 34 = .ok (.iastore, 1) := by decide +kernel
theorem dX5_reads_35 : decode cX5_reads 35 = .ok (.aload_n 0, 1) := by decide +kernel
theorem dX5_reads_36 : decode cX5_reads 36 = .ok (.iconst 0, 1) := by decide +kernel
theorem dX5_reads_37 : decode cX5_reads 37 = .ok (.putfield 58, 3) := by decide +kernel
theorem dX5_reads_40 : decode cX5_reads 40 = .ok (.aload_n 0, 1) := by decide +kernel
theorem dX5_reads_41 : decode cX5_reads 41 = .ok (.invokevirtual 91, 3) := by decide +kernel
theorem dX5_reads_44 : decode cX5_reads 44 = .ok (.aload_n 0, 1) := by decide +kernel
theorem dX5_reads_45 : decode cX5_reads 45 = .ok (.getfield 71, 3) := by decide +kernel
theorem dX5_reads_48 : decode cX5_reads 48 = .ok (.ifCond .eq 48, 3) := by decide +kernel
theorem dX5_reads_51 : decode cX5_reads 51 = .ok (.aload_n 0, 1) := by decide +kernel
theorem dX5_reads_52 : decode cX5_reads 52 = .ok (.aload_n 0, 1) := by decide +kernel
theorem dX5_reads_53 : decode cX5_reads 53 = .ok (.invokevirtual 116, 3) := by decide +kernel
theorem dX5_reads_56 : decode cX5_reads 56 = .ok (.invokevirtual 119, 3) := by decide +kernel
theorem dX5_reads_59 : decode cX5_reads 59 = .ok (.ifCond .ne 5, 3) := by decide +kernel
theorem dX5_reads_62 : decode cX5_reads 62 = .ok (.iconst 0, 1) := by decide +kernel
theorem dX5_reads_63 : decode cX5_reads 63 = .ok (.ireturn, 1) := by decide +kernel
theorem dX5_reads_64 : decode cX5_reads 64 = .ok (.aload_n 0, 1) := by decide +kernel
theorem dX5_reads_65 : decode cX5_reads 65 = .ok (.invokevirtual 91, 3) := by decide +kernel
theorem dX5_reads_68 : decode cX5_reads 68 = .ok (.aload_n 0, 1) := by decide +kernel
theorem dX5_reads_69 : decode cX5_reads 69 = .ok (.getfield 71, 3) := by decide +kernel
theorem dX5_reads_72 : decode cX5_reads 72 = .ok (.iconst 3, 1) := by decide +kernel
theorem dX5_reads_73 : decode cX5_reads 73 = .ok (.if_icmp .eq 5, 3) := by decide +kernel
theorem dX5_reads_76 : decode cX5_reads 76 = .ok (.iconst 0, 1) := by decide +kernel
theorem dX5_reads_77 : decode cX5_reads 77 = .ok (.ireturn, 1) := by decide +kernel
theorem dX5_reads_78 : decode cX5_reads 78 = .ok (.aload_n 0, 1) := by decide +kernel
theorem dX5_reads_79 : decode cX5_reads 79 = .ok (.getfield 16, 3) := by decide +kernel
theorem dX5_reads_82 : decode cX5_reads 82 = .ok (.bipush 38, 2) := by decide +kernel
theorem dX5_reads_84 : decode cX5_reads 84 = .ok (.dup2, 1) := by decide +kernel
theorem dX5_reads_85 : decode cX5_reads 85 = .ok (.iaload, 1) := by decide +kernel
theorem dX5_reads_86 : decode cX5_reads 86 = .ok (.iconst 1, 1) := by decide +kernel
theorem dX5_reads_87 : decode cX5_reads 87 = .ok (.iadd, 1) := by decide +kernel
theorem dX5_reads_88 : decode cX5_reads 88 = .ok (.iastore, 1) := by decide +kernel
theorem dX5_reads_89 : decode cX5_reads 89 = .ok (.aload_n 0, 1) := by decide +kernel
theorem dX5_reads_90 : decode cX5_reads 90 = .ok (.invokevirtual 91, 3) := by decide +kernel
theorem dX5_reads_93 : decode cX5_reads 93 = .ok (.goto (-49), 3) := by decide +kernel
theorem dX5_reads_96 : decode cX5_reads 96 = .ok (.iconst 1, 1) := by decide +kernel
theorem dX5_reads_97 : decode cX5_reads 97 = .ok (.ireturn, 1) := by decide +kernel
theorem dX5_hall_0 : decode cX5_hall 0 = .ok (.aload_n 0, 1) := by decide +kernel
theorem dX5_hall_1 : decode cX5_hall 1 = .ok (.invokevirtual 122, 3) := by decide +kernel
theorem dX5_hall_4 : decode cX5_hall 4 = .ok (.ifCond .ne 11, 3) := by decide +kernel
theorem dX5_hall_7 : decode cX5_hall 7 = .ok (.bipush (-10), 2) := by decide +kernel
theorem dX5_hall_9 : decode cX5_hall 9 = .ok (.aload_n 0, 1) := by decide +kernel
theorem dX5_hall_10 : decode cX5_hall 10 = .ok (.getfield 65, 3) := by decide +kernel
theorem dX5_hall_13 : decode cX5_hall 13 = .ok (.isub, 1) := by decide +kernel
theorem dX5_hall_14 : decode cX5_hall 14 = .ok (.ireturn, 1) := by decide +kernel
theorem dX5_hall_15 : decode cX5_hall 15 = .ok (.iconst 0, 1) := by decide +kernel
theorem dX5_hall_16 : decode cX5_hall 16 = .ok (.istore_n 1, 1) := by decide +kernel
theorem dX5_hall_17 : decode cX5_hall 17 = .ok (.iload_n 1, 1) := by decide +kernel
theorem dX5_hall_18 : decode cX5_hall 18 = .ok (.bipush 43, 2) := by decide +kernel
theorem dX5_hall_20 : decode cX5_hall 20 = .ok (.if_icmp .ge 21, 3) := by decide +kernel
theorem dX5_hall_23 : decode cX5_hall 23 = .ok (.aload_n 0, 1) := by decide +kernel
theorem dX5_hall_24 : decode cX5_hall 24 = .ok (.getfield 13, 3) := by decide +kernel
theorem dX5_hall_27 : decode cX5_hall 27 = .ok (.iload_n 1, 1) := by decide +kernel
theorem dX5_hall_28 : decode cX5_hall 28 = .ok (.aload_n 0, 1) := by decide +kernel
theorem dX5_hall_29 : decode cX5_hall 29 = .ok (.getfield 16, 3) := by decide +kernel
theorem dX5_hall_32 : decode cX5_hall 32 = .ok (.iload_n 1, 1) := by decide +kernel
theorem dX5_hall_33 : decode cX5_hall 33 = .ok (.iaload, 1) := by decide +kernel
theorem dX5_hall_34 : decode cX5_hall 34 = .ok (.iastore, 1) := by decide +kernel
theorem dX5_hall_35 : decode cX5_hall 35 = .ok (.iinc 1 1, 3) := by decide +kernel
theorem dX5_hall_38 : decode cX5_hall 38 = .ok (.goto (-21), 3) := by decide +kernel
theorem dX5_hall_41 : decode cX5_hall 41 = .ok (.iconst 0, 1) := by decide +kernel
theorem dX5_hall_42 : decode cX5_hall 42 = .ok (.istore_n 1, 1) := by decide +kernel
theorem dX5_hall_43 : decode cX5_hall 43 = .ok (.iload_n 1, 1) := by decide +kernel
theorem dX5_hall_44 : decode cX5_hall 44 = .ok (.bipush 38, 2) := by decide +kernel
theorem dX5_hall_46 : decode cX5_hall 46 = .ok (.if_icmp .ge 16, 3) := by decide +kernel
theorem dX5_hall_49 : decode cX5_hall 49 = .ok (.aload_n 0, 1) := by decide +kernel
theorem dX5_hall_50 : decode cX5_hall 50 = .ok (.getfield 19, 3) := by decide +kernel
theorem dX5_hall_53 : decode cX5_hall 53 = .ok (.iload_n 1, 1) := by decide +kernel
theorem dX5_hall_54 : decode cX5_hall 54 = .ok (.iconst 0, 1) := by decide +kernel
theorem dX5_hall_55 : decode cX5_hall 55 = .ok (.iastore, 1) := by decide +kernel
theorem dX5_hall_56 : decode cX5_hall 56 = .ok (.iinc 1 1, 3) := by decide +kernel
theorem dX5_hall_59 : decode cX5_hall 59 = .ok (.goto (-16), 3) := by decide +kernel
theorem dX5_hall_62 : decode cX5_hall 62 = .ok (.aload_n 0, 1) := by decide +kernel
theorem dX5_hall_63 : decode cX5_hall 63 = .ok (.getfield 25, 3) := by decide +kernel
theorem dX5_hall_66 : decode cX5_hall 66 = .ok (.iconst 0, 1) := by decide +kernel
theorem dX5_hall_67 : decode cX5_hall 67 = .ok (.iconst 0, 1) := by decide +kernel
theorem dX5_hall_68 : decode cX5_hall 68 = .ok (.bastore, 1) := by decide +kernel
theorem dX5_hall_69 : decode cX5_hall 69 = .ok (.aload_n 0, 1) := by decide +kernel
theorem dX5_hall_70 : decode cX5_hall 70 = .ok (.getfield 25, 3) := by decide +kernel
theorem dX5_hall_73 : decode cX5_hall 73 = .ok (.iconst 1, 1) := by decide +kernel
theorem dX5_hall_74 : decode cX5_hall 74 = .ok (.iconst 0, 1) := by decide +kernel
theorem dX5_hall_75 : decode cX5_hall 75 = .ok (.bastore, 1) := by decide +kernel
theorem dX5_hall_76 : decode cX5_hall 76 = .ok (.aload_n 0, 1) := by decide +kernel
theorem dX5_hall_77 : decode cX5_hall 77 = .ok (.iconst 0, 1) := by decide +kernel
theorem dX5_hall_78 : decode cX5_hall 78 = .ok (.putfield 52, 3) := by decide +kernel
theorem dX5_hall_81 : decode cX5_hall 81 = .ok (.aload_n 0, 1) := by decide +kernel
theorem dX5_hall_82 : decode cX5_hall 82 = .ok (.getfield 13, 3) := by decide +kernel
theorem dX5_hall_85 : decode cX5_hall 85 = .ok (.bipush 38, 2) := by decide +kernel
theorem dX5_hall_87 : decode cX5_hall 87 = .ok (.iaload, 1) := by decide +kernel
theorem dX5_hall_88 : decode cX5_hall 88 = .ok (.ireturn, 1) := by decide +kernel
theorem dX5_isWall_0 : decode cX5_isWall 0 = .ok (.aload_n 0, 1) := by decide +kernel
theorem dX5_isWall_1 : decode cX5_isWall 1 = .ok (.getfield 13, 3) := by decide +kernel
theorem dX5_isWall_4 : decode cX5_isWall 4 = .ok (.iconst 5, 1) := by decide +kernel
theorem dX5_isWall_5 : decode cX5_isWall 5 = .ok (.iaload, 1) := by decide +kernel
theorem dX5_isWall_6 : decode cX5_isWall 6 = .ok (.iload_n 1, 1) := by decide +kernel
theorem dX5_isWall_7 : decode cX5_isWall 7 = .ok (.ishr, 1) := by decide +kernel
theorem dX5_isWall_8 : decode cX5_isWall 8 = .ok (.iconst 1, 1) := by decide +kernel
theorem dX5_isWall_9 : decode cX5_isWall 9 = .ok (.iand, 1) := by decide +kernel
theorem dX5_isWall_10 : decode cX5_isWall 10 = .ok (.iconst 1, 1) := by decide +kernel
theorem dX5_isWall_11 : decode cX5_isWall 11 = .ok (.if_icmp .ne 7, 3) := by decide +kernel
theorem dX5_isWall_14 : decode cX5_isWall 14 = .ok (.iconst 1, 1) := by decide +kernel
theorem dX5_isWall_15 : decode cX5_isWall 15 = .ok (.goto 4, 3) := by decide +kernel
theorem dX5_isWall_18 : decode cX5_isWall 18 = .ok (.iconst 0, 1) := by decide +kernel
theorem dX5_isWall_19 : decode cX5_isWall 19 = .ok (.ireturn, 1) := by decide +kernel
theorem dX5_wider_0 : decode cX5_wider 0 = .ok (.aload_n 0, 1) := by decide +kernel
theorem dX5_wider_1 : decode cX5_wider 1 = .ok (.getfield 13, 3) := by decide +kernel
theorem dX5_wider_4 : decode cX5_wider 4 = .ok (.iconst 0, 1) := by decide +kernel
theorem dX5_wider_5 : decode cX5_wider 5 = .ok (.iaload, 1) := by decide +kernel
theorem dX5_wider_6 : decode cX5_wider 6 = .ok (.istore_n 3, 1) := by decide +kernel
theorem dX5_wider_7 : decode cX5_wider 7 = .ok (.iload_n 1, 1) := by decide +kernel
theorem dX5_wider_8 : decode cX5_wider 8 = .ok (.istore 4, 2) := by decide +kernel
theorem dX5_wider_10 : decode cX5_wider 10 = .ok (.iconst 0, 1) := by decide +kernel
theorem dX5_wider_11 : decode cX5_wider 11 = .ok (.istore 5, 2) := by decide +kernel
theorem dX5_wider_13 : decode cX5_wider 13 = .ok (.iload 5, 2) := by decide +kernel
theorem dX5_wider_15 : decode cX5_wider 15 = .ok (.aload_n 0, 1) := by decide +kernel
theorem dX5_wider_16 : decode cX5_wider 16 = .ok (.invokevirtual 44, 3) := by decide +kernel
theorem dX5_wider_19 : decode cX5_wider 19 = .ok (.if_icmp .ge 129, 3) := by decide +kernel
theorem dX5_wider_22 : decode cX5_wider 22 = .ok (.iload_n 1, 1) := by decide +kernel
theorem dX5_wider_23 : decode cX5_wider 23 = .ok (.iload 5, 2) := by decide +kernel
theorem dX5_wider_25 : decode cX5_wider 25 = .ok (.ishr, 1) := by decide +kernel
theorem dX5_wider_26 : decode cX5_wider 26 = .ok (.iconst 1, 1) := by decide +kernel
theorem dX5_wider_27 : decode cX5_wider 27 = .ok (.iand, 1) := by decide +kernel
theorem dX5_wider_28 : decode cX5_wider 28 = .ok (.iconst 1, 1) := by decide +kernel
theorem dX5_wider_29 : decode cX5_wider 29 = .ok (.if_icmp .ne 7, 3) := by decide +kernel
theorem dX5_wider_32 : decode cX5_wider 32 = .ok (.iconst 1, 1) := by decide +kernel
theorem dX5_wider_33 : decode cX5_wider 33 = .ok (.goto 4, 3) := by decide +kernel
theorem dX5_wider_36 : decode cX5_wider 36 = .ok (.iconst 0, 1) := by decide +kernel
theorem dX5_wider_37 : decode cX5_wider 37 = .ok (.istore 6, 2) := by decide +kernel
theorem dX5_wider_39 : decode cX5_wider 39 = .ok (.iload 4, 2) := by decide +kernel
theorem dX5_wider_41 : decode cX5_wider 41 = .ok (.iload 6, 2) := by decide +kernel
theorem dX5_wider_43 : decode cX5_wider 43 = .ok (.ifCond .eq 19, 3) := by decide +kernel
theorem dX5_wider_46 : decode cX5_wider 46 = .ok (.iload 5, 2) := by decide +kernel
theorem dX5_wider_48 : decode cX5_wider 48 = .ok (.iload_n 3, 1) := by decide +kernel
theorem dX5_wider_49 : decode cX5_wider 49 = .ok (.irem, 1) := by decide +kernel
theorem dX5_wider_50 : decode cX5_wider 50 = .ok (.ifCond .le 12, 3) := by decide +kernel
theorem dX5_wider_53 : decode cX5_wider 53 = .ok (.iconst 1, 1) := by decide +kernel
theorem dX5_wider_54 : decode cX5_wider 54 = .ok (.iload 5, 2) := by decide +kernel
theorem dX5_wider_56 : decode cX5_wider 56 = .ok (.iconst 1, 1) := by decide +kernel
theorem dX5_wider_57 : decode cX5_wider 57 = .ok (.isub, 1) := by decide +kernel
theorem dX5_wider_58 : decode cX5_wider 58 = .ok (.ishl, 1) := by decide +kernel
theorem dX5_wider_59 : decode cX5_wider 59 = .ok (.goto 4, 3) := by decide +kernel
theorem dX5_wider_62 : decode cX5_wider 62 = .ok (.iconst 0, 1) := by decide +kernel
theorem dX5_wider_63 : decode cX5_wider 63 = .ok (.ior, 1) := by decide +kernel
theorem dX5_wider_64 : decode cX5_wider 64 = .ok (.istore 4, 2) := by decide +kernel
theorem dX5_wider_66 : decode cX5_wider 66 = .ok (.iload 4, 2) := by decide +kernel
theorem dX5_wider_68 : decode cX5_wider 68 = .ok (.iload 6, 2) := by decide +kernel
theorem dX5_wider_70 : decode cX5_wider 70 = .ok (.ifCond .eq 22, 3) := by decide +kernel
theorem dX5_wider_73 : decode cX5_wider 73 = .ok (.iload 5, 2) := by decide +kernel
theorem dX5_wider_75 : decode cX5_wider 75 = .ok (.iload_n 3, 1) := by decide +kernel
theorem dX5_wider_76 : decode cX5_wider 76 = .ok (.irem, 1) := by decide +kernel
theorem dX5_wider_77 : decode cX5_wider 77 = .ok (.iload_n 3, 1) := by decide +kernel
theorem dX5_wider_78 : decode cX5_wider 78 = .ok (.iconst 1, 1) := by decide +kernel
theorem dX5_wider_79 : decode cX5_wider 79 = .ok (.isub, 1) := by decide +kernel
theorem dX5_wider_80 : decode cX5_wider 80 = .ok (.if_icmp .ge 12, 3) := by decide +kernel
theorem dX5_wider_83 : decode cX5_wider 83 = .ok (.iconst 1, 1) := by decide +kernel
theorem dX5_wider_84 : decode cX5_wider 84 = .ok (.iload 5, 2) := by decide +kernel
theorem dX5_wider_86 : decode cX5_wider 86 = .ok (.iconst 1, 1) := by decide +kernel
theorem dX5_wider_87 : decode cX5_wider 87 = .ok (.iadd, 1) := by decide +kernel
theorem dX5_wider_88 : decode cX5_wider 88 = .ok (.ishl, 1) := by decide +kernel
theorem dX5_wider_89 : decode cX5_wider 89 = .ok (.goto 4, 3) := by decide +kernel
theorem dX5_wider_92 : decode cX5_wider 92 = .ok (.iconst 0, 1) := by decide +kernel
theorem dX5_wider_93 : decode cX5_wider 93 = .ok (.ior, 1) := by decide +kernel
theorem dX5_wider_94 : decode cX5_wider 94 = .ok (.istore 4, 2) := by decide +kernel
theorem dX5_wider_96 : decode cX5_wider 96 = .ok (.iload 4, 2) := by decide +kernel
theorem dX5_wider_98 : decode cX5_wider 98 = .ok (.iload 6, 2) := by decide +kernel
theorem dX5_wider_100 : decode cX5_wider 100 = .ok (.ifCond .eq 18, 3) := by decide +kernel
theorem dX5_wider_103 : decode cX5_wider 103 = .ok (.iload 5, 2) := by decide +kernel
theorem dX5_wider_105 : decode cX5_wider 105 = .ok (.iload_n 3, 1) := by decide +kernel
theorem dX5_wider_106 : decode cX5_wider 106 = .ok (.if_icmp .lt 12, 3) := by decide +kernel
theorem dX5_wider_109 : decode cX5_wider 109 = .ok (.iconst 1, 1) := by decide +kernel
theorem dX5_wider_110 : decode cX5_wider 110 = .ok (.iload 5, 2) := by decide +kernel
theorem dX5_wider_112 : decode cX5_wider 112 = .ok (.iload_n 3, 1) := by decide +kernel
theorem dX5_wider_113 : decode cX5_wider 113 = .ok (.isub, 1) := by decide +kernel
theorem dX5_wider_114 : decode cX5_wider 114 = .ok (.ishl, 1) := by decide +kernel
theorem dX5_wider_115 : decode cX5_wider 115 = .ok (.goto 4, 3) := by decide +kernel
theorem dX5_wider_118 : decode cX5_wider 118 = .ok (.iconst 0, 1) := by decide +kernel
theorem dX5_wider_119 : decode cX5_wider 119 = .ok (.ior, 1) := by decide +kernel
theorem dX5_wider_120 : decode cX5_wider 120 = .ok (.istore 4, 2) := by decide +kernel
theorem dX5_wider_122 : decode cX5_wider 122 = .ok (.iload 4, 2) := by decide +kernel
theorem dX5_wider_124 : decode cX5_wider 124 = .ok (.iload 6, 2) := by decide +kernel
theorem dX5_wider_126 : decode cX5_wider 126 = .ok (.ifCond .eq 12, 3) := by decide +kernel
theorem dX5_wider_129 : decode cX5_wider 129 = .ok (.iconst 1, 1) := by decide +kernel
theorem dX5_wider_130 : decode cX5_wider 130 = .ok (.iload 5, 2) := by decide +kernel
theorem dX5_wider_132 : decode cX5_wider 132 = .ok (.iload_n 3, 1) := by decide +kernel
theorem dX5_wider_133 : decode cX5_wider 133 = .ok (.iadd, 1) := by decide +kernel
theorem dX5_wider_134 : decode cX5_wider 134 = .ok (.ishl, 1) := by decide +kernel
theorem dX5_wider_135 : decode cX5_wider 135 = .ok (.goto 4, 3) := by decide +kernel
theorem dX5_wider_138 : decode cX5_wider 138 = .ok (.iconst 0, 1) := by decide +kernel
theorem dX5_wider_139 : decode cX5_wider 139 = .ok (.ior, 1) := by decide +kernel
theorem dX5_wider_140 : decode cX5_wider 140 = .ok (.istore 4, 2) := by decide +kernel
theorem dX5_wider_142 : decode cX5_wider 142 = .ok (.iinc 5 1, 3) := by decide +kernel
theorem dX5_wider_145 : decode cX5_wider 145 = .ok (.goto (-132), 3) := by decide +kernel
theorem dX5_wider_148 : decode cX5_wider 148 = .ok (.iload_n 1, 1) := by decide +kernel
theorem dX5_wider_149 : decode cX5_wider 149 = .ok (.iload 4, 2) := by decide +kernel
theorem dX5_wider_151 : decode cX5_wider 151 = .ok (.iload_n 2, 1) := by decide +kernel
theorem dX5_wider_152 : decode cX5_wider 152 = .ok (.iand, 1) := by decide +kernel
theorem dX5_wider_153 : decode cX5_wider 153 = .ok (.ior, 1) := by decide +kernel
theorem dX5_wider_154 : decode cX5_wider 154 = .ok (.ireturn, 1) := by decide +kernel
theorem dX5_shines_0 : decode cX5_shines 0 = .ok (.iconst 1, 1) := by decide +kernel
theorem dX5_shines_1 : decode cX5_shines 1 = .ok (.aload_n 0, 1) := by decide +kernel
theorem dX5_shines_2 : decode cX5_shines 2 = .ok (.invokevirtual 44, 3) := by decide +kernel
theorem dX5_shines_5 : decode cX5_shines 5 = .ok (.ishl, 1) := by decide +kernel
theorem dX5_shines_6 : decode cX5_shines 6 = .ok (.iconst 1, 1) := by decide +kernel
theorem dX5_shines_7 : decode cX5_shines 7 = .ok (.isub, 1) := by decide +kernel
theorem dX5_shines_8 : decode cX5_shines 8 = .ok (.aload_n 0, 1) := by decide +kernel
theorem dX5_shines_9 : decode cX5_shines 9 = .ok (.getfield 13, 3) := by decide +kernel
theorem dX5_shines_12 : decode cX5_shines 12 = .ok (.iconst 5, 1) := by decide +kernel
theorem dX5_shines_13 : decode cX5_shines 13 = .ok (.iaload, 1) := by decide +kernel
theorem dX5_shines_14 : decode cX5_shines 14 = .ok (.iconst (-1), 1) := by decide +kernel
theorem dX5_shines_15 : decode cX5_shines 15 = .ok (.ixor, 1) := by decide +kernel
theorem dX5_shines_16 : decode cX5_shines 16 = .ok (.iand, 1) := by decide +kernel
theorem dX5_shines_17 : decode cX5_shines 17 = .ok (.istore_n 3, 1) := by decide +kernel
theorem dX5_shines_18 : decode cX5_shines 18 = .ok (.iconst 1, 1) := by decide +kernel
theorem dX5_shines_19 : decode cX5_shines 19 = .ok (.iload_n 1, 1) := by decide +kernel
theorem dX5_shines_20 : decode cX5_shines 20 = .ok (.ishl, 1) := by decide +kernel
theorem dX5_shines_21 : decode cX5_shines 21 = .ok (.istore 4, 2) := by decide +kernel
theorem dX5_shines_23 : decode cX5_shines 23 = .ok (.iconst 0, 1) := by decide +kernel
theorem dX5_shines_24 : decode cX5_shines 24 = .ok (.istore 5, 2) := by decide +kernel
theorem dX5_shines_26 : decode cX5_shines 26 = .ok (.iload 5, 2) := by decide +kernel
theorem dX5_shines_28 : decode cX5_shines 28 = .ok (.iload_n 2, 1) := by decide +kernel
theorem dX5_shines_29 : decode cX5_shines 29 = .ok (.if_icmp .ge 18, 3) := by decide +kernel
theorem dX5_shines_32 : decode cX5_shines 32 = .ok (.aload_n 0, 1) := by decide +kernel
theorem dX5_shines_33 : decode cX5_shines 33 = .ok (.iload 4, 2) := by decide +kernel
theorem dX5_shines_35 : decode cX5_shines 35 = .ok (.iload_n 3, 1) := by decide +kernel
theorem dX5_shines_36 : decode cX5_shines 36 = .ok (.invokevirtual 125, 3) := by decide +kernel
theorem dX5_shines_39 : decode cX5_shines 39 = .ok (.istore 4, 2) := by decide +kernel
theorem dX5_shines_41 : decode cX5_shines 41 = .ok (.iinc 5 1, 3) := by decide +kernel
theorem dX5_shines_44 : decode cX5_shines 44 = .ok (.goto (-18), 3) := by decide +kernel
theorem dX5_shines_47 : decode cX5_shines 47 = .ok (.iload 4, 2) := by decide +kernel
theorem dX5_shines_49 : decode cX5_shines 49 = .ok (.ireturn, 1) := by decide +kernel
theorem dX5_toDoors_0 : decode cX5_toDoors 0 = .ok (.iload_n 1, 1) := by decide +kernel
theorem dX5_toDoors_1 : decode cX5_toDoors 1 = .ok (.aload_n 0, 1) := by decide +kernel
theorem dX5_toDoors_2 : decode cX5_toDoors 2 = .ok (.getfield 13, 3) := by decide +kernel
theorem dX5_toDoors_5 : decode cX5_toDoors 5 = .ok (.bipush 6, 2) := by decide +kernel
theorem dX5_toDoors_7 : decode cX5_toDoors 7 = .ok (.iaload, 1) := by decide +kernel
theorem dX5_toDoors_8 : decode cX5_toDoors 8 = .ok (.iand, 1) := by decide +kernel
theorem dX5_toDoors_9 : decode cX5_toDoors 9 = .ok (.istore_n 2, 1) := by decide +kernel
theorem dX5_toDoors_10 : decode cX5_toDoors 10 = .ok (.iconst 1, 1) := by decide +kernel
theorem dX5_toDoors_11 : decode cX5_toDoors 11 = .ok (.istore_n 3, 1) := by decide +kernel
theorem dX5_toDoors_12 : decode cX5_toDoors 12 = .ok (.iload_n 3, 1) := by decide +kernel
theorem dX5_toDoors_13 : decode cX5_toDoors 13 = .ok (.ifCond .eq 29, 3) := by decide +kernel
theorem dX5_toDoors_16 : decode cX5_toDoors 16 = .ok (.aload_n 0, 1) := by decide +kernel
theorem dX5_toDoors_17 : decode cX5_toDoors 17 = .ok (.iload_n 2, 1) := by decide +kernel
theorem dX5_toDoors_18 : decode cX5_toDoors 18 = .ok (.iload_n 1, 1) := by decide +kernel
theorem dX5_toDoors_19 : decode cX5_toDoors 19 = .ok (.invokevirtual 125, 3) := by decide +kernel
theorem dX5_toDoors_22 : decode cX5_toDoors 22 = .ok (.istore 4, 2) := by decide +kernel
theorem dX5_toDoors_24 : decode cX5_toDoors 24 = .ok (.iload 4, 2) := by decide +kernel
theorem dX5_toDoors_26 : decode cX5_toDoors 26 = .ok (.iload_n 2, 1) := by decide +kernel
theorem dX5_toDoors_27 : decode cX5_toDoors 27 = .ok (.if_icmp .eq 7, 3) := by decide +kernel
theorem dX5_toDoors_30 : decode cX5_toDoors 30 = .ok (.iconst 1, 1) := by decide +kernel
theorem dX5_toDoors_31 : decode cX5_toDoors 31 = .ok (.goto 4, 3) := by decide +kernel
theorem dX5_toDoors_34 : decode cX5_toDoors 34 = .ok (.iconst 0, 1) := by decide +kernel
theorem dX5_toDoors_35 : decode cX5_toDoors 35 = .ok (.istore_n 3, 1) := by decide +kernel
theorem dX5_toDoors_36 : decode cX5_toDoors 36 = .ok (.iload 4, 2) := by decide +kernel
theorem dX5_toDoors_38 : decode cX5_toDoors 38 = .ok (.istore_n 2, 1) := by decide +kernel
theorem dX5_toDoors_39 : decode cX5_toDoors 39 = .ok (.goto (-27), 3) := by decide +kernel
theorem dX5_toDoors_42 : decode cX5_toDoors 42 = .ok (.iload_n 2, 1) := by decide +kernel
theorem dX5_toDoors_43 : decode cX5_toDoors 43 = .ok (.ireturn, 1) := by decide +kernel
theorem dX5_many_0 : decode cX5_many 0 = .ok (.iload_n 1, 1) := by decide +kernel
theorem dX5_many_1 : decode cX5_many 1 = .ok (.ifCond .eq 14, 3) := by decide +kernel
theorem dX5_many_4 : decode cX5_many 4 = .ok (.iconst 2, 1) := by decide +kernel
theorem dX5_many_5 : decode cX5_many 5 = .ok (.aload_n 0, 1) := by decide +kernel
theorem dX5_many_6 : decode cX5_many 6 = .ok (.invokevirtual 128, 3) := by decide +kernel
theorem dX5_many_9 : decode cX5_many 9 = .ok (.imul, 1) := by decide +kernel
theorem dX5_many_10 : decode cX5_many 10 = .ok (.iconst 2, 1) := by decide +kernel
theorem dX5_many_11 : decode cX5_many 11 = .ok (.iadd, 1) := by decide +kernel
theorem dX5_many_12 : decode cX5_many 12 = .ok (.goto 9, 3) := by decide +kernel
theorem dX5_many_15 : decode cX5_many 15 = .ok (.aload_n 0, 1) := by decide +kernel
theorem dX5_many_16 : decode cX5_many 16 = .ok (.invokevirtual 128, 3) := by decide +kernel
theorem dX5_many_19 : decode cX5_many 19 = .ok (.iconst 1, 1) := by decide +kernel
theorem dX5_many_20 : decode cX5_many 20 = .ok (.iadd, 1) := by decide +kernel
theorem dX5_many_21 : decode cX5_many 21 = .ok (.ireturn, 1) := by decide +kernel
theorem dX5_litOf_0 : decode cX5_litOf 0 = .ok (.iload_n 1, 1) := by decide +kernel
theorem dX5_litOf_1 : decode cX5_litOf 1 = .ok (.aload_n 0, 1) := by decide +kernel
theorem dX5_litOf_2 : decode cX5_litOf 2 = .ok (.invokevirtual 128, 3) := by decide +kernel
theorem dX5_litOf_5 : decode cX5_litOf 5 = .ok (.if_icmp .gt 7, 3) := by decide +kernel
theorem dX5_litOf_8 : decode cX5_litOf 8 = .ok (.iload_n 1, 1) := by decide +kernel
theorem dX5_litOf_9 : decode cX5_litOf 9 = .ok (.goto 14, 3) := by decide +kernel
theorem dX5_litOf_12 : decode cX5_litOf 12 = .ok (.bipush 64, 2) := by decide +kernel
theorem dX5_litOf_14 : decode cX5_litOf 14 = .ok (.iload_n 1, 1) := by decide +kernel
theorem dX5_litOf_15 : decode cX5_litOf 15 = .ok (.aload_n 0, 1) := by decide +kernel
theorem dX5_litOf_16 : decode cX5_litOf 16 = .ok (.invokevirtual 128, 3) := by decide +kernel
theorem dX5_litOf_19 : decode cX5_litOf 19 = .ok (.isub, 1) := by decide +kernel
theorem dX5_litOf_20 : decode cX5_litOf 20 = .ok (.iconst 1, 1) := by decide +kernel
theorem dX5_litOf_21 : decode cX5_litOf 21 = .ok (.isub, 1) := by decide +kernel
theorem dX5_litOf_22 : decode cX5_litOf 22 = .ok (.ior, 1) := by decide +kernel
theorem dX5_litOf_23 : decode cX5_litOf 23 = .ok (.ireturn, 1) := by decide +kernel
theorem dX5_lights_0 : decode cX5_lights 0 = .ok (.iconst 0, 1) := by decide +kernel
theorem dX5_lights_1 : decode cX5_lights 1 = .ok (.istore_n 2, 1) := by decide +kernel
theorem dX5_lights_2 : decode cX5_lights 2 = .ok (.iload_n 2, 1) := by decide +kernel
theorem dX5_lights_3 : decode cX5_lights 3 = .ok (.aload_n 0, 1) := by decide +kernel
theorem dX5_lights_4 : decode cX5_lights 4 = .ok (.getfield 13, 3) := by decide +kernel
theorem dX5_lights_7 : decode cX5_lights 7 = .ok (.iconst 3, 1) := by decide +kernel
theorem dX5_lights_8 : decode cX5_lights 8 = .ok (.iaload, 1) := by decide +kernel
theorem dX5_lights_9 : decode cX5_lights 9 = .ok (.if_icmp .ge 37, 3) := by decide +kernel
theorem dX5_lights_12 : decode cX5_lights 12 = .ok (.aload_n 0, 1) := by decide +kernel
theorem dX5_lights_13 : decode cX5_lights 13 = .ok (.getfield 35, 3) := by decide +kernel
theorem dX5_lights_16 : decode cX5_lights 16 = .ok (.iload_n 2, 1) := by decide +kernel
theorem dX5_lights_17 : decode cX5_lights 17 = .ok (.aload_n 0, 1) := by decide +kernel
theorem dX5_lights_18 : decode cX5_lights 18 = .ok (.aload_n 0, 1) := by decide +kernel
theorem dX5_lights_19 : decode cX5_lights 19 = .ok (.getfield 13, 3) := by decide +kernel
theorem dX5_lights_22 : decode cX5_lights 22 = .ok (.bipush 7, 2) := by decide +kernel
theorem dX5_lights_24 : decode cX5_lights 24 = .ok (.iload_n 2, 1) := by decide +kernel
theorem dX5_lights_25 : decode cX5_lights 25 = .ok (.iadd, 1) := by decide +kernel
theorem dX5_lights_26 : decode cX5_lights 26 = .ok (.iaload, 1) := by decide +kernel
theorem dX5_lights_27 : decode cX5_lights 27 = .ok (.aload_n 0, 1) := by decide +kernel
theorem dX5_lights_28 : decode cX5_lights 28 = .ok (.getfield 13, 3) := by decide +kernel
theorem dX5_lights_31 : decode cX5_lights 31 = .ok (.bipush 13, 2) := by decide +kernel
theorem dX5_lights_33 : decode cX5_lights 33 = .ok (.iload_n 2, 1) := by decide +kernel
theorem dX5_lights_34 : decode cX5_lights 34 = .ok (.iadd, 1) := by decide +kernel
theorem dX5_lights_35 : decode cX5_lights 35 = .ok (.iaload, 1) := by decide +kernel
theorem dX5_lights_36 : decode cX5_lights 36 = .ok (.invokevirtual 131, 3) := by decide +kernel
theorem dX5_lights_39 : decode cX5_lights 39 = .ok (.iastore, 1) := by decide +kernel
theorem dX5_lights_40 : decode cX5_lights 40 = .ok (.iinc 2 1, 3) := by decide +kernel
theorem dX5_lights_43 : decode cX5_lights 43 = .ok (.goto (-41), 3) := by decide +kernel
theorem dX5_lights_46 : decode cX5_lights 46 = .ok (.aload_n 0, 1) := by decide +kernel
theorem dX5_lights_47 : decode cX5_lights 47 = .ok (.getfield 35, 3) := by decide +kernel
theorem dX5_lights_50 : decode cX5_lights 50 = .ok (.bipush 6, 2) := by decide +kernel
theorem dX5_lights_52 : decode cX5_lights 52 = .ok (.iload_n 1, 1) := by decide +kernel
theorem dX5_lights_53 : decode cX5_lights 53 = .ok (.iastore, 1) := by decide +kernel
theorem dX5_lights_54 : decode cX5_lights 54 = .ok (.iconst 0, 1) := by decide +kernel
theorem dX5_lights_55 : decode cX5_lights 55 = .ok (.istore_n 2, 1) := by decide +kernel
theorem dX5_lights_56 : decode cX5_lights 56 = .ok (.iload_n 2, 1) := by decide +kernel
theorem dX5_lights_57 : decode cX5_lights 57 = .ok (.aload_n 0, 1) := by decide +kernel
theorem dX5_lights_58 : decode cX5_lights 58 = .ok (.iload_n 1, 1) := by decide +kernel
theorem dX5_lights_59 : decode cX5_lights 59 = .ok (.ifCond .eq 7, 3) := by decide +kernel
theorem dX5_lights_62 : decode cX5_lights 62 = .ok (.iconst 1, 1) := by decide +kernel
theorem dX5_lights_63 : decode cX5_lights 63 = .ok (.goto 4, 3) := by decide +kernel
theorem dX5_lights_66 : decode cX5_lights 66 = .ok (.iconst 0, 1) := by decide +kernel
theorem dX5_lights_67 : decode cX5_lights 67 = .ok (.invokevirtual 134, 3) := by decide +kernel
theorem dX5_lights_70 : decode cX5_lights 70 = .ok (.if_icmp .ge 154, 3) := by decide +kernel
theorem dX5_lights_73 : decode cX5_lights 73 = .ok (.aload_n 0, 1) := by decide +kernel
theorem dX5_lights_74 : decode cX5_lights 74 = .ok (.iload_n 2, 1) := by decide +kernel
theorem dX5_lights_75 : decode cX5_lights 75 = .ok (.invokevirtual 137, 3) := by decide +kernel
theorem dX5_lights_78 : decode cX5_lights 78 = .ok (.istore_n 3, 1) := by decide +kernel
theorem dX5_lights_79 : decode cX5_lights 79 = .ok (.iconst 0, 1) := by decide +kernel
theorem dX5_lights_80 : decode cX5_lights 80 = .ok (.istore 4, 2) := by decide +kernel
theorem dX5_lights_82 : decode cX5_lights 82 = .ok (.iconst 0, 1) := by decide +kernel
theorem dX5_lights_83 : decode cX5_lights 83 = .ok (.istore 5, 2) := by decide +kernel
theorem dX5_lights_85 : decode cX5_lights 85 = .ok (.iload 5, 2) := by decide +kernel
theorem dX5_lights_87 : decode cX5_lights 87 = .ok (.bipush 6, 2) := by decide +kernel
theorem dX5_lights_89 : decode cX5_lights 89 = .ok (.if_icmp .gt 35, 3) := by decide +kernel
theorem dX5_lights_92 : decode cX5_lights 92 = .ok (.iload 4, 2) := by decide +kernel
theorem dX5_lights_94 : decode cX5_lights 94 = .ok (.iload_n 3, 1) := by decide +kernel
theorem dX5_lights_95 : decode cX5_lights 95 = .ok (.iload 5, 2) := by decide +kernel
theorem dX5_lights_97 : decode cX5_lights 97 = .ok (.ishr, 1) := by decide +kernel
theorem dX5_lights_98 : decode cX5_lights 98 = .ok (.iconst 1, 1) := by decide +kernel
theorem dX5_lights_99 : decode cX5_lights 99 = .ok (.iand, 1) := by decide +kernel
theorem dX5_lights_100 : decode cX5_lights 100 = .ok (.iconst 1, 1) := by decide +kernel
theorem dX5_lights_101 : decode cX5_lights 101 = .ok (.if_icmp .ne 13, 3) := by decide +kernel
theorem dX5_lights_104 : decode cX5_lights 104 = .ok (.aload_n 0, 1) := by decide +kernel
theorem dX5_lights_105 : decode cX5_lights 105 = .ok (.getfield 35, 3) := by decide +kernel
theorem dX5_lights_108 : decode cX5_lights 108 = .ok (.iload 5, 2) := by decide +kernel
theorem dX5_lights_110 : decode cX5_lights 110 = .ok (.iaload, 1) := by decide +kernel
theorem dX5_lights_111 : decode cX5_lights 111 = .ok (.goto 4, 3) := by decide +kernel
theorem dX5_lights_114 : decode cX5_lights 114 = .ok (.iconst 0, 1) := by decide +kernel
theorem dX5_lights_115 : decode cX5_lights 115 = .ok (.ior, 1) := by decide +kernel
theorem dX5_lights_116 : decode cX5_lights 116 = .ok (.istore 4, 2) := by decide +kernel
theorem dX5_lights_118 : decode cX5_lights 118 = .ok (.iinc 5 1, 3) := by decide +kernel
theorem dX5_lights_121 : decode cX5_lights 121 = .ok (.goto (-36), 3) := by decide +kernel
theorem dX5_lights_124 : decode cX5_lights 124 = .ok (.aload_n 0, 1) := by decide +kernel
theorem dX5_lights_125 : decode cX5_lights 125 = .ok (.getfield 29, 3) := by decide +kernel
theorem dX5_lights_128 : decode cX5_lights 128 = .ok (.iload_n 3, 1) := by decide +kernel
theorem dX5_lights_129 : decode cX5_lights 129 = .ok (.iload 4, 2) := by decide +kernel
theorem dX5_lights_131 : decode cX5_lights 131 = .ok (.iastore, 1) := by decide +kernel
theorem dX5_lights_132 : decode cX5_lights 132 = .ok (.aload_n 0, 1) := by decide +kernel
theorem dX5_lights_133 : decode cX5_lights 133 = .ok (.getfield 13, 3) := by decide +kernel
theorem dX5_lights_136 : decode cX5_lights 136 = .ok (.iconst 2, 1) := by decide +kernel
theorem dX5_lights_137 : decode cX5_lights 137 = .ok (.iaload, 1) := by decide +kernel
theorem dX5_lights_138 : decode cX5_lights 138 = .ok (.iconst 1, 1) := by decide +kernel
theorem dX5_lights_139 : decode cX5_lights 139 = .ok (.if_icmp .ne 12, 3) := by decide +kernel
theorem dX5_lights_142 : decode cX5_lights 142 = .ok (.aload_n 0, 1) := by decide +kernel
theorem dX5_lights_143 : decode cX5_lights 143 = .ok (.iload 4, 2) := by decide +kernel
theorem dX5_lights_145 : decode cX5_lights 145 = .ok (.invokevirtual 140, 3) := by decide +kernel
theorem dX5_lights_148 : decode cX5_lights 148 = .ok (.goto 5, 3) := by decide +kernel
theorem dX5_lights_151 : decode cX5_lights 151 = .ok (.iload 4, 2) := by decide +kernel
theorem dX5_lights_153 : decode cX5_lights 153 = .ok (.istore 5, 2) := by decide +kernel
theorem dX5_lights_155 : decode cX5_lights 155 = .ok (.aload_n 0, 1) := by decide +kernel
theorem dX5_lights_156 : decode cX5_lights 156 = .ok (.getfield 32, 3) := by decide +kernel
theorem dX5_lights_159 : decode cX5_lights 159 = .ok (.iload_n 3, 1) := by decide +kernel
theorem dX5_lights_160 : decode cX5_lights 160 = .ok (.iconst 0, 1) := by decide +kernel
theorem dX5_lights_161 : decode cX5_lights 161 = .ok (.iastore, 1) := by decide +kernel
theorem dX5_lights_162 : decode cX5_lights 162 = .ok (.iconst 0, 1) := by decide +kernel
theorem dX5_lights_163 : decode cX5_lights 163 = .ok (.istore 6, 2) := by decide +kernel
theorem dX5_lights_165 : decode cX5_lights 165 = .ok (.iload 6, 2) := by decide +kernel
theorem dX5_lights_167 : decode cX5_lights 167 = .ok (.aload_n 0, 1) := by decide +kernel
theorem dX5_lights_168 : decode cX5_lights 168 = .ok (.getfield 13, 3) := by decide +kernel
theorem dX5_lights_171 : decode cX5_lights 171 = .ok (.iconst 4, 1) := by decide +kernel
theorem dX5_lights_172 : decode cX5_lights 172 = .ok (.iaload, 1) := by decide +kernel
theorem dX5_lights_173 : decode cX5_lights 173 = .ok (.if_icmp .ge 45, 3) := by decide +kernel
theorem dX5_lights_176 : decode cX5_lights 176 = .ok (.aload_n 0, 1) := by decide +kernel
theorem dX5_lights_177 : decode cX5_lights 177 = .ok (.getfield 32, 3) := by decide +kernel
theorem dX5_lights_180 : decode cX5_lights 180 = .ok (.iload_n 3, 1) := by decide +kernel
theorem dX5_lights_181 : decode cX5_lights 181 = .ok (.dup2, 1) := by decide +kernel
theorem dX5_lights_182 : decode cX5_lights 182 = .ok (.iaload, 1) := by decide +kernel
theorem dX5_lights_183 : decode cX5_lights 183 = .ok (.iload 5, 2) := by decide +kernel
theorem dX5_lights_185 : decode cX5_lights 185 = .ok (.aload_n 0, 1) := by decide +kernel
theorem dX5_lights_186 : decode cX5_lights 186 = .ok (.getfield 13, 3) := by decide +kernel
theorem dX5_lights_189 : decode cX5_lights 189 = .ok (.bipush 19, 2) := by decide +kernel
theorem dX5_lights_191 : decode cX5_lights 191 = .ok (.iload 6, 2) := by decide +kernel
theorem dX5_lights_193 : decode cX5_lights 193 = .ok (.iadd, 1) := by decide +kernel
theorem dX5_lights_194 : decode cX5_lights 194 = .ok (.iaload, 1) := by decide +kernel
theorem dX5_lights_195 : decode cX5_lights 195 = .ok (.ishr, 1) := by decide +kernel
theorem dX5_lights_196 : decode cX5_lights 196 = .ok (.iconst 1, 1) := by decide +kernel
theorem dX5_lights_197 : decode cX5_lights 197 = .ok (.iand, 1) := by decide +kernel
theorem dX5_lights_198 : decode cX5_lights 198 = .ok (.iconst 1, 1) := by decide +kernel
theorem dX5_lights_199 : decode cX5_lights 199 = .ok (.if_icmp .ne 10, 3) := by decide +kernel
theorem dX5_lights_202 : decode cX5_lights 202 = .ok (.iconst 1, 1) := by decide +kernel
theorem dX5_lights_203 : decode cX5_lights 203 = .ok (.iload 6, 2) := by decide +kernel
theorem dX5_lights_205 : decode cX5_lights 205 = .ok (.ishl, 1) := by decide +kernel
theorem dX5_lights_206 : decode cX5_lights 206 = .ok (.goto 4, 3) := by decide +kernel
theorem dX5_lights_209 : decode cX5_lights 209 = .ok (.iconst 0, 1) := by decide +kernel
theorem dX5_lights_210 : decode cX5_lights 210 = .ok (.ior, 1) := by decide +kernel
theorem dX5_lights_211 : decode cX5_lights 211 = .ok (.iastore, 1) := by decide +kernel
theorem dX5_lights_212 : decode cX5_lights 212 = .ok (.iinc 6 1, 3) := by decide +kernel
theorem dX5_lights_215 : decode cX5_lights 215 = .ok (.goto (-50), 3) := by decide +kernel
theorem dX5_lights_218 : decode cX5_lights 218 = .ok (.iinc 2 1, 3) := by decide +kernel
theorem dX5_lights_221 : decode cX5_lights 221 = .ok (.goto (-165), 3) := by decide +kernel
theorem dX5_lights_224 : decode cX5_lights 224 = .ok (.return_, 1) := by decide +kernel
theorem dX5_gone_0 : decode cX5_gone 0 = .ok (.iconst 0, 1) := by decide +kernel
theorem dX5_gone_1 : decode cX5_gone 1 = .ok (.istore_n 1, 1) := by decide +kernel
theorem dX5_gone_2 : decode cX5_gone 2 = .ok (.iconst 0, 1) := by decide +kernel
theorem dX5_gone_3 : decode cX5_gone 3 = .ok (.istore_n 2, 1) := by decide +kernel
theorem dX5_gone_4 : decode cX5_gone 4 = .ok (.iload_n 2, 1) := by decide +kernel
theorem dX5_gone_5 : decode cX5_gone 5 = .ok (.aload_n 0, 1) := by decide +kernel
theorem dX5_gone_6 : decode cX5_gone 6 = .ok (.getfield 19, 3) := by decide +kernel
theorem dX5_gone_9 : decode cX5_gone 9 = .ok (.iconst 0, 1) := by decide +kernel
theorem dX5_gone_10 : decode cX5_gone 10 = .ok (.iaload, 1) := by decide +kernel
theorem dX5_gone_11 : decode cX5_gone 11 = .ok (.if_icmp .ge 22, 3) := by decide +kernel
theorem dX5_gone_14 : decode cX5_gone 14 = .ok (.iload_n 1, 1) := by decide +kernel
theorem dX5_gone_15 : decode cX5_gone 15 = .ok (.iconst 1, 1) := by decide +kernel
theorem dX5_gone_16 : decode cX5_gone 16 = .ok (.aload_n 0, 1) := by decide +kernel
theorem dX5_gone_17 : decode cX5_gone 17 = .ok (.getfield 19, 3) := by decide +kernel
theorem dX5_gone_20 : decode cX5_gone 20 = .ok (.iconst 1, 1) := by decide +kernel
theorem dX5_gone_21 : decode cX5_gone 21 = .ok (.iload_n 2, 1) := by decide +kernel
theorem dX5_gone_22 : decode cX5_gone 22 = .ok (.iadd, 1) := by decide +kernel
theorem dX5_gone_23 : decode cX5_gone 23 = .ok (.iaload, 1) := by decide +kernel
theorem dX5_gone_24 : decode cX5_gone 24 = .ok (.ishl, 1) := by decide +kernel
theorem dX5_gone_25 : decode cX5_gone 25 = .ok (.ior, 1) := by decide +kernel
theorem dX5_gone_26 : decode cX5_gone 26 = .ok (.istore_n 1, 1) := by decide +kernel
theorem dX5_gone_27 : decode cX5_gone 27 = .ok (.iinc 2 1, 3) := by decide +kernel
theorem dX5_gone_30 : decode cX5_gone 30 = .ok (.goto (-26), 3) := by decide +kernel
theorem dX5_gone_33 : decode cX5_gone 33 = .ok (.iload_n 1, 1) := by decide +kernel
theorem dX5_gone_34 : decode cX5_gone 34 = .ok (.ireturn, 1) := by decide +kernel
theorem dX5_all_0 : decode cX5_all 0 = .ok (.iconst 1, 1) := by decide +kernel
theorem dX5_all_1 : decode cX5_all 1 = .ok (.aload_n 0, 1) := by decide +kernel
theorem dX5_all_2 : decode cX5_all 2 = .ok (.getfield 13, 3) := by decide +kernel
theorem dX5_all_5 : decode cX5_all 5 = .ok (.iconst 4, 1) := by decide +kernel
theorem dX5_all_6 : decode cX5_all 6 = .ok (.iaload, 1) := by decide +kernel
theorem dX5_all_7 : decode cX5_all 7 = .ok (.ishl, 1) := by decide +kernel
theorem dX5_all_8 : decode cX5_all 8 = .ok (.iconst 1, 1) := by decide +kernel
theorem dX5_all_9 : decode cX5_all 9 = .ok (.isub, 1) := by decide +kernel
theorem dX5_all_10 : decode cX5_all 10 = .ok (.ireturn, 1) := by decide +kernel
theorem dX5_allLit_0 : decode cX5_allLit 0 = .ok (.iconst 1, 1) := by decide +kernel
theorem dX5_allLit_1 : decode cX5_allLit 1 = .ok (.aload_n 0, 1) := by decide +kernel
theorem dX5_allLit_2 : decode cX5_allLit 2 = .ok (.getfield 13, 3) := by decide +kernel
theorem dX5_allLit_5 : decode cX5_allLit 5 = .ok (.iconst 3, 1) := by decide +kernel
theorem dX5_allLit_6 : decode cX5_allLit 6 = .ok (.iaload, 1) := by decide +kernel
theorem dX5_allLit_7 : decode cX5_allLit 7 = .ok (.ishl, 1) := by decide +kernel
theorem dX5_allLit_8 : decode cX5_allLit 8 = .ok (.iconst 1, 1) := by decide +kernel
theorem dX5_allLit_9 : decode cX5_allLit 9 = .ok (.isub, 1) := by decide +kernel
theorem dX5_allLit_10 : decode cX5_allLit 10 = .ok (.ireturn, 1) := by decide +kernel
theorem dX5_lit_0 : decode cX5_lit 0 = .ok (.aload_n 0, 1) := by decide +kernel
theorem dX5_lit_1 : decode cX5_lit 1 = .ok (.invokevirtual 128, 3) := by decide +kernel
theorem dX5_lit_4 : decode cX5_lit 4 = .ok (.istore_n 1, 1) := by decide +kernel
theorem dX5_lit_5 : decode cX5_lit 5 = .ok (.iconst 0, 1) := by decide +kernel
theorem dX5_lit_6 : decode cX5_lit 6 = .ok (.istore_n 2, 1) := by decide +kernel
theorem dX5_lit_7 : decode cX5_lit 7 = .ok (.iload_n 2, 1) := by decide +kernel
theorem dX5_lit_8 : decode cX5_lit 8 = .ok (.aload_n 0, 1) := by decide +kernel
theorem dX5_lit_9 : decode cX5_lit 9 = .ok (.getfield 19, 3) := by decide +kernel
theorem dX5_lit_12 : decode cX5_lit 12 = .ok (.iconst 0, 1) := by decide +kernel
theorem dX5_lit_13 : decode cX5_lit 13 = .ok (.iaload, 1) := by decide +kernel
theorem dX5_lit_14 : decode cX5_lit 14 = .ok (.if_icmp .ge 25, 3) := by decide +kernel
theorem dX5_lit_17 : decode cX5_lit 17 = .ok (.iload_n 1, 1) := by decide +kernel
theorem dX5_lit_18 : decode cX5_lit 18 = .ok (.iconst 1, 1) := by decide +kernel
theorem dX5_lit_19 : decode cX5_lit 19 = .ok (.aload_n 0, 1) := by decide +kernel
theorem dX5_lit_20 : decode cX5_lit 20 = .ok (.getfield 19, 3) := by decide +kernel
theorem dX5_lit_23 : decode cX5_lit 23 = .ok (.bipush 7, 2) := by decide +kernel
theorem dX5_lit_25 : decode cX5_lit 25 = .ok (.iload_n 2, 1) := by decide +kernel
theorem dX5_lit_26 : decode cX5_lit 26 = .ok (.iadd, 1) := by decide +kernel
theorem dX5_lit_27 : decode cX5_lit 27 = .ok (.iaload, 1) := by decide +kernel
theorem dX5_lit_28 : decode cX5_lit 28 = .ok (.ishl, 1) := by decide +kernel
theorem dX5_lit_29 : decode cX5_lit 29 = .ok (.iconst (-1), 1) := by decide +kernel
theorem dX5_lit_30 : decode cX5_lit 30 = .ok (.ixor, 1) := by decide +kernel
theorem dX5_lit_31 : decode cX5_lit 31 = .ok (.iand, 1) := by decide +kernel
theorem dX5_lit_32 : decode cX5_lit 32 = .ok (.istore_n 1, 1) := by decide +kernel
theorem dX5_lit_33 : decode cX5_lit 33 = .ok (.iinc 2 1, 3) := by decide +kernel
theorem dX5_lit_36 : decode cX5_lit 36 = .ok (.goto (-29), 3) := by decide +kernel
theorem dX5_lit_39 : decode cX5_lit 39 = .ok (.iload_n 1, 1) := by decide +kernel
theorem dX5_lit_40 : decode cX5_lit 40 = .ok (.ireturn, 1) := by decide +kernel
theorem dX5_ones_0 : decode cX5_ones 0 = .ok (.iconst 0, 1) := by decide +kernel
theorem dX5_ones_1 : decode cX5_ones 1 = .ok (.istore_n 1, 1) := by decide +kernel
theorem dX5_ones_2 : decode cX5_ones 2 = .ok (.iconst 0, 1) := by decide +kernel
theorem dX5_ones_3 : decode cX5_ones 3 = .ok (.istore_n 2, 1) := by decide +kernel
theorem dX5_ones_4 : decode cX5_ones 4 = .ok (.iload_n 2, 1) := by decide +kernel
theorem dX5_ones_5 : decode cX5_ones 5 = .ok (.bipush 12, 2) := by decide +kernel
theorem dX5_ones_7 : decode cX5_ones 7 = .ok (.if_icmp .ge 17, 3) := by decide +kernel
theorem dX5_ones_10 : decode cX5_ones 10 = .ok (.iload_n 1, 1) := by decide +kernel
theorem dX5_ones_11 : decode cX5_ones 11 = .ok (.iload_n 0, 1) := by decide +kernel
theorem dX5_ones_12 : decode cX5_ones 12 = .ok (.iload_n 2, 1) := by decide +kernel
theorem dX5_ones_13 : decode cX5_ones 13 = .ok (.ishr, 1) := by decide +kernel
theorem dX5_ones_14 : decode cX5_ones 14 = .ok (.iconst 1, 1) := by decide +kernel
theorem dX5_ones_15 : decode cX5_ones 15 = .ok (.iand, 1) := by decide +kernel
theorem dX5_ones_16 : decode cX5_ones 16 = .ok (.iadd, 1) := by decide +kernel
theorem dX5_ones_17 : decode cX5_ones 17 = .ok (.istore_n 1, 1) := by decide +kernel
theorem dX5_ones_18 : decode cX5_ones 18 = .ok (.iinc 2 1, 3) := by decide +kernel
theorem dX5_ones_21 : decode cX5_ones 21 = .ok (.goto (-17), 3) := by decide +kernel
theorem dX5_ones_24 : decode cX5_ones 24 = .ok (.iload_n 1, 1) := by decide +kernel
theorem dX5_ones_25 : decode cX5_ones 25 = .ok (.ireturn, 1) := by decide +kernel
theorem dX5_cell_0 : decode cX5_cell 0 = .ok (.aload_n 0, 1) := by decide +kernel
theorem dX5_cell_1 : decode cX5_cell 1 = .ok (.iload_n 1, 1) := by decide +kernel
theorem dX5_cell_2 : decode cX5_cell 2 = .ok (.invokevirtual 143, 3) := by decide +kernel
theorem dX5_cell_5 : decode cX5_cell 5 = .ok (.ifCond .eq 12, 3) := by decide +kernel
theorem dX5_cell_8 : decode cX5_cell 8 = .ok (.iload_n 2, 1) := by decide +kernel
theorem dX5_cell_9 : decode cX5_cell 9 = .ok (.iconst 0, 1) := by decide +kernel
theorem dX5_cell_10 : decode cX5_cell 10 = .ok (.iconst 2, 1) := by decide +kernel
theorem dX5_cell_11 : decode cX5_cell 11 = .ok (.invokestatic 48, 3) := by decide +kernel
theorem dX5_cell_14 : decode cX5_cell 14 = .ok (.ifCond .ne 5, 3) := by decide +kernel
theorem dX5_cell_17 : decode cX5_cell 17 = .ok (.iconst (-1), 1) := by decide +kernel
theorem dX5_cell_18 : decode cX5_cell 18 = .ok (.ireturn, 1) := by decide +kernel
theorem dX5_cell_19 : decode cX5_cell 19 = .ok (.aload_n 0, 1) := by decide +kernel
theorem dX5_cell_20 : decode cX5_cell 20 = .ok (.iconst 0, 1) := by decide +kernel
theorem dX5_cell_21 : decode cX5_cell 21 = .ok (.invokevirtual 146, 3) := by decide +kernel
theorem dX5_cell_24 : decode cX5_cell 24 = .ok (.iload_n 2, 1) := by decide +kernel
theorem dX5_cell_25 : decode cX5_cell 25 = .ok (.ifCond .ne 16, 3) := by decide +kernel
theorem dX5_cell_28 : decode cX5_cell 28 = .ok (.aload_n 0, 1) := by decide +kernel
theorem dX5_cell_29 : decode cX5_cell 29 = .ok (.getfield 13, 3) := by decide +kernel
theorem dX5_cell_32 : decode cX5_cell 32 = .ok (.iconst 5, 1) := by decide +kernel
theorem dX5_cell_33 : decode cX5_cell 33 = .ok (.iaload, 1) := by decide +kernel
theorem dX5_cell_34 : decode cX5_cell 34 = .ok (.iload_n 1, 1) := by decide +kernel
theorem dX5_cell_35 : decode cX5_cell 35 = .ok (.ishr, 1) := by decide +kernel
theorem dX5_cell_36 : decode cX5_cell 36 = .ok (.iconst 1, 1) := by decide +kernel
theorem dX5_cell_37 : decode cX5_cell 37 = .ok (.iand, 1) := by decide +kernel
theorem dX5_cell_38 : decode cX5_cell 38 = .ok (.goto 35, 3) := by decide +kernel
theorem dX5_cell_41 : decode cX5_cell 41 = .ok (.iload_n 2, 1) := by decide +kernel
theorem dX5_cell_42 : decode cX5_cell 42 = .ok (.iconst 1, 1) := by decide +kernel
theorem dX5_cell_43 : decode cX5_cell 43 = .ok (.if_icmp .ne 17, 3) := by decide +kernel
theorem dX5_cell_46 : decode cX5_cell 46 = .ok (.aload_n 0, 1) := by decide +kernel
theorem dX5_cell_47 : decode cX5_cell 47 = .ok (.getfield 13, 3) := by decide +kernel
theorem dX5_cell_50 : decode cX5_cell 50 = .ok (.bipush 6, 2) := by decide +kernel
theorem dX5_cell_52 : decode cX5_cell 52 = .ok (.iaload, 1) := by decide +kernel
theorem dX5_cell_53 : decode cX5_cell 53 = .ok (.iload_n 1, 1) := by decide +kernel
theorem dX5_cell_54 : decode cX5_cell 54 = .ok (.ishr, 1) := by decide +kernel
theorem dX5_cell_55 : decode cX5_cell 55 = .ok (.iconst 1, 1) := by decide +kernel
theorem dX5_cell_56 : decode cX5_cell 56 = .ok (.iand, 1) := by decide +kernel
theorem dX5_cell_57 : decode cX5_cell 57 = .ok (.goto 16, 3) := by decide +kernel
theorem dX5_cell_60 : decode cX5_cell 60 = .ok (.aload_n 0, 1) := by decide +kernel
theorem dX5_cell_61 : decode cX5_cell 61 = .ok (.getfield 29, 3) := by decide +kernel
theorem dX5_cell_64 : decode cX5_cell 64 = .ok (.aload_n 0, 1) := by decide +kernel
theorem dX5_cell_65 : decode cX5_cell 65 = .ok (.invokevirtual 150, 3) := by decide +kernel
theorem dX5_cell_68 : decode cX5_cell 68 = .ok (.iaload, 1) := by decide +kernel
theorem dX5_cell_69 : decode cX5_cell 69 = .ok (.iload_n 1, 1) := by decide +kernel
theorem dX5_cell_70 : decode cX5_cell 70 = .ok (.ishr, 1) := by decide +kernel
theorem dX5_cell_71 : decode cX5_cell 71 = .ok (.iconst 1, 1) := by decide +kernel
theorem dX5_cell_72 : decode cX5_cell 72 = .ok (.iand, 1) := by decide +kernel
theorem dX5_cell_73 : decode cX5_cell 73 = .ok (.ireturn, 1) := by decide +kernel
theorem dX5_lamp_0 : decode cX5_lamp 0 = .ok (.aload_n 0, 1) := by decide +kernel
theorem dX5_lamp_1 : decode cX5_lamp 1 = .ok (.iload_n 1, 1) := by decide +kernel
theorem dX5_lamp_2 : decode cX5_lamp 2 = .ok (.invokevirtual 153, 3) := by decide +kernel
theorem dX5_lamp_5 : decode cX5_lamp 5 = .ok (.ifCond .eq 12, 3) := by decide +kernel
theorem dX5_lamp_8 : decode cX5_lamp 8 = .ok (.iload_n 2, 1) := by decide +kernel
theorem dX5_lamp_9 : decode cX5_lamp 9 = .ok (.iconst 0, 1) := by decide +kernel
theorem dX5_lamp_10 : decode cX5_lamp 10 = .ok (.iconst 3, 1) := by decide +kernel
theorem dX5_lamp_11 : decode cX5_lamp 11 = .ok (.invokestatic 48, 3) := by decide +kernel
theorem dX5_lamp_14 : decode cX5_lamp 14 = .ok (.ifCond .ne 5, 3) := by decide +kernel
theorem dX5_lamp_17 : decode cX5_lamp 17 = .ok (.iconst (-1), 1) := by decide +kernel
theorem dX5_lamp_18 : decode cX5_lamp 18 = .ok (.ireturn, 1) := by decide +kernel
theorem dX5_lamp_19 : decode cX5_lamp 19 = .ok (.iload_n 2, 1) := by decide +kernel
theorem dX5_lamp_20 : decode cX5_lamp 20 = .ok (.ifCond .ne 15, 3) := by decide +kernel
theorem dX5_lamp_23 : decode cX5_lamp 23 = .ok (.aload_n 0, 1) := by decide +kernel
theorem dX5_lamp_24 : decode cX5_lamp 24 = .ok (.getfield 13, 3) := by decide +kernel
theorem dX5_lamp_27 : decode cX5_lamp 27 = .ok (.bipush 7, 2) := by decide +kernel
theorem dX5_lamp_29 : decode cX5_lamp 29 = .ok (.iload_n 1, 1) := by decide +kernel
theorem dX5_lamp_30 : decode cX5_lamp 30 = .ok (.iadd, 1) := by decide +kernel
theorem dX5_lamp_31 : decode cX5_lamp 31 = .ok (.iaload, 1) := by decide +kernel
theorem dX5_lamp_32 : decode cX5_lamp 32 = .ok (.goto 58, 3) := by decide +kernel
theorem dX5_lamp_35 : decode cX5_lamp 35 = .ok (.iload_n 2, 1) := by decide +kernel
theorem dX5_lamp_36 : decode cX5_lamp 36 = .ok (.iconst 1, 1) := by decide +kernel
theorem dX5_lamp_37 : decode cX5_lamp 37 = .ok (.if_icmp .ne 15, 3) := by decide +kernel
theorem dX5_lamp_40 : decode cX5_lamp 40 = .ok (.aload_n 0, 1) := by decide +kernel
theorem dX5_lamp_41 : decode cX5_lamp 41 = .ok (.getfield 13, 3) := by decide +kernel
theorem dX5_lamp_44 : decode cX5_lamp 44 = .ok (.bipush 13, 2) := by decide +kernel
theorem dX5_lamp_46 : decode cX5_lamp 46 = .ok (.iload_n 1, 1) := by decide +kernel
theorem dX5_lamp_47 : decode cX5_lamp 47 = .ok (.iadd, 1) := by decide +kernel
theorem dX5_lamp_48 : decode cX5_lamp 48 = .ok (.iaload, 1) := by decide +kernel
theorem dX5_lamp_49 : decode cX5_lamp 49 = .ok (.goto 41, 3) := by decide +kernel
theorem dX5_lamp_52 : decode cX5_lamp 52 = .ok (.iload_n 2, 1) := by decide +kernel
theorem dX5_lamp_53 : decode cX5_lamp 53 = .ok (.iconst 2, 1) := by decide +kernel
theorem dX5_lamp_54 : decode cX5_lamp 54 = .ok (.if_icmp .ne 14, 3) := by decide +kernel
theorem dX5_lamp_57 : decode cX5_lamp 57 = .ok (.aload_n 0, 1) := by decide +kernel
theorem dX5_lamp_58 : decode cX5_lamp 58 = .ok (.invokevirtual 150, 3) := by decide +kernel
theorem dX5_lamp_61 : decode cX5_lamp 61 = .ok (.iload_n 1, 1) := by decide +kernel
theorem dX5_lamp_62 : decode cX5_lamp 62 = .ok (.ishr, 1) := by decide +kernel
theorem dX5_lamp_63 : decode cX5_lamp 63 = .ok (.iconst 1, 1) := by decide +kernel
theorem dX5_lamp_64 : decode cX5_lamp 64 = .ok (.iand, 1) := by decide +kernel
theorem dX5_lamp_65 : decode cX5_lamp 65 = .ok (.goto 25, 3) := by decide +kernel
theorem dX5_lamp_68 : decode cX5_lamp 68 = .ok (.aload_n 0, 1) := by decide +kernel
theorem dX5_lamp_69 : decode cX5_lamp 69 = .ok (.aload_n 0, 1) := by decide +kernel
theorem dX5_lamp_70 : decode cX5_lamp 70 = .ok (.getfield 13, 3) := by decide +kernel
theorem dX5_lamp_73 : decode cX5_lamp 73 = .ok (.bipush 7, 2) := by decide +kernel
theorem dX5_lamp_75 : decode cX5_lamp 75 = .ok (.iload_n 1, 1) := by decide +kernel
theorem dX5_lamp_76 : decode cX5_lamp 76 = .ok (.iadd, 1) := by decide +kernel
theorem dX5_lamp_77 : decode cX5_lamp 77 = .ok (.iaload, 1) := by decide +kernel
theorem dX5_lamp_78 : decode cX5_lamp 78 = .ok (.aload_n 0, 1) := by decide +kernel
theorem dX5_lamp_79 : decode cX5_lamp 79 = .ok (.getfield 13, 3) := by decide +kernel
theorem dX5_lamp_82 : decode cX5_lamp 82 = .ok (.bipush 13, 2) := by decide +kernel
theorem dX5_lamp_84 : decode cX5_lamp 84 = .ok (.iload_n 1, 1) := by decide +kernel
theorem dX5_lamp_85 : decode cX5_lamp 85 = .ok (.iadd, 1) := by decide +kernel
theorem dX5_lamp_86 : decode cX5_lamp 86 = .ok (.iaload, 1) := by decide +kernel
theorem dX5_lamp_87 : decode cX5_lamp 87 = .ok (.invokevirtual 131, 3) := by decide +kernel
theorem dX5_lamp_90 : decode cX5_lamp 90 = .ok (.ireturn, 1) := by decide +kernel
theorem dX5_person_0 : decode cX5_person 0 = .ok (.aload_n 0, 1) := by decide +kernel
theorem dX5_person_1 : decode cX5_person 1 = .ok (.iload_n 1, 1) := by decide +kernel
theorem dX5_person_2 : decode cX5_person 2 = .ok (.invokevirtual 156, 3) := by decide +kernel
theorem dX5_person_5 : decode cX5_person 5 = .ok (.ifCond .eq 12, 3) := by decide +kernel
theorem dX5_person_8 : decode cX5_person 8 = .ok (.iload_n 2, 1) := by decide +kernel
theorem dX5_person_9 : decode cX5_person 9 = .ok (.iconst 0, 1) := by decide +kernel
theorem dX5_person_10 : decode cX5_person 10 = .ok (.iconst 3, 1) := by decide +kernel
theorem dX5_person_11 : decode cX5_person 11 = .ok (.invokestatic 48, 3) := by decide +kernel
theorem dX5_person_14 : decode cX5_person 14 = .ok (.ifCond .ne 5, 3) := by decide +kernel
theorem dX5_person_17 : decode cX5_person 17 = .ok (.iconst (-1), 1) := by decide +kernel
theorem dX5_person_18 : decode cX5_person 18 = .ok (.ireturn, 1) := by decide +kernel
theorem dX5_person_19 : decode cX5_person 19 = .ok (.bipush (-9), 2) := by decide +kernel
theorem dX5_person_21 : decode cX5_person 21 = .ok (.istore_n 3, 1) := by decide +kernel
theorem dX5_person_22 : decode cX5_person 22 = .ok (.iconst 0, 1) := by decide +kernel
theorem dX5_person_23 : decode cX5_person 23 = .ok (.istore 4, 2) := by decide +kernel
theorem dX5_person_25 : decode cX5_person 25 = .ok (.iload 4, 2) := by decide +kernel
theorem dX5_person_27 : decode cX5_person 27 = .ok (.aload_n 0, 1) := by decide +kernel
theorem dX5_person_28 : decode cX5_person 28 = .ok (.getfield 19, 3) := by decide +kernel
theorem dX5_person_31 : decode cX5_person 31 = .ok (.iconst 0, 1) := by decide +kernel
theorem dX5_person_32 : decode cX5_person 32 = .ok (.iaload, 1) := by decide +kernel
theorem dX5_person_33 : decode cX5_person 33 = .ok (.if_icmp .ge 29, 3) := by decide +kernel
theorem dX5_person_36 : decode cX5_person 36 = .ok (.aload_n 0, 1) := by decide +kernel
theorem dX5_person_37 : decode cX5_person 37 = .ok (.getfield 19, 3) := by decide +kernel
theorem dX5_person_40 : decode cX5_person 40 = .ok (.iconst 1, 1) := by decide +kernel
theorem dX5_person_41 : decode cX5_person 41 = .ok (.iload 4, 2) := by decide +kernel
theorem dX5_person_43 : decode cX5_person 43 = .ok (.iadd, 1) := by decide +kernel
theorem dX5_person_44 : decode cX5_person 44 = .ok (.iaload, 1) := by decide +kernel
theorem dX5_person_45 : decode cX5_person 45 = .ok (.iload_n 1, 1) := by decide +kernel
theorem dX5_person_46 : decode cX5_person 46 = .ok (.if_icmp .ne 8, 3) := by decide +kernel
theorem dX5_person_49 : decode cX5_person 49 = .ok (.iload 4, 2) := by decide +kernel
theorem dX5_person_51 : decode cX5_person 51 = .ok (.goto 4, 3) := by decide +kernel
theorem dX5_person_54 : decode cX5_person 54 = .ok (.iload_n 3, 1) := by decide +kernel
theorem dX5_person_55 : decode cX5_person 55 = .ok (.istore_n 3, 1) := by decide +kernel
theorem dX5_person_56 : decode cX5_person 56 = .ok (.iinc 4 1, 3) := by decide +kernel
theorem dX5_person_59 : decode cX5_person 59 = .ok (.goto (-34), 3) := by decide +kernel
theorem dX5_person_62 : decode cX5_person 62 = .ok (.iload_n 2, 1) := by decide +kernel
theorem dX5_person_63 : decode cX5_person 63 = .ok (.iconst 3, 1) := by decide +kernel
theorem dX5_person_64 : decode cX5_person 64 = .ok (.if_icmp .ge 20, 3) := by decide +kernel
theorem dX5_person_67 : decode cX5_person 67 = .ok (.aload_n 0, 1) := by decide +kernel
theorem dX5_person_68 : decode cX5_person 68 = .ok (.getfield 13, 3) := by decide +kernel
theorem dX5_person_71 : decode cX5_person 71 = .ok (.bipush 19, 2) := by decide +kernel
theorem dX5_person_73 : decode cX5_person 73 = .ok (.bipush 6, 2) := by decide +kernel
theorem dX5_person_75 : decode cX5_person 75 = .ok (.iload_n 2, 1) := by decide +kernel
theorem dX5_person_76 : decode cX5_person 76 = .ok (.imul, 1) := by decide +kernel
theorem dX5_person_77 : decode cX5_person 77 = .ok (.iadd, 1) := by decide +kernel
theorem dX5_person_78 : decode cX5_person 78 = .ok (.iload_n 1, 1) := by decide +kernel
theorem dX5_person_79 : decode cX5_person 79 = .ok (.iadd, 1) := by decide +kernel
theorem dX5_person_80 : decode cX5_person 80 = .ok (.iaload, 1) := by decide +kernel
theorem dX5_person_81 : decode cX5_person 81 = .ok (.goto 4, 3) := by decide +kernel
theorem dX5_person_84 : decode cX5_person 84 = .ok (.iload_n 3, 1) := by decide +kernel
theorem dX5_person_85 : decode cX5_person 85 = .ok (.ireturn, 1) := by decide +kernel
theorem dX5_can_0 : decode cX5_can 0 = .ok (.aload_n 0, 1) := by decide +kernel
theorem dX5_can_1 : decode cX5_can 1 = .ok (.iload_n 1, 1) := by decide +kernel
theorem dX5_can_2 : decode cX5_can 2 = .ok (.invokevirtual 156, 3) := by decide +kernel
theorem dX5_can_5 : decode cX5_can 5 = .ok (.ifCond .ne 5, 3) := by decide +kernel
theorem dX5_can_8 : decode cX5_can 8 = .ok (.iconst (-1), 1) := by decide +kernel
theorem dX5_can_9 : decode cX5_can 9 = .ok (.ireturn, 1) := by decide +kernel
theorem dX5_can_10 : decode cX5_can 10 = .ok (.aload_n 0, 1) := by decide +kernel
theorem dX5_can_11 : decode cX5_can 11 = .ok (.invokevirtual 159, 3) := by decide +kernel
theorem dX5_can_14 : decode cX5_can 14 = .ok (.iload_n 1, 1) := by decide +kernel
theorem dX5_can_15 : decode cX5_can 15 = .ok (.ishr, 1) := by decide +kernel
theorem dX5_can_16 : decode cX5_can 16 = .ok (.iconst 1, 1) := by decide +kernel
theorem dX5_can_17 : decode cX5_can 17 = .ok (.iand, 1) := by decide +kernel
theorem dX5_can_18 : decode cX5_can 18 = .ok (.iconst 1, 1) := by decide +kernel
theorem dX5_can_19 : decode cX5_can 19 = .ok (.if_icmp .ne 6, 3) := by decide +kernel
theorem dX5_can_22 : decode cX5_can 22 = .ok (.bipush (-2), 2) := by decide +kernel
theorem dX5_can_24 : decode cX5_can 24 = .ok (.ireturn, 1) := by decide +kernel
theorem dX5_can_25 : decode cX5_can 25 = .ok (.aload_n 0, 1) := by decide +kernel
theorem dX5_can_26 : decode cX5_can 26 = .ok (.iconst 0, 1) := by decide +kernel
theorem dX5_can_27 : decode cX5_can 27 = .ok (.invokevirtual 146, 3) := by decide +kernel
theorem dX5_can_30 : decode cX5_can 30 = .ok (.aload_n 0, 1) := by decide +kernel
theorem dX5_can_31 : decode cX5_can 31 = .ok (.getfield 32, 3) := by decide +kernel
theorem dX5_can_34 : decode cX5_can 34 = .ok (.aload_n 0, 1) := by decide +kernel
theorem dX5_can_35 : decode cX5_can 35 = .ok (.invokevirtual 150, 3) := by decide +kernel
theorem dX5_can_38 : decode cX5_can 38 = .ok (.iaload, 1) := by decide +kernel
theorem dX5_can_39 : decode cX5_can 39 = .ok (.iload_n 1, 1) := by decide +kernel
theorem dX5_can_40 : decode cX5_can 40 = .ok (.ishr, 1) := by decide +kernel
theorem dX5_can_41 : decode cX5_can 41 = .ok (.iconst 1, 1) := by decide +kernel
theorem dX5_can_42 : decode cX5_can 42 = .ok (.iand, 1) := by decide +kernel
theorem dX5_can_43 : decode cX5_can 43 = .ok (.ireturn, 1) := by decide +kernel
theorem dX5_leaves_0 : decode cX5_leaves 0 = .ok (.aload_n 0, 1) := by decide +kernel
theorem dX5_leaves_1 : decode cX5_leaves 1 = .ok (.iload_n 1, 1) := by decide +kernel
theorem dX5_leaves_2 : decode cX5_leaves 2 = .ok (.invokevirtual 156, 3) := by decide +kernel
theorem dX5_leaves_5 : decode cX5_leaves 5 = .ok (.ifCond .eq 11, 3) := by decide +kernel
theorem dX5_leaves_8 : decode cX5_leaves 8 = .ok (.aload_n 0, 1) := by decide +kernel
theorem dX5_leaves_9 : decode cX5_leaves 9 = .ok (.iload_n 2, 1) := by decide +kernel
theorem dX5_leaves_10 : decode cX5_leaves 10 = .ok (.invokevirtual 153, 3) := by decide +kernel
theorem dX5_leaves_13 : decode cX5_leaves 13 = .ok (.ifCond .ne 5, 3) := by decide +kernel
theorem dX5_leaves_16 : decode cX5_leaves 16 = .ok (.iconst (-1), 1) := by decide +kernel
theorem dX5_leaves_17 : decode cX5_leaves 17 = .ok (.ireturn, 1) := by decide +kernel
theorem dX5_leaves_18 : decode cX5_leaves 18 = .ok (.aload_n 0, 1) := by decide +kernel
theorem dX5_leaves_19 : decode cX5_leaves 19 = .ok (.iconst 0, 1) := by decide +kernel
theorem dX5_leaves_20 : decode cX5_leaves 20 = .ok (.invokevirtual 146, 3) := by decide +kernel
theorem dX5_leaves_23 : decode cX5_leaves 23 = .ok (.aload_n 0, 1) := by decide +kernel
theorem dX5_leaves_24 : decode cX5_leaves 24 = .ok (.invokevirtual 159, 3) := by decide +kernel
theorem dX5_leaves_27 : decode cX5_leaves 27 = .ok (.iload_n 1, 1) := by decide +kernel
theorem dX5_leaves_28 : decode cX5_leaves 28 = .ok (.ishr, 1) := by decide +kernel
theorem dX5_leaves_29 : decode cX5_leaves 29 = .ok (.iconst 1, 1) := by decide +kernel
theorem dX5_leaves_30 : decode cX5_leaves 30 = .ok (.iand, 1) := by decide +kernel
theorem dX5_leaves_31 : decode cX5_leaves 31 = .ok (.iconst 1, 1) := by decide +kernel
theorem dX5_leaves_32 : decode cX5_leaves 32 = .ok (.if_icmp .eq 30, 3) := by decide +kernel
theorem dX5_leaves_35 : decode cX5_leaves 35 = .ok (.aload_n 0, 1) := by decide +kernel
theorem dX5_leaves_36 : decode cX5_leaves 36 = .ok (.getfield 32, 3) := by decide +kernel
theorem dX5_leaves_39 : decode cX5_leaves 39 = .ok (.aload_n 0, 1) := by decide +kernel
theorem dX5_leaves_40 : decode cX5_leaves 40 = .ok (.invokevirtual 150, 3) := by decide +kernel
theorem dX5_leaves_43 : decode cX5_leaves 43 = .ok (.iaload, 1) := by decide +kernel
theorem dX5_leaves_44 : decode cX5_leaves 44 = .ok (.iload_n 1, 1) := by decide +kernel
theorem dX5_leaves_45 : decode cX5_leaves 45 = .ok (.ishr, 1) := by decide +kernel
theorem dX5_leaves_46 : decode cX5_leaves 46 = .ok (.iconst 1, 1) := by decide +kernel
theorem dX5_leaves_47 : decode cX5_leaves 47 = .ok (.iand, 1) := by decide +kernel
theorem dX5_leaves_48 : decode cX5_leaves 48 = .ok (.ifCond .eq 14, 3) := by decide +kernel
theorem dX5_leaves_51 : decode cX5_leaves 51 = .ok (.aload_n 0, 1) := by decide +kernel
theorem dX5_leaves_52 : decode cX5_leaves 52 = .ok (.invokevirtual 150, 3) := by decide +kernel
theorem dX5_leaves_55 : decode cX5_leaves 55 = .ok (.iload_n 2, 1) := by decide +kernel
theorem dX5_leaves_56 : decode cX5_leaves 56 = .ok (.ishr, 1) := by decide +kernel
theorem dX5_leaves_57 : decode cX5_leaves 57 = .ok (.iconst 1, 1) := by decide +kernel
theorem dX5_leaves_58 : decode cX5_leaves 58 = .ok (.iand, 1) := by decide +kernel
theorem dX5_leaves_59 : decode cX5_leaves 59 = .ok (.ifCond .ne 6, 3) := by decide +kernel
theorem dX5_leaves_62 : decode cX5_leaves 62 = .ok (.bipush (-2), 2) := by decide +kernel
theorem dX5_leaves_64 : decode cX5_leaves 64 = .ok (.ireturn, 1) := by decide +kernel
theorem dX5_leaves_65 : decode cX5_leaves 65 = .ok (.aload_n 0, 1) := by decide +kernel
theorem dX5_leaves_66 : decode cX5_leaves 66 = .ok (.getfield 19, 3) := by decide +kernel
theorem dX5_leaves_69 : decode cX5_leaves 69 = .ok (.iconst 1, 1) := by decide +kernel
theorem dX5_leaves_70 : decode cX5_leaves 70 = .ok (.aload_n 0, 1) := by decide +kernel
theorem dX5_leaves_71 : decode cX5_leaves 71 = .ok (.getfield 19, 3) := by decide +kernel
theorem dX5_leaves_74 : decode cX5_leaves 74 = .ok (.iconst 0, 1) := by decide +kernel
theorem dX5_leaves_75 : decode cX5_leaves 75 = .ok (.iaload, 1) := by decide +kernel
theorem dX5_leaves_76 : decode cX5_leaves 76 = .ok (.iadd, 1) := by decide +kernel
theorem dX5_leaves_77 : decode cX5_leaves 77 = .ok (.iload_n 1, 1) := by decide +kernel
theorem dX5_leaves_78 : decode cX5_leaves 78 = .ok (.iastore, 1) := by decide +kernel
theorem dX5_leaves_79 : decode cX5_leaves 79 = .ok (.aload_n 0, 1) := by decide +kernel
theorem dX5_leaves_80 : decode cX5_leaves 80 = .ok (.getfield 19, 3) := by decide +kernel
theorem dX5_leaves_83 : decode cX5_leaves 83 = .ok (.bipush 7, 2) := by decide +kernel
theorem dX5_leaves_85 : decode cX5_leaves 85 = .ok (.aload_n 0, 1) := by decide +kernel
theorem dX5_leaves_86 : decode cX5_leaves 86 = .ok (.getfield 19, 3) := by decide +kernel
theorem dX5_leaves_89 : decode cX5_leaves 89 = .ok (.iconst 0, 1) := by decide +kernel
theorem dX5_leaves_90 : decode cX5_leaves 90 = .ok (.iaload, 1) := by decide +kernel
theorem dX5_leaves_91 : decode cX5_leaves 91 = .ok (.iadd, 1) := by decide +kernel
theorem dX5_leaves_92 : decode cX5_leaves 92 = .ok (.iload_n 2, 1) := by decide +kernel
theorem dX5_leaves_93 : decode cX5_leaves 93 = .ok (.iastore, 1) := by decide +kernel
theorem dX5_leaves_94 : decode cX5_leaves 94 = .ok (.aload_n 0, 1) := by decide +kernel
theorem dX5_leaves_95 : decode cX5_leaves 95 = .ok (.getfield 19, 3) := by decide +kernel
theorem dX5_leaves_98 : decode cX5_leaves 98 = .ok (.iconst 0, 1) := by decide +kernel
theorem dX5_leaves_99 : decode cX5_leaves 99 = .ok (.dup2, 1) := by decide +kernel
theorem dX5_leaves_100 : decode cX5_leaves 100 = .ok (.iaload, 1) := by decide +kernel
theorem dX5_leaves_101 : decode cX5_leaves 101 = .ok (.iconst 1, 1) := by decide +kernel
theorem dX5_leaves_102 : decode cX5_leaves 102 = .ok (.iadd, 1) := by decide +kernel
theorem dX5_leaves_103 : decode cX5_leaves 103 = .ok (.iastore, 1) := by decide +kernel
theorem dX5_leaves_104 : decode cX5_leaves 104 = .ok (.aload_n 0, 1) := by decide +kernel
theorem dX5_leaves_105 : decode cX5_leaves 105 = .ok (.getfield 19, 3) := by decide +kernel
theorem dX5_leaves_108 : decode cX5_leaves 108 = .ok (.iconst 0, 1) := by decide +kernel
theorem dX5_leaves_109 : decode cX5_leaves 109 = .ok (.iaload, 1) := by decide +kernel
theorem dX5_leaves_110 : decode cX5_leaves 110 = .ok (.ireturn, 1) := by decide +kernel
theorem dX5_undo_0 : decode cX5_undo 0 = .ok (.aload_n 0, 1) := by decide +kernel
theorem dX5_undo_1 : decode cX5_undo 1 = .ok (.getfield 19, 3) := by decide +kernel
theorem dX5_undo_4 : decode cX5_undo 4 = .ok (.iconst 0, 1) := by decide +kernel
theorem dX5_undo_5 : decode cX5_undo 5 = .ok (.iaload, 1) := by decide +kernel
theorem dX5_undo_6 : decode cX5_undo 6 = .ok (.ifCond .ne 6, 3) := by decide +kernel
theorem dX5_undo_9 : decode cX5_undo 9 = .ok (.bipush (-2), 2) := by decide +kernel
theorem dX5_undo_11 : decode cX5_undo 11 = .ok (.ireturn, 1) := by decide +kernel
theorem dX5_undo_12 : decode cX5_undo 12 = .ok (.aload_n 0, 1) := by decide +kernel
theorem dX5_undo_13 : decode cX5_undo 13 = .ok (.getfield 19, 3) := by decide +kernel
theorem dX5_undo_16 : decode cX5_undo 16 = .ok (.iconst 0, 1) := by decide +kernel
theorem dX5_undo_17 : decode cX5_undo 17 = .ok (.dup2, 1) := by decide +kernel
theorem dX5_undo_18 : decode cX5_undo 18 = .ok (.iaload, 1) := by decide +kernel
theorem dX5_undo_19 : decode cX5_undo 19 = .ok (.iconst 1, 1) := by decide +kernel
theorem dX5_undo_20 : decode cX5_undo 20 = .ok (.isub, 1) := by decide +kernel
theorem dX5_undo_21 : decode cX5_undo 21 = .ok (.iastore, 1) := by decide +kernel
theorem dX5_undo_22 : decode cX5_undo 22 = .ok (.aload_n 0, 1) := by decide +kernel
theorem dX5_undo_23 : decode cX5_undo 23 = .ok (.getfield 19, 3) := by decide +kernel
theorem dX5_undo_26 : decode cX5_undo 26 = .ok (.iconst 0, 1) := by decide +kernel
theorem dX5_undo_27 : decode cX5_undo 27 = .ok (.iaload, 1) := by decide +kernel
theorem dX5_undo_28 : decode cX5_undo 28 = .ok (.ireturn, 1) := by decide +kernel
theorem dX5_state_0 : decode cX5_state 0 = .ok (.sipush 128, 3) := by decide +kernel
theorem dX5_state_3 : decode cX5_state 3 = .ok (.iload_n 0, 1) := by decide +kernel
theorem dX5_state_4 : decode cX5_state 4 = .ok (.imul, 1) := by decide +kernel
theorem dX5_state_5 : decode cX5_state 5 = .ok (.iload_n 1, 1) := by decide +kernel
theorem dX5_state_6 : decode cX5_state 6 = .ok (.iadd, 1) := by decide +kernel
theorem dX5_state_7 : decode cX5_state 7 = .ok (.ireturn, 1) := by decide +kernel
theorem dX5_then_0 : decode cX5_then 0 = .ok (.iload_n 0, 1) := by decide +kernel
theorem dX5_then_1 : decode cX5_then 1 = .ok (.iconst 1, 1) := by decide +kernel
theorem dX5_then_2 : decode cX5_then 2 = .ok (.iload_n 2, 1) := by decide +kernel
theorem dX5_then_3 : decode cX5_then 3 = .ok (.ishl, 1) := by decide +kernel
theorem dX5_then_4 : decode cX5_then 4 = .ok (.ior, 1) := by decide +kernel
theorem dX5_then_5 : decode cX5_then 5 = .ok (.iload_n 1, 1) := by decide +kernel
theorem dX5_then_6 : decode cX5_then 6 = .ok (.iconst 1, 1) := by decide +kernel
theorem dX5_then_7 : decode cX5_then 7 = .ok (.iload_n 3, 1) := by decide +kernel
theorem dX5_then_8 : decode cX5_then 8 = .ok (.ishl, 1) := by decide +kernel
theorem dX5_then_9 : decode cX5_then 9 = .ok (.iconst (-1), 1) := by decide +kernel
theorem dX5_then_10 : decode cX5_then 10 = .ok (.ixor, 1) := by decide +kernel
theorem dX5_then_11 : decode cX5_then 11 = .ok (.iand, 1) := by decide +kernel
theorem dX5_then_12 : decode cX5_then 12 = .ok (.invokestatic 162, 3) := by decide +kernel
theorem dX5_then_15 : decode cX5_then 15 = .ok (.ireturn, 1) := by decide +kernel
theorem dX5_mosts_0 : decode cX5_mosts 0 = .ok (.aload_n 0, 1) := by decide +kernel
theorem dX5_mosts_1 : decode cX5_mosts 1 = .ok (.iload_n 1, 1) := by decide +kernel
theorem dX5_mosts_2 : decode cX5_mosts 2 = .ok (.invokevirtual 146, 3) := by decide +kernel
theorem dX5_mosts_5 : decode cX5_mosts 5 = .ok (.aload_n 0, 1) := by decide +kernel
theorem dX5_mosts_6 : decode cX5_mosts 6 = .ok (.iload_n 1, 1) := by decide +kernel
theorem dX5_mosts_7 : decode cX5_mosts 7 = .ok (.ifCond .eq 7, 3) := by decide +kernel
theorem dX5_mosts_10 : decode cX5_mosts 10 = .ok (.iconst 1, 1) := by decide +kernel
theorem dX5_mosts_11 : decode cX5_mosts 11 = .ok (.goto 4, 3) := by decide +kernel
theorem dX5_mosts_14 : decode cX5_mosts 14 = .ok (.iconst 0, 1) := by decide +kernel
theorem dX5_mosts_15 : decode cX5_mosts 15 = .ok (.invokevirtual 134, 3) := by decide +kernel
theorem dX5_mosts_18 : decode cX5_mosts 18 = .ok (.istore_n 2, 1) := by decide +kernel
theorem dX5_mosts_19 : decode cX5_mosts 19 = .ok (.iload_n 2, 1) := by decide +kernel
theorem dX5_mosts_20 : decode cX5_mosts 20 = .ok (.aload_n 0, 1) := by decide +kernel
theorem dX5_mosts_21 : decode cX5_mosts 21 = .ok (.invokevirtual 165, 3) := by decide +kernel
theorem dX5_mosts_24 : decode cX5_mosts 24 = .ok (.iconst 1, 1) := by decide +kernel
theorem dX5_mosts_25 : decode cX5_mosts 25 = .ok (.iadd, 1) := by decide +kernel
theorem dX5_mosts_26 : decode cX5_mosts 26 = .ok (.imul, 1) := by decide +kernel
theorem dX5_mosts_27 : decode cX5_mosts 27 = .ok (.iconst 1, 1) := by decide +kernel
theorem dX5_mosts_28 : decode cX5_mosts 28 = .ok (.isub, 1) := by decide +kernel
theorem dX5_mosts_29 : decode cX5_mosts 29 = .ok (.istore_n 3, 1) := by decide +kernel
theorem dX5_mosts_30 : decode cX5_mosts 30 = .ok (.iload_n 3, 1) := by decide +kernel
theorem dX5_mosts_31 : decode cX5_mosts 31 = .ok (.ifCond .lt 163, 3) := by decide +kernel
theorem dX5_mosts_34 : decode cX5_mosts 34 = .ok (.iload_n 3, 1) := by decide +kernel
theorem dX5_mosts_35 : decode cX5_mosts 35 = .ok (.iload_n 2, 1) := by decide +kernel
theorem dX5_mosts_36 : decode cX5_mosts 36 = .ok (.idiv, 1) := by decide +kernel
theorem dX5_mosts_37 : decode cX5_mosts 37 = .ok (.istore 4, 2) := by decide +kernel
theorem dX5_mosts_39 : decode cX5_mosts 39 = .ok (.aload_n 0, 1) := by decide +kernel
theorem dX5_mosts_40 : decode cX5_mosts 40 = .ok (.iload_n 2, 1) := by decide +kernel
theorem dX5_mosts_41 : decode cX5_mosts 41 = .ok (.iconst 1, 1) := by decide +kernel

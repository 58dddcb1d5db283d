theorem dX0_init_0 : decode cX0_init 0 = .ok (.aload_n 0, 1) := by decide +kernel
theorem dX0_init_1 : decode cX0_init 1 = .ok (.invokespecial 3, 3) := by decide +kernel
theorem dX0_init_4 : decode cX0_init 4 = .ok (.aload_n 0, 1) := by decide +kernel
theorem dX0_init_5 : decode cX0_init 5 = .ok (.iconst 4, 1) := by decide +kernel
theorem dX0_init_6 : decode cX0_init 6 = .ok (.putfield 9, 3) := by decide +kernel
theorem dX0_init_9 : decode cX0_init 9 = .ok (.aload_n 0, 1) := by decide +kernel
theorem dX0_init_10 : decode cX0_init 10 = .ok (.iconst 3, 1) := by decide +kernel
theorem dX0_init_11 : decode cX0_init 11 = .ok (.putfield 15, 3) := by decide +kernel
theorem dX0_init_14 : decode cX0_init 14 = .ok (.aload_n 0, 1) := by decide +kernel
theorem dX0_init_15 : decode cX0_init 15 = .ok (.bipush 6, 2) := by decide +kernel
theorem dX0_init_17 : decode cX0_init 17 = .ok (.newarray .int, 2) := by decide +kernel
theorem dX0_init_19 : decode cX0_init 19 = .ok (.putfield 18, 3) := by decide +kernel
theorem dX0_init_22 : decode cX0_init 22 = .ok (.aload_n 0, 1) := by decide +kernel
theorem dX0_init_23 : decode cX0_init 23 = .ok (.bipush 6, 2) := by decide +kernel
theorem dX0_init_25 : decode cX0_init 25 = .ok (.newarray .int, 2) := by decide +kernel
theorem dX0_init_27 : decode cX0_init 27 = .ok (.putfield 22, 3) := by decide +kernel
theorem dX0_init_30 : decode cX0_init 30 = .ok (.aload_n 0, 1) := by decide +kernel
theorem dX0_init_31 : decode cX0_init 31 = .ok (.bipush 7, 2) := by decide +kernel
theorem dX0_init_33 : decode cX0_init 33 = .ok (.newarray .int, 2) := by decide +kernel
theorem dX0_init_35 : decode cX0_init 35 = .ok (.putfield 25, 3) := by decide +kernel
theorem dX0_init_38 : decode cX0_init 38 = .ok (.aload_n 0, 1) := by decide +kernel
theorem dX0_init_39 : decode cX0_init 39 = .ok (.bipush 6, 2) := by decide +kernel
theorem dX0_init_41 : decode cX0_init 41 = .ok (.newarray .int, 2) := by decide +kernel
theorem dX0_init_43 : decode cX0_init 43 = .ok (.putfield 28, 3) := by decide +kernel
theorem dX0_init_46 : decode cX0_init 46 = .ok (.aload_n 0, 1) := by decide +kernel
theorem dX0_init_47 : decode cX0_init 47 = .ok (.bipush 6, 2) := by decide +kernel
theorem dX0_init_49 : decode cX0_init 49 = .ok (.newarray .int, 2) := by decide +kernel
theorem dX0_init_51 : decode cX0_init 51 = .ok (.putfield 31, 3) := by decide +kernel
theorem dX0_init_54 : decode cX0_init 54 = .ok (.aload_n 0, 1) := by decide +kernel
theorem dX0_init_55 : decode cX0_init 55 = .ok (.bipush 6, 2) := by decide +kernel
theorem dX0_init_57 : decode cX0_init 57 = .ok (.newarray .int, 2) := by decide +kernel
theorem dX0_init_59 : decode cX0_init 59 = .ok (.putfield 34, 3) := by decide +kernel
theorem dX0_init_62 : decode cX0_init 62 = .ok (.aload_n 0, 1) := by decide +kernel
theorem dX0_init_63 : decode cX0_init 63 = .ok (.sipush 128, 3) := by decide +kernel
theorem dX0_init_66 : decode cX0_init 66 = .ok (.newarray .int, 2) := by decide +kernel
theorem dX0_init_68 : decode cX0_init 68 = .ok (.putfield 37, 3) := by decide +kernel
theorem dX0_init_71 : decode cX0_init 71 = .ok (.aload_n 0, 1) := by decide +kernel
theorem dX0_init_72 : decode cX0_init 72 = .ok (.sipush 128, 3) := by decide +kernel
theorem dX0_init_75 : decode cX0_init 75 = .ok (.newarray .int, 2) := by decide +kernel
theorem dX0_init_77 : decode cX0_init 77 = .ok (.putfield 40, 3) := by decide +kernel
theorem dX0_init_80 : decode cX0_init 80 = .ok (.return_, 1) := by decide +kernel
theorem dX0_empty_0 : decode cX0_empty 0 = .ok (.aload_n 0, 1) := by decide +kernel
theorem dX0_empty_1 : decode cX0_empty 1 = .ok (.iconst 4, 1) := by decide +kernel
theorem dX0_empty_2 : decode cX0_empty 2 = .ok (.putfield 9, 3) := by decide +kernel
theorem dX0_empty_5 : decode cX0_empty 5 = .ok (.aload_n 0, 1) := by decide +kernel
theorem dX0_empty_6 : decode cX0_empty 6 = .ok (.iconst 3, 1) := by decide +kernel
theorem dX0_empty_7 : decode cX0_empty 7 = .ok (.putfield 15, 3) := by decide +kernel
theorem dX0_empty_10 : decode cX0_empty 10 = .ok (.aload_n 0, 1) := by decide +kernel
theorem dX0_empty_11 : decode cX0_empty 11 = .ok (.iconst 0, 1) := by decide +kernel
theorem dX0_empty_12 : decode cX0_empty 12 = .ok (.putfield 43, 3) := by decide +kernel
theorem dX0_empty_15 : decode cX0_empty 15 = .ok (.aload_n 0, 1) := by decide +kernel
theorem dX0_empty_16 : decode cX0_empty 16 = .ok (.iconst 0, 1) := by decide +kernel
theorem dX0_empty_17 : decode cX0_empty 17 = .ok (.putfield 46, 3) := by decide +kernel
theorem dX0_empty_20 : decode cX0_empty 20 = .ok (.aload_n 0, 1) := by decide +kernel
theorem dX0_empty_21 : decode cX0_empty 21 = .ok (.iconst 0, 1) := by decide +kernel
theorem dX0_empty_22 : decode cX0_empty 22 = .ok (.putfield 49, 3) := by decide +kernel
theorem dX0_empty_25 : decode cX0_empty 25 = .ok (.aload_n 0, 1) := by decide +kernel
theorem dX0_empty_26 : decode cX0_empty 26 = .ok (.iconst 0, 1) := by decide +kernel
theorem dX0_empty_27 : decode cX0_empty 27 = .ok (.putfield 52, 3) := by decide +kernel
theorem dX0_empty_30 : decode cX0_empty 30 = .ok (.aload_n 0, 1) := by decide +kernel
theorem dX0_empty_31 : decode cX0_empty 31 = .ok (.iconst 0, 1) := by decide +kernel
theorem dX0_empty_32 : decode cX0_empty 32 = .ok (.putfield 55, 3) := by decide +kernel
theorem dX0_empty_35 : decode cX0_empty 35 = .ok (.return_, 1) := by decide +kernel
theorem dX0_cells_0 : decode cX0_cells 0 = .ok (.aload_n 0, 1) := by decide +kernel
theorem dX0_cells_1 : decode cX0_cells 1 = .ok (.getfield 9, 3) := by decide +kernel
theorem dX0_cells_4 : decode cX0_cells 4 = .ok (.aload_n 0, 1) := by decide +kernel
theorem dX0_cells_5 : decode cX0_cells 5 = .ok (.getfield 15, 3) := by decide +kernel
theorem dX0_cells_8 : decode cX0_cells 8 = .ok (.imul, 1) := by decide +kernel
theorem dX0_cells_9 : decode cX0_cells 9 = .ok (.ireturn, 1) := by decide +kernel
theorem dX0_allLamps_0 : decode cX0_allLamps 0 = .ok (.iconst 1, 1) := by decide +kernel
theorem dX0_allLamps_1 : decode cX0_allLamps 1 = .ok (.aload_n 0, 1) := by decide +kernel
theorem dX0_allLamps_2 : decode cX0_allLamps 2 = .ok (.getfield 52, 3) := by decide +kernel
theorem dX0_allLamps_5 : decode cX0_allLamps 5 = .ok (.ishl, 1) := by decide +kernel
theorem dX0_allLamps_6 : decode cX0_allLamps 6 = .ok (.iconst 1, 1) := by decide +kernel
theorem dX0_allLamps_7 : decode cX0_allLamps 7 = .ok (.isub, 1) := by decide +kernel
theorem dX0_allLamps_8 : decode cX0_allLamps 8 = .ok (.ireturn, 1) := by decide +kernel
theorem dX0_allPeople_0 : decode cX0_allPeople 0 = .ok (.iconst 1, 1) := by decide +kernel
theorem dX0_allPeople_1 : decode cX0_allPeople 1 = .ok (.aload_n 0, 1) := by decide +kernel
theorem dX0_allPeople_2 : decode cX0_allPeople 2 = .ok (.getfield 55, 3) := by decide +kernel
theorem dX0_allPeople_5 : decode cX0_allPeople 5 = .ok (.ishl, 1) := by decide +kernel
theorem dX0_allPeople_6 : decode cX0_allPeople 6 = .ok (.iconst 1, 1) := by decide +kernel
theorem dX0_allPeople_7 : decode cX0_allPeople 7 = .ok (.isub, 1) := by decide +kernel
theorem dX0_allPeople_8 : decode cX0_allPeople 8 = .ok (.ireturn, 1) := by decide +kernel
theorem dX0_addLamp_0 : decode cX0_addLamp 0 = .ok (.aload_n 0, 1) := by decide +kernel
theorem dX0_addLamp_1 : decode cX0_addLamp 1 = .ok (.getfield 52, 3) := by decide +kernel
theorem dX0_addLamp_4 : decode cX0_addLamp 4 = .ok (.bipush 6, 2) := by decide +kernel
theorem dX0_addLamp_6 : decode cX0_addLamp 6 = .ok (.if_icmp .ge 33, 3) := by decide +kernel
theorem dX0_addLamp_9 : decode cX0_addLamp 9 = .ok (.aload_n 0, 1) := by decide +kernel
theorem dX0_addLamp_10 : decode cX0_addLamp 10 = .ok (.getfield 18, 3) := by decide +kernel
theorem dX0_addLamp_13 : decode cX0_addLamp 13 = .ok (.aload_n 0, 1) := by decide +kernel
theorem dX0_addLamp_14 : decode cX0_addLamp 14 = .ok (.getfield 52, 3) := by decide +kernel
theorem dX0_addLamp_17 : decode cX0_addLamp 17 = .ok (.iload_n 1, 1) := by decide +kernel
theorem dX0_addLamp_18 : decode cX0_addLamp 18 = .ok (.iastore, 1) := by decide +kernel
theorem dX0_addLamp_19 : decode cX0_addLamp 19 = .ok (.aload_n 0, 1) := by decide +kernel
theorem dX0_addLamp_20 : decode cX0_addLamp 20 = .ok (.getfield 22, 3) := by decide +kernel
theorem dX0_addLamp_23 : decode cX0_addLamp 23 = .ok (.aload_n 0, 1) := by decide +kernel
theorem dX0_addLamp_24 : decode cX0_addLamp 24 = .ok (.getfield 52, 3) := by decide +kernel
theorem dX0_addLamp_27 : decode cX0_addLamp 27 = .ok (.iload_n 2, 1) := by decide +kernel
theorem dX0_addLamp_28 : decode cX0_addLamp 28 = .ok (.iastore, 1) := by decide +kernel
theorem dX0_addLamp_29 : decode cX0_addLamp 29 = .ok (.aload_n 0, 1) := by decide +kernel
theorem dX0_addLamp_30 : decode cX0_addLamp 30 = .ok (.dup, 1) := by decide +kernel
theorem dX0_addLamp_31 : decode cX0_addLamp 31 = .ok (.getfield 52, 3) := by decide +kernel
theorem dX0_addLamp_34 : decode cX0_addLamp 34 = .ok (.iconst 1, 1) := by decide +kernel
theorem dX0_addLamp_35 : decode cX0_addLamp 35 = .ok (.iadd, 1) := by decide +kernel
theorem dX0_addLamp_36 : decode cX0_addLamp 36 = .ok (.putfield 52, 3) := by decide +kernel
theorem dX0_addLamp_39 : decode cX0_addLamp 39 = .ok (.return_, 1) := by decide +kernel
theorem dX0_addPerson_0 : decode cX0_addPerson 0 = .ok (.aload_n 0, 1) := by decide +kernel
theorem dX0_addPerson_1 : decode cX0_addPerson 1 = .ok (.getfield 55, 3) := by decide +kernel
theorem dX0_addPerson_4 : decode cX0_addPerson 4 = .ok (.bipush 6, 2) := by decide +kernel
theorem dX0_addPerson_6 : decode cX0_addPerson 6 = .ok (.if_icmp .ge 43, 3) := by decide +kernel
theorem dX0_addPerson_9 : decode cX0_addPerson 9 = .ok (.aload_n 0, 1) := by decide +kernel
theorem dX0_addPerson_10 : decode cX0_addPerson 10 = .ok (.getfield 28, 3) := by decide +kernel
theorem dX0_addPerson_13 : decode cX0_addPerson 13 = .ok (.aload_n 0, 1) := by decide +kernel
theorem dX0_addPerson_14 : decode cX0_addPerson 14 = .ok (.getfield 55, 3) := by decide +kernel
theorem dX0_addPerson_17 : decode cX0_addPerson 17 = .ok (.iload_n 1, 1) := by decide +kernel
theorem dX0_addPerson_18 : decode cX0_addPerson 18 = .ok (.iastore, 1) := by decide +kernel
theorem dX0_addPerson_19 : decode cX0_addPerson 19 = .ok (.aload_n 0, 1) := by decide +kernel
theorem dX0_addPerson_20 : decode cX0_addPerson 20 = .ok (.getfield 31, 3) := by decide +kernel
theorem dX0_addPerson_23 : decode cX0_addPerson 23 = .ok (.aload_n 0, 1) := by decide +kernel
theorem dX0_addPerson_24 : decode cX0_addPerson 24 = .ok (.getfield 55, 3) := by decide +kernel
theorem dX0_addPerson_27 : decode cX0_addPerson 27 = .ok (.iload_n 2, 1) := by decide +kernel
theorem dX0_addPerson_28 : decode cX0_addPerson 28 = .ok (.iastore, 1) := by decide +kernel
theorem dX0_addPerson_29 : decode cX0_addPerson 29 = .ok (.aload_n 0, 1) := by decide +kernel
theorem dX0_addPerson_30 : decode cX0_addPerson 30 = .ok (.getfield 34, 3) := by decide +kernel
theorem dX0_addPerson_33 : decode cX0_addPerson 33 = .ok (.aload_n 0, 1) := by decide +kernel
theorem dX0_addPerson_34 : decode cX0_addPerson 34 = .ok (.getfield 55, 3) := by decide +kernel
theorem dX0_addPerson_37 : decode cX0_addPerson 37 = .ok (.iload_n 3, 1) := by decide +kernel
theorem dX0_addPerson_38 : decode cX0_addPerson 38 = .ok (.iastore, 1) := by decide +kernel
theorem dX0_addPerson_39 : decode cX0_addPerson 39 = .ok (.aload_n 0, 1) := by decide +kernel
theorem dX0_addPerson_40 : decode cX0_addPerson 40 = .ok (.dup, 1) := by decide +kernel
theorem dX0_addPerson_41 : decode cX0_addPerson 41 = .ok (.getfield 55, 3) := by decide +kernel
theorem dX0_addPerson_44 : decode cX0_addPerson 44 = .ok (.iconst 1, 1) := by decide +kernel
theorem dX0_addPerson_45 : decode cX0_addPerson 45 = .ok (.iadd, 1) := by decide +kernel
theorem dX0_addPerson_46 : decode cX0_addPerson 46 = .ok (.putfield 55, 3) := by decide +kernel
theorem dX0_addPerson_49 : decode cX0_addPerson 49 = .ok (.return_, 1) := by decide +kernel
theorem dX0_lightUp_0 : decode cX0_lightUp 0 = .ok (.iconst 0, 1) := by decide +kernel
theorem dX0_lightUp_1 : decode cX0_lightUp 1 = .ok (.istore_n 1, 1) := by decide +kernel
theorem dX0_lightUp_2 : decode cX0_lightUp 2 = .ok (.iload_n 1, 1) := by decide +kernel
theorem dX0_lightUp_3 : decode cX0_lightUp 3 = .ok (.aload_n 0, 1) := by decide +kernel
theorem dX0_lightUp_4 : decode cX0_lightUp 4 = .ok (.getfield 52, 3) := by decide +kernel
theorem dX0_lightUp_7 : decode cX0_lightUp 7 = .ok (.if_icmp .ge 31, 3) := by decide +kernel
theorem dX0_lightUp_10 : decode cX0_lightUp 10 = .ok (.aload_n 0, 1) := by decide +kernel
theorem dX0_lightUp_11 : decode cX0_lightUp 11 = .ok (.getfield 25, 3) := by decide +kernel
theorem dX0_lightUp_14 : decode cX0_lightUp 14 = .ok (.iload_n 1, 1) := by decide +kernel
theorem dX0_lightUp_15 : decode cX0_lightUp 15 = .ok (.aload_n 0, 1) := by decide +kernel
theorem dX0_lightUp_16 : decode cX0_lightUp 16 = .ok (.aload_n 0, 1) := by decide +kernel
theorem dX0_lightUp_17 : decode cX0_lightUp 17 = .ok (.getfield 18, 3) := by decide +kernel
theorem dX0_lightUp_20 : decode cX0_lightUp 20 = .ok (.iload_n 1, 1) := by decide +kernel
theorem dX0_lightUp_21 : decode cX0_lightUp 21 = .ok (.iaload, 1) := by decide +kernel
theorem dX0_lightUp_22 : decode cX0_lightUp 22 = .ok (.aload_n 0, 1) := by decide +kernel
theorem dX0_lightUp_23 : decode cX0_lightUp 23 = .ok (.getfield 22, 3) := by decide +kernel
theorem dX0_lightUp_26 : decode cX0_lightUp 26 = .ok (.iload_n 1, 1) := by decide +kernel
theorem dX0_lightUp_27 : decode cX0_lightUp 27 = .ok (.iaload, 1) := by decide +kernel
theorem dX0_lightUp_28 : decode cX0_lightUp 28 = .ok (.invokevirtual 58, 3) := by decide +kernel
theorem dX0_lightUp_31 : decode cX0_lightUp 31 = .ok (.iastore, 1) := by decide +kernel
theorem dX0_lightUp_32 : decode cX0_lightUp 32 = .ok (.iinc 1 1, 3) := by decide +kernel
theorem dX0_lightUp_35 : decode cX0_lightUp 35 = .ok (.goto (-33), 3) := by decide +kernel
theorem dX0_lightUp_38 : decode cX0_lightUp 38 = .ok (.aload_n 0, 1) := by decide +kernel
theorem dX0_lightUp_39 : decode cX0_lightUp 39 = .ok (.iconst 0, 1) := by decide +kernel
theorem dX0_lightUp_40 : decode cX0_lightUp 40 = .ok (.iconst 1, 1) := by decide +kernel
theorem dX0_lightUp_41 : decode cX0_lightUp 41 = .ok (.aload_n 0, 1) := by decide +kernel
theorem dX0_lightUp_42 : decode cX0_lightUp 42 = .ok (.getfield 52, 3) := by decide +kernel
theorem dX0_lightUp_45 : decode cX0_lightUp 45 = .ok (.ishl, 1) := by decide +kernel
theorem dX0_lightUp_46 : decode cX0_lightUp 46 = .ok (.invokevirtual 62, 3) := by decide +kernel
theorem dX0_lightUp_49 : decode cX0_lightUp 49 = .ok (.return_, 1) := by decide +kernel
theorem dX0_lightOneMore_0 : decode cX0_lightOneMore 0 = .ok (.aload_n 0, 1) := by decide +kernel
theorem dX0_lightOneMore_1 : decode cX0_lightOneMore 1 = .ok (.getfield 25, 3) := by decide +kernel
theorem dX0_lightOneMore_4 : decode cX0_lightOneMore 4 = .ok (.aload_n 0, 1) := by decide +kernel
theorem dX0_lightOneMore_5 : decode cX0_lightOneMore 5 = .ok (.getfield 52, 3) := by decide +kernel
theorem dX0_lightOneMore_8 : decode cX0_lightOneMore 8 = .ok (.aload_n 0, 1) := by decide +kernel
theorem dX0_lightOneMore_9 : decode cX0_lightOneMore 9 = .ok (.iload_n 1, 1) := by decide +kernel
theorem dX0_lightOneMore_10 : decode cX0_lightOneMore 10 = .ok (.iload_n 2, 1) := by decide +kernel
theorem dX0_lightOneMore_11 : decode cX0_lightOneMore 11 = .ok (.invokevirtual 58, 3) := by decide +kernel
theorem dX0_lightOneMore_14 : decode cX0_lightOneMore 14 = .ok (.iastore, 1) := by decide +kernel
theorem dX0_lightOneMore_15 : decode cX0_lightOneMore 15 = .ok (.aload_n 0, 1) := by decide +kernel
theorem dX0_lightOneMore_16 : decode cX0_lightOneMore 16 = .ok (.iconst 1, 1) := by decide +kernel
theorem dX0_lightOneMore_17 : decode cX0_lightOneMore 17 = .ok (.aload_n 0, 1) := by decide +kernel
theorem dX0_lightOneMore_18 : decode cX0_lightOneMore 18 = .ok (.getfield 52, 3) := by decide +kernel
theorem dX0_lightOneMore_21 : decode cX0_lightOneMore 21 = .ok (.ishl, 1) := by decide +kernel
theorem dX0_lightOneMore_22 : decode cX0_lightOneMore 22 = .ok (.iconst 2, 1) := by decide +kernel
theorem dX0_lightOneMore_23 : decode cX0_lightOneMore 23 = .ok (.aload_n 0, 1) := by decide +kernel
theorem dX0_lightOneMore_24 : decode cX0_lightOneMore 24 = .ok (.getfield 52, 3) := by decide +kernel
theorem dX0_lightOneMore_27 : decode cX0_lightOneMore 27 = .ok (.ishl, 1) := by decide +kernel
theorem dX0_lightOneMore_28 : decode cX0_lightOneMore 28 = .ok (.invokevirtual 62, 3) := by decide +kernel
theorem dX0_lightOneMore_31 : decode cX0_lightOneMore 31 = .ok (.return_, 1) := by decide +kernel
theorem dX0_fillLight_0 : decode cX0_fillLight 0 = .ok (.iload_n 1, 1) := by decide +kernel
theorem dX0_fillLight_1 : decode cX0_fillLight 1 = .ok (.istore_n 3, 1) := by decide +kernel
theorem dX0_fillLight_2 : decode cX0_fillLight 2 = .ok (.iload_n 3, 1) := by decide +kernel
theorem dX0_fillLight_3 : decode cX0_fillLight 3 = .ok (.iload_n 2, 1) := by decide +kernel
theorem dX0_fillLight_4 : decode cX0_fillLight 4 = .ok (.if_icmp .ge 36, 3) := by decide +kernel
theorem dX0_fillLight_7 : decode cX0_fillLight 7 = .ok (.aload_n 0, 1) := by decide +kernel
theorem dX0_fillLight_8 : decode cX0_fillLight 8 = .ok (.getfield 37, 3) := by decide +kernel
theorem dX0_fillLight_11 : decode cX0_fillLight 11 = .ok (.iload_n 3, 1) := by decide +kernel
theorem dX0_fillLight_12 : decode cX0_fillLight 12 = .ok (.aload_n 0, 1) := by decide +kernel
theorem dX0_fillLight_13 : decode cX0_fillLight 13 = .ok (.iload_n 3, 1) := by decide +kernel
theorem dX0_fillLight_14 : decode cX0_fillLight 14 = .ok (.invokevirtual 66, 3) := by decide +kernel
theorem dX0_fillLight_17 : decode cX0_fillLight 17 = .ok (.iastore, 1) := by decide +kernel
theorem dX0_fillLight_18 : decode cX0_fillLight 18 = .ok (.aload_n 0, 1) := by decide +kernel
theorem dX0_fillLight_19 : decode cX0_fillLight 19 = .ok (.getfield 40, 3) := by decide +kernel
theorem dX0_fillLight_22 : decode cX0_fillLight 22 = .ok (.iload_n 3, 1) := by decide +kernel
theorem dX0_fillLight_23 : decode cX0_fillLight 23 = .ok (.aload_n 0, 1) := by decide +kernel
theorem dX0_fillLight_24 : decode cX0_fillLight 24 = .ok (.aload_n 0, 1) := by decide +kernel
theorem dX0_fillLight_25 : decode cX0_fillLight 25 = .ok (.getfield 37, 3) := by decide +kernel
theorem dX0_fillLight_28 : decode cX0_fillLight 28 = .ok (.iload_n 3, 1) := by decide +kernel
theorem dX0_fillLight_29 : decode cX0_fillLight 29 = .ok (.iaload, 1) := by decide +kernel
theorem dX0_fillLight_30 : decode cX0_fillLight 30 = .ok (.invokevirtual 70, 3) := by decide +kernel
theorem dX0_fillLight_33 : decode cX0_fillLight 33 = .ok (.iastore, 1) := by decide +kernel
theorem dX0_fillLight_34 : decode cX0_fillLight 34 = .ok (.iinc 3 1, 3) := by decide +kernel
theorem dX0_fillLight_37 : decode cX0_fillLight 37 = .ok (.goto (-35), 3) := by decide +kernel
theorem dX0_fillLight_40 : decode cX0_fillLight 40 = .ok (.return_, 1) := by decide +kernel
theorem dX0_lightOf_0 : decode cX0_lightOf 0 = .ok (.iconst 0, 1) := by decide +kernel
theorem dX0_lightOf_1 : decode cX0_lightOf 1 = .ok (.istore_n 2, 1) := by decide +kernel
theorem dX0_lightOf_2 : decode cX0_lightOf 2 = .ok (.iconst 0, 1) := by decide +kernel
theorem dX0_lightOf_3 : decode cX0_lightOf 3 = .ok (.istore_n 3, 1) := by decide +kernel
theorem dX0_lightOf_4 : decode cX0_lightOf 4 = .ok (.iload_n 3, 1) := by decide +kernel
theorem dX0_lightOf_5 : decode cX0_lightOf 5 = .ok (.bipush 7, 2) := by decide +kernel
theorem dX0_lightOf_7 : decode cX0_lightOf 7 = .ok (.if_icmp .ge 27, 3) := by decide +kernel
theorem dX0_lightOf_10 : decode cX0_lightOf 10 = .ok (.iload_n 1, 1) := by decide +kernel
theorem dX0_lightOf_11 : decode cX0_lightOf 11 = .ok (.iload_n 3, 1) := by decide +kernel
theorem dX0_lightOf_12 : decode cX0_lightOf 12 = .ok (.invokestatic 73, 3) := by decide +kernel
theorem dX0_lightOf_15 : decode cX0_lightOf 15 = .ok (.iconst 1, 1) := by decide +kernel
theorem dX0_lightOf_16 : decode cX0_lightOf 16 = .ok (.if_icmp .ne 12, 3) := by decide +kernel
theorem dX0_lightOf_19 : decode cX0_lightOf 19 = .ok (.iload_n 2, 1) := by decide +kernel
theorem dX0_lightOf_20 : decode cX0_lightOf 20 = .ok (.aload_n 0, 1) := by decide +kernel
theorem dX0_lightOf_21 : decode cX0_lightOf 21 = .ok (.getfield 25, 3) := by decide +kernel
theorem dX0_lightOf_24 : decode cX0_lightOf 24 = .ok (.iload_n 3, 1) := by decide +kernel
theorem dX0_lightOf_25 : decode cX0_lightOf 25 = .ok (.iaload, 1) := by decide +kernel
theorem dX0_lightOf_26 : decode cX0_lightOf 26 = .ok (.ior, 1) := by decide +kernel
theorem dX0_lightOf_27 : decode cX0_lightOf 27 = .ok (.istore_n 2, 1) := by decide +kernel
theorem dX0_lightOf_28 : decode cX0_lightOf 28 = .ok (.iinc 3 1, 3) := by decide +kernel
theorem dX0_lightOf_31 : decode cX0_lightOf 31 = .ok (.goto (-27), 3) := by decide +kernel
theorem dX0_lightOf_34 : decode cX0_lightOf 34 = .ok (.iload_n 2, 1) := by decide +kernel
theorem dX0_lightOf_35 : decode cX0_lightOf 35 = .ok (.ireturn, 1) := by decide +kernel
theorem dX0_leaversIn_0 : decode cX0_leaversIn 0 = .ok (.aload_n 0, 1) := by decide +kernel
theorem dX0_leaversIn_1 : decode cX0_leaversIn 1 = .ok (.getfield 49, 3) := by decide +kernel
theorem dX0_leaversIn_4 : decode cX0_leaversIn 4 = .ok (.iconst 1, 1) := by decide +kernel
theorem dX0_leaversIn_5 : decode cX0_leaversIn 5 = .ok (.if_icmp .ne 19, 3) := by decide +kernel
theorem dX0_leaversIn_8 : decode cX0_leaversIn 8 = .ok (.aload_n 0, 1) := by decide +kernel
theorem dX0_leaversIn_9 : decode cX0_leaversIn 9 = .ok (.aload_n 0, 1) := by decide +kernel
theorem dX0_leaversIn_10 : decode cX0_leaversIn 10 = .ok (.getfield 46, 3) := by decide +kernel
theorem dX0_leaversIn_13 : decode cX0_leaversIn 13 = .ok (.iload_n 1, 1) := by decide +kernel
theorem dX0_leaversIn_14 : decode cX0_leaversIn 14 = .ok (.iand, 1) := by decide +kernel
theorem dX0_leaversIn_15 : decode cX0_leaversIn 15 = .ok (.iload_n 1, 1) := by decide +kernel
theorem dX0_leaversIn_16 : decode cX0_leaversIn 16 = .ok (.bipush 12, 2) := by decide +kernel
theorem dX0_leaversIn_18 : decode cX0_leaversIn 18 = .ok (.invokevirtual 76, 3) := by decide +kernel
theorem dX0_leaversIn_21 : decode cX0_leaversIn 21 = .ok (.goto 4, 3) := by decide +kernel
theorem dX0_leaversIn_24 : decode cX0_leaversIn 24 = .ok (.iload_n 1, 1) := by decide +kernel
theorem dX0_leaversIn_25 : decode cX0_leaversIn 25 = .ok (.istore_n 2, 1) := by decide +kernel
theorem dX0_leaversIn_26 : decode cX0_leaversIn 26 = .ok (.iconst 0, 1) := by decide +kernel
theorem dX0_leaversIn_27 : decode cX0_leaversIn 27 = .ok (.istore_n 3, 1) := by decide +kernel
theorem dX0_leaversIn_28 : decode cX0_leaversIn 28 = .ok (.iconst 0, 1) := by decide +kernel
theorem dX0_leaversIn_29 : decode cX0_leaversIn 29 = .ok (.istore 4, 2) := by decide +kernel
theorem dX0_leaversIn_31 : decode cX0_leaversIn 31 = .ok (.iload 4, 2) := by decide +kernel
theorem dX0_leaversIn_33 : decode cX0_leaversIn 33 = .ok (.aload_n 0, 1) := by decide +kernel
theorem dX0_leaversIn_34 : decode cX0_leaversIn 34 = .ok (.getfield 55, 3) := by decide +kernel
theorem dX0_leaversIn_37 : decode cX0_leaversIn 37 = .ok (.if_icmp .ge 26, 3) := by decide +kernel
theorem dX0_leaversIn_40 : decode cX0_leaversIn 40 = .ok (.iload_n 3, 1) := by decide +kernel
theorem dX0_leaversIn_41 : decode cX0_leaversIn 41 = .ok (.iload_n 2, 1) := by decide +kernel
theorem dX0_leaversIn_42 : decode cX0_leaversIn 42 = .ok (.aload_n 0, 1) := by decide +kernel
theorem dX0_leaversIn_43 : decode cX0_leaversIn 43 = .ok (.getfield 28, 3) := by decide +kernel
theorem dX0_leaversIn_46 : decode cX0_leaversIn 46 = .ok (.iload 4, 2) := by decide +kernel
theorem dX0_leaversIn_48 : decode cX0_leaversIn 48 = .ok (.iaload, 1) := by decide +kernel
theorem dX0_leaversIn_49 : decode cX0_leaversIn 49 = .ok (.invokestatic 73, 3) := by decide +kernel
theorem dX0_leaversIn_52 : decode cX0_leaversIn 52 = .ok (.iload 4, 2) := by decide +kernel
theorem dX0_leaversIn_54 : decode cX0_leaversIn 54 = .ok (.ishl, 1) := by decide +kernel
theorem dX0_leaversIn_55 : decode cX0_leaversIn 55 = .ok (.ior, 1) := by decide +kernel
theorem dX0_leaversIn_56 : decode cX0_leaversIn 56 = .ok (.istore_n 3, 1) := by decide +kernel
theorem dX0_leaversIn_57 : decode cX0_leaversIn 57 = .ok (.iinc 4 1, 3) := by decide +kernel
theorem dX0_leaversIn_60 : decode cX0_leaversIn 60 = .ok (.goto (-29), 3) := by decide +kernel
theorem dX0_leaversIn_63 : decode cX0_leaversIn 63 = .ok (.iload_n 3, 1) := by decide +kernel
theorem dX0_leaversIn_64 : decode cX0_leaversIn 64 = .ok (.ireturn, 1) := by decide +kernel
theorem dX0_shineFrom_0 : decode cX0_shineFrom 0 = .ok (.aload_n 0, 1) := by decide +kernel
theorem dX0_shineFrom_1 : decode cX0_shineFrom 1 = .ok (.iconst 1, 1) := by decide +kernel
theorem dX0_shineFrom_2 : decode cX0_shineFrom 2 = .ok (.iload_n 1, 1) := by decide +kernel
theorem dX0_shineFrom_3 : decode cX0_shineFrom 3 = .ok (.ishl, 1) := by decide +kernel
theorem dX0_shineFrom_4 : decode cX0_shineFrom 4 = .ok (.iconst 1, 1) := by decide +kernel
theorem dX0_shineFrom_5 : decode cX0_shineFrom 5 = .ok (.aload_n 0, 1) := by decide +kernel
theorem dX0_shineFrom_6 : decode cX0_shineFrom 6 = .ok (.invokevirtual 80, 3) := by decide +kernel
theorem dX0_shineFrom_9 : decode cX0_shineFrom 9 = .ok (.ishl, 1) := by decide +kernel
theorem dX0_shineFrom_10 : decode cX0_shineFrom 10 = .ok (.iconst 1, 1) := by decide +kernel
theorem dX0_shineFrom_11 : decode cX0_shineFrom 11 = .ok (.isub, 1) := by decide +kernel
theorem dX0_shineFrom_12 : decode cX0_shineFrom 12 = .ok (.aload_n 0, 1) := by decide +kernel
theorem dX0_shineFrom_13 : decode cX0_shineFrom 13 = .ok (.getfield 43, 3) := by decide +kernel
theorem dX0_shineFrom_16 : decode cX0_shineFrom 16 = .ok (.iconst (-1), 1) := by decide +kernel
theorem dX0_shineFrom_17 : decode cX0_shineFrom 17 = .ok (.ixor, 1) := by decide +kernel
theorem dX0_shineFrom_18 : decode cX0_shineFrom 18 = .ok (.iand, 1) := by decide +kernel
theorem dX0_shineFrom_19 : decode cX0_shineFrom 19 = .ok (.iload_n 2, 1) := by decide +kernel
theorem dX0_shineFrom_20 : decode cX0_shineFrom 20 = .ok (.invokevirtual 76, 3) := by decide +kernel
theorem dX0_shineFrom_23 : decode cX0_shineFrom 23 = .ok (.ireturn, 1) := by decide +kernel
theorem dX0_spread_0 : decode cX0_spread 0 = .ok (.iload_n 1, 1) := by decide +kernel
theorem dX0_spread_1 : decode cX0_spread 1 = .ok (.istore 4, 2) := by decide +kernel
theorem dX0_spread_3 : decode cX0_spread 3 = .ok (.iconst 0, 1) := by decide +kernel
theorem dX0_spread_4 : decode cX0_spread 4 = .ok (.istore 5, 2) := by decide +kernel
theorem dX0_spread_6 : decode cX0_spread 6 = .ok (.iload 5, 2) := by decide +kernel
theorem dX0_spread_8 : decode cX0_spread 8 = .ok (.iload_n 3, 1) := by decide +kernel
theorem dX0_spread_9 : decode cX0_spread 9 = .ok (.if_icmp .ge 36, 3) := by decide +kernel
theorem dX0_spread_12 : decode cX0_spread 12 = .ok (.iload 4, 2) := by decide +kernel
theorem dX0_spread_14 : decode cX0_spread 14 = .ok (.aload_n 0, 1) := by decide +kernel
theorem dX0_spread_15 : decode cX0_spread 15 = .ok (.iload 4, 2) := by decide +kernel
theorem dX0_spread_17 : decode cX0_spread 17 = .ok (.invokevirtual 84, 3) := by decide +kernel
theorem dX0_spread_20 : decode cX0_spread 20 = .ok (.iload_n 2, 1) := by decide +kernel
theorem dX0_spread_21 : decode cX0_spread 21 = .ok (.iand, 1) := by decide +kernel
theorem dX0_spread_22 : decode cX0_spread 22 = .ok (.ior, 1) := by decide +kernel
theorem dX0_spread_23 : decode cX0_spread 23 = .ok (.istore 6, 2) := by decide +kernel
theorem dX0_spread_25 : decode cX0_spread 25 = .ok (.iload 6, 2) := by decide +kernel
theorem dX0_spread_27 : decode cX0_spread 27 = .ok (.iload 4, 2) := by decide +kernel
theorem dX0_spread_29 : decode cX0_spread 29 = .ok (.if_icmp .ne 6, 3) := by decide +kernel
theorem dX0_spread_32 : decode cX0_spread 32 = .ok (.iload 4, 2) := by decide +kernel
theorem dX0_spread_34 : decode cX0_spread 34 = .ok (.ireturn, 1) := by decide +kernel
theorem dX0_spread_35 : decode cX0_spread 35 = .ok (.iload 6, 2) := by decide +kernel
theorem dX0_spread_37 : decode cX0_spread 37 = .ok (.istore 4, 2) := by decide +kernel
theorem dX0_spread_39 : decode cX0_spread 39 = .ok (.iinc 5 1, 3) := by decide +kernel
theorem dX0_spread_42 : decode cX0_spread 42 = .ok (.goto (-36), 3) := by decide +kernel
theorem dX0_spread_45 : decode cX0_spread 45 = .ok (.iload 4, 2) := by decide +kernel
theorem dX0_spread_47 : decode cX0_spread 47 = .ok (.ireturn, 1) := by decide +kernel
theorem dX0_beside_0 : decode cX0_beside 0 = .ok (.iconst 0, 1) := by decide +kernel
theorem dX0_beside_1 : decode cX0_beside 1 = .ok (.istore_n 2, 1) := by decide +kernel
theorem dX0_beside_2 : decode cX0_beside 2 = .ok (.iconst 0, 1) := by decide +kernel
theorem dX0_beside_3 : decode cX0_beside 3 = .ok (.istore_n 3, 1) := by decide +kernel
theorem dX0_beside_4 : decode cX0_beside 4 = .ok (.iload_n 3, 1) := by decide +kernel
theorem dX0_beside_5 : decode cX0_beside 5 = .ok (.aload_n 0, 1) := by decide +kernel
theorem dX0_beside_6 : decode cX0_beside 6 = .ok (.getfield 15, 3) := by decide +kernel
theorem dX0_beside_9 : decode cX0_beside 9 = .ok (.if_icmp .ge 20, 3) := by decide +kernel
theorem dX0_beside_12 : decode cX0_beside 12 = .ok (.iload_n 2, 1) := by decide +kernel
theorem dX0_beside_13 : decode cX0_beside 13 = .ok (.iconst 1, 1) := by decide +kernel
theorem dX0_beside_14 : decode cX0_beside 14 = .ok (.aload_n 0, 1) := by decide +kernel
theorem dX0_beside_15 : decode cX0_beside 15 = .ok (.getfield 9, 3) := by decide +kernel
theorem dX0_beside_18 : decode cX0_beside 18 = .ok (.iload_n 3, 1) := by decide +kernel
theorem dX0_beside_19 : decode cX0_beside 19 = .ok (.imul, 1) := by decide +kernel
theorem dX0_beside_20 : decode cX0_beside 20 = .ok (.ishl, 1) := by decide +kernel
theorem dX0_beside_21 : decode cX0_beside 21 = .ok (.ior, 1) := by decide +kernel
theorem dX0_beside_22 : decode cX0_beside 22 = .ok (.istore_n 2, 1) := by decide +kernel
theorem dX0_beside_23 : decode cX0_beside 23 = .ok (.iinc 3 1, 3) := by decide +kernel
theorem dX0_beside_26 : decode cX0_beside 26 = .ok (.goto (-22), 3) := by decide +kernel
theorem dX0_beside_29 : decode cX0_beside 29 = .ok (.iload_n 2, 1) := by decide +kernel
theorem dX0_beside_30 : decode cX0_beside 30 = .ok (.aload_n 0, 1) := by decide +kernel
theorem dX0_beside_31 : decode cX0_beside 31 = .ok (.getfield 9, 3) := by decide +kernel
theorem dX0_beside_34 : decode cX0_beside 34 = .ok (.iconst 1, 1) := by decide +kernel
theorem dX0_beside_35 : decode cX0_beside 35 = .ok (.isub, 1) := by decide +kernel
theorem dX0_beside_36 : decode cX0_beside 36 = .ok (.ishl, 1) := by decide +kernel
theorem dX0_beside_37 : decode cX0_beside 37 = .ok (.istore_n 3, 1) := by decide +kernel
theorem dX0_beside_38 : decode cX0_beside 38 = .ok (.iload_n 1, 1) := by decide +kernel
theorem dX0_beside_39 : decode cX0_beside 39 = .ok (.aload_n 0, 1) := by decide +kernel
theorem dX0_beside_40 : decode cX0_beside 40 = .ok (.getfield 9, 3) := by decide +kernel
theorem dX0_beside_43 : decode cX0_beside 43 = .ok (.ishl, 1) := by decide +kernel
theorem dX0_beside_44 : decode cX0_beside 44 = .ok (.iload_n 1, 1) := by decide +kernel
theorem dX0_beside_45 : decode cX0_beside 45 = .ok (.aload_n 0, 1) := by decide +kernel
theorem dX0_beside_46 : decode cX0_beside 46 = .ok (.getfield 9, 3) := by decide +kernel
theorem dX0_beside_49 : decode cX0_beside 49 = .ok (.iushr, 1) := by decide +kernel
theorem dX0_beside_50 : decode cX0_beside 50 = .ok (.ior, 1) := by decide +kernel
theorem dX0_beside_51 : decode cX0_beside 51 = .ok (.istore 4, 2) := by decide +kernel
theorem dX0_beside_53 : decode cX0_beside 53 = .ok (.iload_n 1, 1) := by decide +kernel
theorem dX0_beside_54 : decode cX0_beside 54 = .ok (.iload_n 3, 1) := by decide +kernel
theorem dX0_beside_55 : decode cX0_beside 55 = .ok (.iconst (-1), 1) := by decide +kernel
theorem dX0_beside_56 : decode cX0_beside 56 = .ok (.ixor, 1) := by decide +kernel
theorem dX0_beside_57 : decode cX0_beside 57 = .ok (.iand, 1) := by decide +kernel
theorem dX0_beside_58 : decode cX0_beside 58 = .ok (.iconst 1, 1) := by decide +kernel
theorem dX0_beside_59 : decode cX0_beside 59 = .ok (.ishl, 1) := by decide +kernel
theorem dX0_beside_60 : decode cX0_beside 60 = .ok (.iload_n 1, 1) := by decide +kernel
theorem dX0_beside_61 : decode cX0_beside 61 = .ok (.iload_n 2, 1) := by decide +kernel
theorem dX0_beside_62 : decode cX0_beside 62 = .ok (.iconst (-1), 1) := by decide +kernel
theorem dX0_beside_63 : decode cX0_beside 63 = .ok (.ixor, 1) := by decide +kernel
theorem dX0_beside_64 : decode cX0_beside 64 = .ok (.iand, 1) := by decide +kernel
theorem dX0_beside_65 : decode cX0_beside 65 = .ok (.iconst 1, 1) := by decide +kernel
theorem dX0_beside_66 : decode cX0_beside 66 = .ok (.iushr, 1) := by decide +kernel
theorem dX0_beside_67 : decode cX0_beside 67 = .ok (.ior, 1) := by decide +kernel
theorem dX0_beside_68 : decode cX0_beside 68 = .ok (.istore 5, 2) := by decide +kernel
theorem dX0_beside_70 : decode cX0_beside 70 = .ok (.iload 4, 2) := by decide +kernel
theorem dX0_beside_72 : decode cX0_beside 72 = .ok (.iload 5, 2) := by decide +kernel
theorem dX0_beside_74 : decode cX0_beside 74 = .ok (.ior, 1) := by decide +kernel
theorem dX0_beside_75 : decode cX0_beside 75 = .ok (.ireturn, 1) := by decide +kernel
theorem dX1_init_0 : decode cX1_init 0 = .ok (.aload_n 0, 1) := by decide +kernel
theorem dX1_init_1 : decode cX1_init 1 = .ok (.invokespecial 3, 3) := by decide +kernel
theorem dX1_init_4 : decode cX1_init 4 = .ok (.aload_n 0, 1) := by decide +kernel
theorem dX1_init_5 : decode cX1_init 5 = .ok (.bipush 6, 2) := by decide +kernel
theorem dX1_init_7 : decode cX1_init 7 = .ok (.newarray .int, 2) := by decide +kernel
theorem dX1_init_9 : decode cX1_init 9 = .ok (.putfield 9, 3) := by decide +kernel
theorem dX1_init_12 : decode cX1_init 12 = .ok (.aload_n 0, 1) := by decide +kernel
theorem dX1_init_13 : decode cX1_init 13 = .ok (.bipush 6, 2) := by decide +kernel
theorem dX1_init_15 : decode cX1_init 15 = .ok (.newarray .int, 2) := by decide +kernel
theorem dX1_init_17 : decode cX1_init 17 = .ok (.putfield 15, 3) := by decide +kernel
theorem dX1_init_20 : decode cX1_init 20 = .ok (.aload_n 0, 1) := by decide +kernel
theorem dX1_init_21 : decode cX1_init 21 = .ok (.bipush 8, 2) := by decide +kernel
theorem dX1_init_23 : decode cX1_init 23 = .ok (.newarray .int, 2) := by decide +kernel
theorem dX1_init_25 : decode cX1_init 25 = .ok (.putfield 18, 3) := by decide +kernel
theorem dX1_init_28 : decode cX1_init 28 = .ok (.aload_n 0, 1) := by decide +kernel
theorem dX1_init_29 : decode cX1_init 29 = .ok (.bipush 8, 2) := by decide +kernel
theorem dX1_init_31 : decode cX1_init 31 = .ok (.newarray .int, 2) := by decide +kernel
theorem dX1_init_33 : decode cX1_init 33 = .ok (.putfield 21, 3) := by decide +kernel
theorem dX1_init_36 : decode cX1_init 36 = .ok (.aload_n 0, 1) := by decide +kernel
theorem dX1_init_37 : decode cX1_init 37 = .ok (.bipush 8, 2) := by decide +kernel
theorem dX1_init_39 : decode cX1_init 39 = .ok (.newarray .int, 2) := by decide +kernel
theorem dX1_init_41 : decode cX1_init 41 = .ok (.putfield 24, 3) := by decide +kernel
theorem dX1_init_44 : decode cX1_init 44 = .ok (.return_, 1) := by decide +kernel
theorem dX1_restart_0 : decode cX1_restart 0 = .ok (.aload_n 0, 1) := by decide +kernel
theorem dX1_restart_1 : decode cX1_restart 1 = .ok (.iconst 0, 1) := by decide +kernel
theorem dX1_restart_2 : decode cX1_restart 2 = .ok (.putfield 27, 3) := by decide +kernel
theorem dX1_restart_5 : decode cX1_restart 5 = .ok (.aload_n 0, 1) := by decide +kernel
theorem dX1_restart_6 : decode cX1_restart 6 = .ok (.iconst 0, 1) := by decide +kernel
theorem dX1_restart_7 : decode cX1_restart 7 = .ok (.putfield 31, 3) := by decide +kernel
theorem dX1_restart_10 : decode cX1_restart 10 = .ok (.aload_n 0, 1) := by decide +kernel
theorem dX1_restart_11 : decode cX1_restart 11 = .ok (.iconst 0, 1) := by decide +kernel
theorem dX1_restart_12 : decode cX1_restart 12 = .ok (.putfield 34, 3) := by decide +kernel
theorem dX1_restart_15 : decode cX1_restart 15 = .ok (.aload_n 0, 1) := by decide +kernel
theorem dX1_restart_16 : decode cX1_restart 16 = .ok (.iconst 0, 1) := by decide +kernel
theorem dX1_restart_17 : decode cX1_restart 17 = .ok (.putfield 37, 3) := by decide +kernel
theorem dX1_restart_20 : decode cX1_restart 20 = .ok (.return_, 1) := by decide +kernel
theorem dX1_copyFrom_0 : decode cX1_copyFrom 0 = .ok (.aload_n 0, 1) := by decide +kernel
theorem dX1_copyFrom_1 : decode cX1_copyFrom 1 = .ok (.aload_n 1, 1) := by decide +kernel
theorem dX1_copyFrom_2 : decode cX1_copyFrom 2 = .ok (.getfield 27, 3) := by decide +kernel
theorem dX1_copyFrom_5 : decode cX1_copyFrom 5 = .ok (.putfield 27, 3) := by decide +kernel
theorem dX1_copyFrom_8 : decode cX1_copyFrom 8 = .ok (.aload_n 0, 1) := by decide +kernel
theorem dX1_copyFrom_9 : decode cX1_copyFrom 9 = .ok (.aload_n 1, 1) := by decide +kernel
theorem dX1_copyFrom_10 : decode cX1_copyFrom 10 = .ok (.getfield 31, 3) := by decide +kernel
theorem dX1_copyFrom_13 : decode cX1_copyFrom 13 = .ok (.putfield 31, 3) := by decide +kernel
theorem dX1_copyFrom_16 : decode cX1_copyFrom 16 = .ok (.aload_n 0, 1) := by decide +kernel
theorem dX1_copyFrom_17 : decode cX1_copyFrom 17 = .ok (.aload_n 1, 1) := by decide +kernel
theorem dX1_copyFrom_18 : decode cX1_copyFrom 18 = .ok (.getfield 34, 3) := by decide +kernel
theorem dX1_copyFrom_21 : decode cX1_copyFrom 21 = .ok (.putfield 34, 3) := by decide +kernel
theorem dX1_copyFrom_24 : decode cX1_copyFrom 24 = .ok (.aload_n 0, 1) := by decide +kernel
theorem dX1_copyFrom_25 : decode cX1_copyFrom 25 = .ok (.aload_n 1, 1) := by decide +kernel
theorem dX1_copyFrom_26 : decode cX1_copyFrom 26 = .ok (.getfield 37, 3) := by decide +kernel
theorem dX1_copyFrom_29 : decode cX1_copyFrom 29 = .ok (.putfield 37, 3) := by decide +kernel
theorem dX1_copyFrom_32 : decode cX1_copyFrom 32 = .ok (.aload_n 1, 1) := by decide +kernel
theorem dX1_copyFrom_33 : decode cX1_copyFrom 33 = .ok (.getfield 9, 3) := by decide +kernel
theorem dX1_copyFrom_36 : decode cX1_copyFrom 36 = .ok (.iconst 0, 1) := by decide +kernel
theorem dX1_copyFrom_37 : decode cX1_copyFrom 37 = .ok (.aload_n 0, 1) := by decide +kernel
theorem dX1_copyFrom_38 : decode cX1_copyFrom 38 = .ok (.getfield 9, 3) := by decide +kernel
theorem dX1_copyFrom_41 : decode cX1_copyFrom 41 = .ok (.iconst 0, 1) := by decide +kernel
theorem dX1_copyFrom_42 : decode cX1_copyFrom 42 = .ok (.bipush 6, 2) := by decide +kernel
theorem dX1_copyFrom_44 : decode cX1_copyFrom 44 = .ok (.invokestatic 40, 3) := by decide +kernel
theorem dX1_copyFrom_47 : decode cX1_copyFrom 47 = .ok (.aload_n 1, 1) := by decide +kernel
theorem dX1_copyFrom_48 : decode cX1_copyFrom 48 = .ok (.getfield 15, 3) := by decide +kernel
theorem dX1_copyFrom_51 : decode cX1_copyFrom 51 = .ok (.iconst 0, 1) := by decide +kernel
theorem dX1_copyFrom_52 : decode cX1_copyFrom 52 = .ok (.aload_n 0, 1) := by decide +kernel
theorem dX1_copyFrom_53 : decode cX1_copyFrom 53 = .ok (.getfield 15, 3) := by decide +kernel
theorem dX1_copyFrom_56 : decode cX1_copyFrom 56 = .ok (.iconst 0, 1) := by decide +kernel
theorem dX1_copyFrom_57 : decode cX1_copyFrom 57 = .ok (.bipush 6, 2) := by decide +kernel
theorem dX1_copyFrom_59 : decode cX1_copyFrom 59 = .ok (.invokestatic 40, 3) := by decide +kernel
theorem dX1_copyFrom_62 : decode cX1_copyFrom 62 = .ok (.aload_n 1, 1) := by decide +kernel
theorem dX1_copyFrom_63 : decode cX1_copyFrom 63 = .ok (.getfield 18, 3) := by decide +kernel
theorem dX1_copyFrom_66 : decode cX1_copyFrom 66 = .ok (.iconst 0, 1) := by decide +kernel
theorem dX1_copyFrom_67 : decode cX1_copyFrom 67 = .ok (.aload_n 0, 1) := by decide +kernel
theorem dX1_copyFrom_68 : decode cX1_copyFrom 68 = .ok (.getfield 18, 3) := by decide +kernel
theorem dX1_copyFrom_71 : decode cX1_copyFrom 71 = .ok (.iconst 0, 1) := by decide +kernel
theorem dX1_copyFrom_72 : decode cX1_copyFrom 72 = .ok (.bipush 8, 2) := by decide +kernel
theorem dX1_copyFrom_74 : decode cX1_copyFrom 74 = .ok (.invokestatic 40, 3) := by decide +kernel
theorem dX1_copyFrom_77 : decode cX1_copyFrom 77 = .ok (.aload_n 1, 1) := by decide +kernel
theorem dX1_copyFrom_78 : decode cX1_copyFrom 78 = .ok (.getfield 21, 3) := by decide +kernel
theorem dX1_copyFrom_81 : decode cX1_copyFrom 81 = .ok (.iconst 0, 1) := by decide +kernel
theorem dX1_copyFrom_82 : decode cX1_copyFrom 82 = .ok (.aload_n 0, 1) := by decide +kernel
theorem dX1_copyFrom_83 : decode cX1_copyFrom 83 = .ok (.getfield 21, 3) := by decide +kernel
theorem dX1_copyFrom_86 : decode cX1_copyFrom 86 = .ok (.iconst 0, 1) := by decide +kernel
theorem dX1_copyFrom_87 : decode cX1_copyFrom 87 = .ok (.bipush 8, 2) := by decide +kernel
theorem dX1_copyFrom_89 : decode cX1_copyFrom 89 = .ok (.invokestatic 40, 3) := by decide +kernel
theorem dX1_copyFrom_92 : decode cX1_copyFrom 92 = .ok (.aload_n 1, 1) := by decide +kernel
theorem dX1_copyFrom_93 : decode cX1_copyFrom 93 = .ok (.getfield 24, 3) := by decide +kernel
theorem dX1_copyFrom_96 : decode cX1_copyFrom 96 = .ok (.iconst 0, 1) := by decide +kernel
theorem dX1_copyFrom_97 : decode cX1_copyFrom 97 = .ok (.aload_n 0, 1) := by decide +kernel
theorem dX1_copyFrom_98 : decode cX1_copyFrom 98 = .ok (.getfield 24, 3) := by decide +kernel
theorem dX1_copyFrom_101 : decode cX1_copyFrom 101 = .ok (.iconst 0, 1) := by decide +kernel
theorem dX1_copyFrom_102 : decode cX1_copyFrom 102 = .ok (.bipush 8, 2) := by decide +kernel
theorem dX1_copyFrom_104 : decode cX1_copyFrom 104 = .ok (.invokestatic 40, 3) := by decide +kernel
theorem dX1_copyFrom_107 : decode cX1_copyFrom 107 = .ok (.return_, 1) := by decide +kernel
theorem dX1_depart_0 : decode cX1_depart 0 = .ok (.aload_n 0, 1) := by decide +kernel
theorem dX1_depart_1 : decode cX1_depart 1 = .ok (.getfield 27, 3) := by decide +kernel
theorem dX1_depart_4 : decode cX1_depart 4 = .ok (.bipush 6, 2) := by decide +kernel
theorem dX1_depart_6 : decode cX1_depart 6 = .ok (.if_icmp .lt 4, 3) := by decide +kernel
theorem dX1_depart_9 : decode cX1_depart 9 = .ok (.return_, 1) := by decide +kernel
theorem dX1_depart_10 : decode cX1_depart 10 = .ok (.aload_n 0, 1) := by decide +kernel
theorem dX1_depart_11 : decode cX1_depart 11 = .ok (.getfield 9, 3) := by decide +kernel
theorem dX1_depart_14 : decode cX1_depart 14 = .ok (.aload_n 0, 1) := by decide +kernel
theorem dX1_depart_15 : decode cX1_depart 15 = .ok (.getfield 27, 3) := by decide +kernel
theorem dX1_depart_18 : decode cX1_depart 18 = .ok (.iload_n 1, 1) := by decide +kernel
theorem dX1_depart_19 : decode cX1_depart 19 = .ok (.iastore, 1) := by decide +kernel
theorem dX1_depart_20 : decode cX1_depart 20 = .ok (.aload_n 0, 1) := by decide +kernel
theorem dX1_depart_21 : decode cX1_depart 21 = .ok (.getfield 15, 3) := by decide +kernel
theorem dX1_depart_24 : decode cX1_depart 24 = .ok (.aload_n 0, 1) := by decide +kernel
theorem dX1_depart_25 : decode cX1_depart 25 = .ok (.getfield 27, 3) := by decide +kernel
theorem dX1_depart_28 : decode cX1_depart 28 = .ok (.iload_n 2, 1) := by decide +kernel
theorem dX1_depart_29 : decode cX1_depart 29 = .ok (.iastore, 1) := by decide +kernel
theorem dX1_depart_30 : decode cX1_depart 30 = .ok (.aload_n 0, 1) := by decide +kernel
theorem dX1_depart_31 : decode cX1_depart 31 = .ok (.dup, 1) := by decide +kernel
theorem dX1_depart_32 : decode cX1_depart 32 = .ok (.getfield 31, 3) := by decide +kernel
theorem dX1_depart_35 : decode cX1_depart 35 = .ok (.iconst 1, 1) := by decide +kernel
theorem dX1_depart_36 : decode cX1_depart 36 = .ok (.iload_n 1, 1) := by decide +kernel
theorem dX1_depart_37 : decode cX1_depart 37 = .ok (.ishl, 1) := by decide +kernel
theorem dX1_depart_38 : decode cX1_depart 38 = .ok (.ior, 1) := by decide +kernel
theorem dX1_depart_39 : decode cX1_depart 39 = .ok (.putfield 31, 3) := by decide +kernel
theorem dX1_depart_42 : decode cX1_depart 42 = .ok (.aload_n 0, 1) := by decide +kernel
theorem dX1_depart_43 : decode cX1_depart 43 = .ok (.dup, 1) := by decide +kernel
theorem dX1_depart_44 : decode cX1_depart 44 = .ok (.getfield 34, 3) := by decide +kernel
theorem dX1_depart_47 : decode cX1_depart 47 = .ok (.iconst 1, 1) := by decide +kernel
theorem dX1_depart_48 : decode cX1_depart 48 = .ok (.iload_n 2, 1) := by decide +kernel
theorem dX1_depart_49 : decode cX1_depart 49 = .ok (.ishl, 1) := by decide +kernel
theorem dX1_depart_50 : decode cX1_depart 50 = .ok (.ior, 1) := by decide +kernel
theorem dX1_depart_51 : decode cX1_depart 51 = .ok (.putfield 34, 3) := by decide +kernel
theorem dX1_depart_54 : decode cX1_depart 54 = .ok (.aload_n 0, 1) := by decide +kernel
theorem dX1_depart_55 : decode cX1_depart 55 = .ok (.dup, 1) := by decide +kernel
theorem dX1_depart_56 : decode cX1_depart 56 = .ok (.getfield 27, 3) := by decide +kernel
theorem dX1_depart_59 : decode cX1_depart 59 = .ok (.iconst 1, 1) := by decide +kernel
theorem dX1_depart_60 : decode cX1_depart 60 = .ok (.iadd, 1) := by decide +kernel
theorem dX1_depart_61 : decode cX1_depart 61 = .ok (.putfield 27, 3) := by decide +kernel
theorem dX1_depart_64 : decode cX1_depart 64 = .ok (.return_, 1) := by decide +kernel
theorem dX1_takeBack_0 : decode cX1_takeBack 0 = .ok (.aload_n 0, 1) := by decide +kernel
theorem dX1_takeBack_1 : decode cX1_takeBack 1 = .ok (.getfield 27, 3) := by decide +kernel
theorem dX1_takeBack_4 : decode cX1_takeBack 4 = .ok (.ifCond .gt 4, 3) := by decide +kernel
theorem dX1_takeBack_7 : decode cX1_takeBack 7 = .ok (.return_, 1) := by decide +kernel
theorem dX1_takeBack_8 : decode cX1_takeBack 8 = .ok (.aload_n 0, 1) := by decide +kernel
theorem dX1_takeBack_9 : decode cX1_takeBack 9 = .ok (.dup, 1) := by decide +kernel
theorem dX1_takeBack_10 : decode cX1_takeBack 10 = .ok (.getfield 27, 3) := by decide +kernel
theorem dX1_takeBack_13 : decode cX1_takeBack 13 = .ok (.iconst 1, 1) := by decide +kernel
theorem dX1_takeBack_14 : decode cX1_takeBack 14 = .ok (.isub, 1) := by decide +kernel
theorem dX1_takeBack_15 : decode cX1_takeBack 15 = .ok (.putfield 27, 3) := by decide +kernel
theorem dX1_takeBack_18 : decode cX1_takeBack 18 = .ok (.aload_n 0, 1) := by decide +kernel
theorem dX1_takeBack_19 : decode cX1_takeBack 19 = .ok (.dup, 1) := by decide +kernel
theorem dX1_takeBack_20 : decode cX1_takeBack 20 = .ok (.getfield 31, 3) := by decide +kernel
theorem dX1_takeBack_23 : decode cX1_takeBack 23 = .ok (.iconst 1, 1) := by decide +kernel
theorem dX1_takeBack_24 : decode cX1_takeBack 24 = .ok (.aload_n 0, 1) := by decide +kernel
theorem dX1_takeBack_25 : decode cX1_takeBack 25 = .ok (.getfield 9, 3) := by decide +kernel
theorem dX1_takeBack_28 : decode cX1_takeBack 28 = .ok (.aload_n 0, 1) := by decide +kernel
theorem dX1_takeBack_29 : decode cX1_takeBack 29 = .ok (.getfield 27, 3) := by decide +kernel
theorem dX1_takeBack_32 : decode cX1_takeBack 32 = .ok (.iaload, 1) := by decide +kernel
theorem dX1_takeBack_33 : decode cX1_takeBack 33 = .ok (.ishl, 1) := by decide +kernel
theorem dX1_takeBack_34 : decode cX1_takeBack 34 = .ok (.iconst (-1), 1) := by decide +kernel
theorem dX1_takeBack_35 : decode cX1_takeBack 35 = .ok (.ixor, 1) := by decide +kernel
theorem dX1_takeBack_36 : decode cX1_takeBack 36 = .ok (.iand, 1) := by decide +kernel
theorem dX1_takeBack_37 : decode cX1_takeBack 37 = .ok (.putfield 31, 3) := by decide +kernel
theorem dX1_takeBack_40 : decode cX1_takeBack 40 = .ok (.aload_n 0, 1) := by decide +kernel
theorem dX1_takeBack_41 : decode cX1_takeBack 41 = .ok (.dup, 1) := by decide +kernel
theorem dX1_takeBack_42 : decode cX1_takeBack 42 = .ok (.getfield 34, 3) := by decide +kernel
theorem dX1_takeBack_45 : decode cX1_takeBack 45 = .ok (.iconst 1, 1) := by decide +kernel
theorem dX1_takeBack_46 : decode cX1_takeBack 46 = .ok (.aload_n 0, 1) := by decide +kernel
theorem dX1_takeBack_47 : decode cX1_takeBack 47 = .ok (.getfield 15, 3) := by decide +kernel
theorem dX1_takeBack_50 : decode cX1_takeBack 50 = .ok (.aload_n 0, 1) := by decide +kernel
theorem dX1_takeBack_51 : decode cX1_takeBack 51 = .ok (.getfield 27, 3) := by decide +kernel
theorem dX1_takeBack_54 : decode cX1_takeBack 54 = .ok (.iaload, 1) := by decide +kernel
theorem dX1_takeBack_55 : decode cX1_takeBack 55 = .ok (.ishl, 1) := by decide +kernel
theorem dX1_takeBack_56 : decode cX1_takeBack 56 = .ok (.iconst (-1), 1) := by decide +kernel
theorem dX1_takeBack_57 : decode cX1_takeBack 57 = .ok (.ixor, 1) := by decide +kernel
theorem dX1_takeBack_58 : decode cX1_takeBack 58 = .ok (.iand, 1) := by decide +kernel
theorem dX1_takeBack_59 : decode cX1_takeBack 59 = .ok (.putfield 34, 3) := by decide +kernel
theorem dX1_takeBack_62 : decode cX1_takeBack 62 = .ok (.return_, 1) := by decide +kernel
theorem dX1_placeOf_0 : decode cX1_placeOf 0 = .ok (.iconst 0, 1) := by decide +kernel
theorem dX1_placeOf_1 : decode cX1_placeOf 1 = .ok (.istore_n 2, 1) := by decide +kernel
theorem dX1_placeOf_2 : decode cX1_placeOf 2 = .ok (.iload_n 2, 1) := by decide +kernel
theorem dX1_placeOf_3 : decode cX1_placeOf 3 = .ok (.aload_n 0, 1) := by decide +kernel
theorem dX1_placeOf_4 : decode cX1_placeOf 4 = .ok (.getfield 27, 3) := by decide +kernel
theorem dX1_placeOf_7 : decode cX1_placeOf 7 = .ok (.if_icmp .ge 21, 3) := by decide +kernel
theorem dX1_placeOf_10 : decode cX1_placeOf 10 = .ok (.aload_n 0, 1) := by decide +kernel
theorem dX1_placeOf_11 : decode cX1_placeOf 11 = .ok (.getfield 9, 3) := by decide +kernel
theorem dX1_placeOf_14 : decode cX1_placeOf 14 = .ok (.iload_n 2, 1) := by decide +kernel
theorem dX1_placeOf_15 : decode cX1_placeOf 15 = .ok (.iaload, 1) := by decide +kernel
theorem dX1_placeOf_16 : decode cX1_placeOf 16 = .ok (.iload_n 1, 1) := by decide +kernel
theorem dX1_placeOf_17 : decode cX1_placeOf 17 = .ok (.if_icmp .ne 5, 3) := by decide +kernel
theorem dX1_placeOf_20 : decode cX1_placeOf 20 = .ok (.iload_n 2, 1) := by decide +kernel
theorem dX1_placeOf_21 : decode cX1_placeOf 21 = .ok (.ireturn, 1) := by decide +kernel
theorem dX1_placeOf_22 : decode cX1_placeOf 22 = .ok (.iinc 2 1, 3) := by decide +kernel
theorem dX1_placeOf_25 : decode cX1_placeOf 25 = .ok (.goto (-23), 3) := by decide +kernel
theorem dX1_placeOf_28 : decode cX1_placeOf 28 = .ok (.bipush (-9), 2) := by decide +kernel
theorem dX1_placeOf_30 : decode cX1_placeOf 30 = .ok (.ireturn, 1) := by decide +kernel
theorem dX1_noteSeen_0 : decode cX1_noteSeen 0 = .ok (.aload_n 0, 1) := by decide +kernel
theorem dX1_noteSeen_1 : decode cX1_noteSeen 1 = .ok (.getfield 37, 3) := by decide +kernel
theorem dX1_noteSeen_4 : decode cX1_noteSeen 4 = .ok (.bipush 8, 2) := by decide +kernel
theorem dX1_noteSeen_6 : decode cX1_noteSeen 6 = .ok (.if_icmp .lt 4, 3) := by decide +kernel
theorem dX1_noteSeen_9 : decode cX1_noteSeen 9 = .ok (.return_, 1) := by decide +kernel
theorem dX1_noteSeen_10 : decode cX1_noteSeen 10 = .ok (.aload_n 0, 1) := by decide +kernel
theorem dX1_noteSeen_11 : decode cX1_noteSeen 11 = .ok (.getfield 18, 3) := by decide +kernel
theorem dX1_noteSeen_14 : decode cX1_noteSeen 14 = .ok (.aload_n 0, 1) := by decide +kernel
theorem dX1_noteSeen_15 : decode cX1_noteSeen 15 = .ok (.getfield 37, 3) := by decide +kernel
theorem dX1_noteSeen_18 : decode cX1_noteSeen 18 = .ok (.iload_n 1, 1) := by decide +kernel
theorem dX1_noteSeen_19 : decode cX1_noteSeen 19 = .ok (.iastore, 1) := by decide +kernel
theorem dX1_noteSeen_20 : decode cX1_noteSeen 20 = .ok (.aload_n 0, 1) := by decide +kernel
theorem dX1_noteSeen_21 : decode cX1_noteSeen 21 = .ok (.getfield 21, 3) := by decide +kernel
theorem dX1_noteSeen_24 : decode cX1_noteSeen 24 = .ok (.aload_n 0, 1) := by decide +kernel
theorem dX1_noteSeen_25 : decode cX1_noteSeen 25 = .ok (.getfield 37, 3) := by decide +kernel
theorem dX1_noteSeen_28 : decode cX1_noteSeen 28 = .ok (.iload_n 2, 1) := by decide +kernel
theorem dX1_noteSeen_29 : decode cX1_noteSeen 29 = .ok (.iastore, 1) := by decide +kernel
theorem dX1_noteSeen_30 : decode cX1_noteSeen 30 = .ok (.aload_n 0, 1) := by decide +kernel
theorem dX1_noteSeen_31 : decode cX1_noteSeen 31 = .ok (.getfield 24, 3) := by decide +kernel
theorem dX1_noteSeen_34 : decode cX1_noteSeen 34 = .ok (.aload_n 0, 1) := by decide +kernel
theorem dX1_noteSeen_35 : decode cX1_noteSeen 35 = .ok (.getfield 37, 3) := by decide +kernel
theorem dX1_noteSeen_38 : decode cX1_noteSeen 38 = .ok (.iload_n 3, 1) := by decide +kernel
theorem dX1_noteSeen_39 : decode cX1_noteSeen 39 = .ok (.iastore, 1) := by decide +kernel
theorem dX1_noteSeen_40 : decode cX1_noteSeen 40 = .ok (.aload_n 0, 1) := by decide +kernel
theorem dX1_noteSeen_41 : decode cX1_noteSeen 41 = .ok (.dup, 1) := by decide +kernel
theorem dX1_noteSeen_42 : decode cX1_noteSeen 42 = .ok (.getfield 37, 3) := by decide +kernel
theorem dX1_noteSeen_45 : decode cX1_noteSeen 45 = .ok (.iconst 1, 1) := by decide +kernel
theorem dX1_noteSeen_46 : decode cX1_noteSeen 46 = .ok (.iadd, 1) := by decide +kernel
theorem dX1_noteSeen_47 : decode cX1_noteSeen 47 = .ok (.putfield 37, 3) := by decide +kernel
theorem dX1_noteSeen_50 : decode cX1_noteSeen 50 = .ok (.return_, 1) := by decide +kernel
theorem dX1_sawLaterThan_0 : decode cX1_sawLaterThan 0 = .ok (.iconst 0, 1) := by decide +kernel
theorem dX1_sawLaterThan_1 : decode cX1_sawLaterThan 1 = .ok (.istore_n 2, 1) := by decide +kernel
theorem dX1_sawLaterThan_2 : decode cX1_sawLaterThan 2 = .ok (.iload_n 2, 1) := by decide +kernel
theorem dX1_sawLaterThan_3 : decode cX1_sawLaterThan 3 = .ok (.aload_n 0, 1) := by decide +kernel
theorem dX1_sawLaterThan_4 : decode cX1_sawLaterThan 4 = .ok (.getfield 37, 3) := by decide +kernel
theorem dX1_sawLaterThan_7 : decode cX1_sawLaterThan 7 = .ok (.if_icmp .ge 21, 3) := by decide +kernel
theorem dX1_sawLaterThan_10 : decode cX1_sawLaterThan 10 = .ok (.aload_n 0, 1) := by decide +kernel
theorem dX1_sawLaterThan_11 : decode cX1_sawLaterThan 11 = .ok (.getfield 18, 3) := by decide +kernel
theorem dX1_sawLaterThan_14 : decode cX1_sawLaterThan 14 = .ok (.iload_n 2, 1) := by decide +kernel
theorem dX1_sawLaterThan_15 : decode cX1_sawLaterThan 15 = .ok (.iaload, 1) := by decide +kernel
theorem dX1_sawLaterThan_16 : decode cX1_sawLaterThan 16 = .ok (.iload_n 1, 1) := by decide +kernel
theorem dX1_sawLaterThan_17 : decode cX1_sawLaterThan 17 = .ok (.if_icmp .le 5, 3) := by decide +kernel
theorem dX1_sawLaterThan_20 : decode cX1_sawLaterThan 20 = .ok (.iconst 1, 1) := by decide +kernel
theorem dX1_sawLaterThan_21 : decode cX1_sawLaterThan 21 = .ok (.ireturn, 1) := by decide +kernel
theorem dX1_sawLaterThan_22 : decode cX1_sawLaterThan 22 = .ok (.iinc 2 1, 3) := by decide +kernel
theorem dX1_sawLaterThan_25 : decode cX1_sawLaterThan 25 = .ok (.goto (-23), 3) := by decide +kernel
theorem dX1_sawLaterThan_28 : decode cX1_sawLaterThan 28 = .ok (.iconst 0, 1) := by decide +kernel
theorem dX1_sawLaterThan_29 : decode cX1_sawLaterThan 29 = .ok (.ireturn, 1) := by decide +kernel
theorem dX1_agrees_0 : decode cX1_agrees 0 = .ok (.iconst 0, 1) := by decide +kernel
theorem dX1_agrees_1 : decode cX1_agrees 1 = .ok (.istore_n 3, 1) := by decide +kernel
theorem dX1_agrees_2 : decode cX1_agrees 2 = .ok (.iload_n 3, 1) := by decide +kernel
theorem dX1_agrees_3 : decode cX1_agrees 3 = .ok (.aload_n 0, 1) := by decide +kernel
theorem dX1_agrees_4 : decode cX1_agrees 4 = .ok (.getfield 37, 3) := by decide +kernel
theorem dX1_agrees_7 : decode cX1_agrees 7 = .ok (.if_icmp .ge 40, 3) := by decide +kernel
theorem dX1_agrees_10 : decode cX1_agrees 10 = .ok (.aload_n 0, 1) := by decide +kernel
theorem dX1_agrees_11 : decode cX1_agrees 11 = .ok (.getfield 18, 3) := by decide +kernel
theorem dX1_agrees_14 : decode cX1_agrees 14 = .ok (.iload_n 3, 1) := by decide +kernel
theorem dX1_agrees_15 : decode cX1_agrees 15 = .ok (.iaload, 1) := by decide +kernel
theorem dX1_agrees_16 : decode cX1_agrees 16 = .ok (.iload_n 1, 1) := by decide +kernel
theorem dX1_agrees_17 : decode cX1_agrees 17 = .ok (.if_icmp .ne 24, 3) := by decide +kernel
theorem dX1_agrees_20 : decode cX1_agrees 20 = .ok (.iload_n 2, 1) := by decide +kernel
theorem dX1_agrees_21 : decode cX1_agrees 21 = .ok (.aload_n 0, 1) := by decide +kernel
theorem dX1_agrees_22 : decode cX1_agrees 22 = .ok (.getfield 21, 3) := by decide +kernel
theorem dX1_agrees_25 : decode cX1_agrees 25 = .ok (.iload_n 3, 1) := by decide +kernel
theorem dX1_agrees_26 : decode cX1_agrees 26 = .ok (.iaload, 1) := by decide +kernel
theorem dX1_agrees_27 : decode cX1_agrees 27 = .ok (.invokestatic 46, 3) := by decide +kernel
theorem dX1_agrees_30 : decode cX1_agrees 30 = .ok (.aload_n 0, 1) := by decide +kernel
theorem dX1_agrees_31 : decode cX1_agrees 31 = .ok (.getfield 24, 3) := by decide +kernel
theorem dX1_agrees_34 : decode cX1_agrees 34 = .ok (.iload_n 3, 1) := by decide +kernel
theorem dX1_agrees_35 : decode cX1_agrees 35 = .ok (.iaload, 1) := by decide +kernel
theorem dX1_agrees_36 : decode cX1_agrees 36 = .ok (.if_icmp .eq 5, 3) := by decide +kernel
theorem dX1_agrees_39 : decode cX1_agrees 39 = .ok (.iconst 0, 1) := by decide +kernel
theorem dX1_agrees_40 : decode cX1_agrees 40 = .ok (.ireturn, 1) := by decide +kernel
theorem dX1_agrees_41 : decode cX1_agrees 41 = .ok (.iinc 3 1, 3) := by decide +kernel
theorem dX1_agrees_44 : decode cX1_agrees 44 = .ok (.goto (-42), 3) := by decide +kernel
theorem dX1_agrees_47 : decode cX1_agrees 47 = .ok (.iconst 1, 1) := by decide +kernel
theorem dX1_agrees_48 : decode cX1_agrees 48 = .ok (.ireturn, 1) := by decide +kernel
theorem dX2_init_0 : decode cX2_init 0 = .ok (.aload_n 0, 1) := by decide +kernel
theorem dX2_init_1 : decode cX2_init 1 = .ok (.invokespecial 3, 3) := by decide +kernel
theorem dX2_init_4 : decode cX2_init 4 = .ok (.aload_n 0, 1) := by decide +kernel
theorem dX2_init_5 : decode cX2_init 5 = .ok (.sipush 128, 3) := by decide +kernel
theorem dX2_init_8 : decode cX2_init 8 = .ok (.newarray .int, 2) := by decide +kernel
theorem dX2_init_10 : decode cX2_init 10 = .ok (.putfield 9, 3) := by decide +kernel
theorem dX2_init_13 : decode cX2_init 13 = .ok (.aload_n 0, 1) := by decide +kernel
theorem dX2_init_14 : decode cX2_init 14 = .ok (.bipush 64, 2) := by decide +kernel
theorem dX2_init_16 : decode cX2_init 16 = .ok (.newarray .int, 2) := by decide +kernel
theorem dX2_init_18 : decode cX2_init 18 = .ok (.putfield 15, 3) := by decide +kernel
theorem dX2_init_21 : decode cX2_init 21 = .ok (.aload_n 0, 1) := by decide +kernel
theorem dX2_init_22 : decode cX2_init 22 = .ok (.sipush 4096, 3) := by decide +kernel
theorem dX2_init_25 : decode cX2_init 25 = .ok (.newarray .int, 2) := by decide +kernel
theorem dX2_init_27 : decode cX2_init 27 = .ok (.putfield 18, 3) := by decide +kernel
theorem dX2_init_30 : decode cX2_init 30 = .ok (.aload_n 0, 1) := by decide +kernel
theorem dX2_init_31 : decode cX2_init 31 = .ok (.sipush 4096, 3) := by decide +kernel
theorem dX2_init_34 : decode cX2_init 34 = .ok (.newarray .int, 2) := by decide +kernel
theorem dX2_init_36 : decode cX2_init 36 = .ok (.putfield 21, 3) := by decide +kernel
theorem dX2_init_39 : decode cX2_init 39 = .ok (.aload_n 0, 1) := by decide +kernel
theorem dX2_init_40 : decode cX2_init 40 = .ok (.aload_n 1, 1) := by decide +kernel
theorem dX2_init_41 : decode cX2_init 41 = .ok (.putfield 24, 3) := by decide +kernel
theorem dX2_init_44 : decode cX2_init 44 = .ok (.return_, 1) := by decide +kernel
theorem dX2_lookAt_0 : decode cX2_lookAt 0 = .ok (.aload_n 0, 1) := by decide +kernel
theorem dX2_lookAt_1 : decode cX2_lookAt 1 = .ok (.aload_n 1, 1) := by decide +kernel
theorem dX2_lookAt_2 : decode cX2_lookAt 2 = .ok (.putfield 24, 3) := by decide +kernel
theorem dX2_lookAt_5 : decode cX2_lookAt 5 = .ok (.aload_n 0, 1) := by decide +kernel
theorem dX2_lookAt_6 : decode cX2_lookAt 6 = .ok (.iconst 0, 1) := by decide +kernel
theorem dX2_lookAt_7 : decode cX2_lookAt 7 = .ok (.putfield 28, 3) := by decide +kernel
theorem dX2_lookAt_10 : decode cX2_lookAt 10 = .ok (.return_, 1) := by decide +kernel
theorem dX2_mostOf_0 : decode cX2_mostOf 0 = .ok (.aload_n 0, 1) := by decide +kernel
theorem dX2_mostOf_1 : decode cX2_mostOf 1 = .ok (.iload_n 1, 1) := by decide +kernel
theorem dX2_mostOf_2 : decode cX2_mostOf 2 = .ok (.iconst 1, 1) := by decide +kernel
theorem dX2_mostOf_3 : decode cX2_mostOf 3 = .ok (.aload_n 0, 1) := by decide +kernel
theorem dX2_mostOf_4 : decode cX2_mostOf 4 = .ok (.getfield 24, 3) := by decide +kernel
theorem dX2_mostOf_7 : decode cX2_mostOf 7 = .ok (.getfield 32, 3) := by decide +kernel
theorem dX2_mostOf_10 : decode cX2_mostOf 10 = .ok (.ishl, 1) := by decide +kernel
theorem dX2_mostOf_11 : decode cX2_mostOf 11 = .ok (.invokevirtual 38, 3) := by decide +kernel
theorem dX2_mostOf_14 : decode cX2_mostOf 14 = .ok (.aload_n 0, 1) := by decide +kernel
theorem dX2_mostOf_15 : decode cX2_mostOf 15 = .ok (.getfield 9, 3) := by decide +kernel
theorem dX2_mostOf_18 : decode cX2_mostOf 18 = .ok (.iload_n 2, 1) := by decide +kernel
theorem dX2_mostOf_19 : decode cX2_mostOf 19 = .ok (.iaload, 1) := by decide +kernel
theorem dX2_mostOf_20 : decode cX2_mostOf 20 = .ok (.ireturn, 1) := by decide +kernel
theorem dX2_mostWithOneMore_0 : decode cX2_mostWithOneMore 0 = .ok (.aload_n 0, 1) := by decide +kernel
theorem dX2_mostWithOneMore_1 : decode cX2_mostWithOneMore 1 = .ok (.iload_n 1, 1) := by decide +kernel
theorem dX2_mostWithOneMore_2 : decode cX2_mostWithOneMore 2 = .ok (.iconst 2, 1) := by decide +kernel
theorem dX2_mostWithOneMore_3 : decode cX2_mostWithOneMore 3 = .ok (.aload_n 0, 1) := by decide +kernel
theorem dX2_mostWithOneMore_4 : decode cX2_mostWithOneMore 4 = .ok (.getfield 24, 3) := by decide +kernel
theorem dX2_mostWithOneMore_7 : decode cX2_mostWithOneMore 7 = .ok (.getfield 32, 3) := by decide +kernel
theorem dX2_mostWithOneMore_10 : decode cX2_mostWithOneMore 10 = .ok (.ishl, 1) := by decide +kernel
theorem dX2_mostWithOneMore_11 : decode cX2_mostWithOneMore 11 = .ok (.invokevirtual 38, 3) := by decide +kernel
theorem dX2_mostWithOneMore_14 : decode cX2_mostWithOneMore 14 = .ok (.aload_n 0, 1) := by decide +kernel
theorem dX2_mostWithOneMore_15 : decode cX2_mostWithOneMore 15 = .ok (.getfield 9, 3) := by decide +kernel
theorem dX2_mostWithOneMore_18 : decode cX2_mostWithOneMore 18 = .ok (.iload_n 2, 1) := by decide +kernel
theorem dX2_mostWithOneMore_19 : decode cX2_mostWithOneMore 19 = .ok (.iconst 1, 1) := by decide +kernel
theorem dX2_mostWithOneMore_20 : decode cX2_mostWithOneMore 20 = .ok (.aload_n 0, 1) := by decide +kernel
theorem dX2_mostWithOneMore_21 : decode cX2_mostWithOneMore 21 = .ok (.getfield 24, 3) := by decide +kernel
theorem dX2_mostWithOneMore_24 : decode cX2_mostWithOneMore 24 = .ok (.getfield 32, 3) := by decide +kernel
theorem dX2_mostWithOneMore_27 : decode cX2_mostWithOneMore 27 = .ok (.ishl, 1) := by decide +kernel
theorem dX2_mostWithOneMore_28 : decode cX2_mostWithOneMore 28 = .ok (.ior, 1) := by decide +kernel
theorem dX2_mostWithOneMore_29 : decode cX2_mostWithOneMore 29 = .ok (.iaload, 1) := by decide +kernel
theorem dX2_mostWithOneMore_30 : decode cX2_mostWithOneMore 30 = .ok (.ireturn, 1) := by decide +kernel
theorem dX2_fillLongest_0 : decode cX2_fillLongest 0 = .ok (.iconst 0, 1) := by decide +kernel
theorem dX2_fillLongest_1 : decode cX2_fillLongest 1 = .ok (.istore_n 3, 1) := by decide +kernel
theorem dX2_fillLongest_2 : decode cX2_fillLongest 2 = .ok (.iload_n 3, 1) := by decide +kernel
theorem dX2_fillLongest_3 : decode cX2_fillLongest 3 = .ok (.iload_n 2, 1) := by decide +kernel
theorem dX2_fillLongest_4 : decode cX2_fillLongest 4 = .ok (.if_icmp .ge 85, 3) := by decide +kernel
theorem dX2_fillLongest_7 : decode cX2_fillLongest 7 = .ok (.iconst (-1), 1) := by decide +kernel
theorem dX2_fillLongest_8 : decode cX2_fillLongest 8 = .ok (.istore 4, 2) := by decide +kernel
theorem dX2_fillLongest_10 : decode cX2_fillLongest 10 = .ok (.iconst 0, 1) := by decide +kernel
theorem dX2_fillLongest_11 : decode cX2_fillLongest 11 = .ok (.istore 5, 2) := by decide +kernel
theorem dX2_fillLongest_13 : decode cX2_fillLongest 13 = .ok (.iload 5, 2) := by decide +kernel
theorem dX2_fillLongest_15 : decode cX2_fillLongest 15 = .ok (.bipush 7, 2) := by decide +kernel
theorem dX2_fillLongest_17 : decode cX2_fillLongest 17 = .ok (.if_icmp .ge 39, 3) := by decide +kernel
theorem dX2_fillLongest_20 : decode cX2_fillLongest 20 = .ok (.iload_n 3, 1) := by decide +kernel
theorem dX2_fillLongest_21 : decode cX2_fillLongest 21 = .ok (.iload 5, 2) := by decide +kernel
theorem dX2_fillLongest_23 : decode cX2_fillLongest 23 = .ok (.invokestatic 42, 3) := by decide +kernel
theorem dX2_fillLongest_26 : decode cX2_fillLongest 26 = .ok (.iconst 1, 1) := by decide +kernel
theorem dX2_fillLongest_27 : decode cX2_fillLongest 27 = .ok (.if_icmp .ne 23, 3) := by decide +kernel
theorem dX2_fillLongest_30 : decode cX2_fillLongest 30 = .ok (.iload 4, 2) := by decide +kernel
theorem dX2_fillLongest_32 : decode cX2_fillLongest 32 = .ok (.aload_n 0, 1) := by decide +kernel
theorem dX2_fillLongest_33 : decode cX2_fillLongest 33 = .ok (.getfield 9, 3) := by decide +kernel
theorem dX2_fillLongest_36 : decode cX2_fillLongest 36 = .ok (.iload_n 3, 1) := by decide +kernel
theorem dX2_fillLongest_37 : decode cX2_fillLongest 37 = .ok (.iconst 1, 1) := by decide +kernel
theorem dX2_fillLongest_38 : decode cX2_fillLongest 38 = .ok (.iload 5, 2) := by decide +kernel
theorem dX2_fillLongest_40 : decode cX2_fillLongest 40 = .ok (.ishl, 1) := by decide +kernel
theorem dX2_fillLongest_41 : decode cX2_fillLongest 41 = .ok (.iconst (-1), 1) := by decide +kernel
theorem dX2_fillLongest_42 : decode cX2_fillLongest 42 = .ok (.ixor, 1) := by decide +kernel
theorem dX2_fillLongest_43 : decode cX2_fillLongest 43 = .ok (.iand, 1) := by decide +kernel
theorem dX2_fillLongest_44 : decode cX2_fillLongest 44 = .ok (.iaload, 1) := by decide +kernel
theorem dX2_fillLongest_45 : decode cX2_fillLongest 45 = .ok (.invokestatic 46, 3) := by decide +kernel
theorem dX2_fillLongest_48 : decode cX2_fillLongest 48 = .ok (.istore 4, 2) := by decide +kernel
theorem dX2_fillLongest_50 : decode cX2_fillLongest 50 = .ok (.iinc 5 1, 3) := by decide +kernel
theorem dX2_fillLongest_53 : decode cX2_fillLongest 53 = .ok (.goto (-40), 3) := by decide +kernel
theorem dX2_fillLongest_56 : decode cX2_fillLongest 56 = .ok (.aload_n 0, 1) := by decide +kernel
theorem dX2_fillLongest_57 : decode cX2_fillLongest 57 = .ok (.getfield 9, 3) := by decide +kernel
theorem dX2_fillLongest_60 : decode cX2_fillLongest 60 = .ok (.iload_n 3, 1) := by decide +kernel
theorem dX2_fillLongest_61 : decode cX2_fillLongest 61 = .ok (.aload_n 0, 1) := by decide +kernel
theorem dX2_fillLongest_62 : decode cX2_fillLongest 62 = .ok (.getfield 24, 3) := by decide +kernel
theorem dX2_fillLongest_65 : decode cX2_fillLongest 65 = .ok (.getfield 51, 3) := by decide +kernel
theorem dX2_fillLongest_68 : decode cX2_fillLongest 68 = .ok (.iload_n 3, 1) := by decide +kernel
theorem dX2_fillLongest_69 : decode cX2_fillLongest 69 = .ok (.iaload, 1) := by decide +kernel
theorem dX2_fillLongest_70 : decode cX2_fillLongest 70 = .ok (.iload_n 1, 1) := by decide +kernel
theorem dX2_fillLongest_71 : decode cX2_fillLongest 71 = .ok (.iand, 1) := by decide +kernel
theorem dX2_fillLongest_72 : decode cX2_fillLongest 72 = .ok (.invokestatic 54, 3) := by decide +kernel
theorem dX2_fillLongest_75 : decode cX2_fillLongest 75 = .ok (.iconst 1, 1) := by decide +kernel
theorem dX2_fillLongest_76 : decode cX2_fillLongest 76 = .ok (.iload 4, 2) := by decide +kernel
theorem dX2_fillLongest_78 : decode cX2_fillLongest 78 = .ok (.iadd, 1) := by decide +kernel
theorem dX2_fillLongest_79 : decode cX2_fillLongest 79 = .ok (.invokestatic 60, 3) := by decide +kernel
theorem dX2_fillLongest_82 : decode cX2_fillLongest 82 = .ok (.iastore, 1) := by decide +kernel
theorem dX2_fillLongest_83 : decode cX2_fillLongest 83 = .ok (.iinc 3 1, 3) := by decide +kernel
theorem dX2_fillLongest_86 : decode cX2_fillLongest 86 = .ok (.goto (-84), 3) := by decide +kernel
theorem dX2_fillLongest_89 : decode cX2_fillLongest 89 = .ok (.return_, 1) := by decide +kernel
theorem dX2_barOf_0 : decode cX2_barOf 0 = .ok (.aload_n 0, 1) := by decide +kernel
theorem dX2_barOf_1 : decode cX2_barOf 1 = .ok (.iload_n 1, 1) := by decide +kernel
theorem dX2_barOf_2 : decode cX2_barOf 2 = .ok (.iload_n 2, 1) := by decide +kernel
theorem dX2_barOf_3 : decode cX2_barOf 3 = .ok (.invokevirtual 63, 3) := by decide +kernel
theorem dX2_barOf_6 : decode cX2_barOf 6 = .ok (.istore_n 3, 1) := by decide +kernel
theorem dX2_barOf_7 : decode cX2_barOf 7 = .ok (.iload_n 3, 1) := by decide +kernel
theorem dX2_barOf_8 : decode cX2_barOf 8 = .ok (.ifCond .ne 6, 3) := by decide +kernel
theorem dX2_barOf_11 : decode cX2_barOf 11 = .ok (.bipush (-9), 2) := by decide +kernel
theorem dX2_barOf_13 : decode cX2_barOf 13 = .ok (.ireturn, 1) := by decide +kernel
theorem dX2_barOf_14 : decode cX2_barOf 14 = .ok (.iload_n 2, 1) := by decide +kernel
theorem dX2_barOf_15 : decode cX2_barOf 15 = .ok (.istore 4, 2) := by decide +kernel
theorem dX2_barOf_17 : decode cX2_barOf 17 = .ok (.iconst 1, 1) := by decide +kernel
theorem dX2_barOf_18 : decode cX2_barOf 18 = .ok (.istore 5, 2) := by decide +kernel
theorem dX2_barOf_20 : decode cX2_barOf 20 = .ok (.iload 5, 2) := by decide +kernel
theorem dX2_barOf_22 : decode cX2_barOf 22 = .ok (.iload_n 2, 1) := by decide +kernel
theorem dX2_barOf_23 : decode cX2_barOf 23 = .ok (.if_icmp .ge 62, 3) := by decide +kernel
theorem dX2_barOf_26 : decode cX2_barOf 26 = .ok (.iload 5, 2) := by decide +kernel
theorem dX2_barOf_28 : decode cX2_barOf 28 = .ok (.iload_n 2, 1) := by decide +kernel
theorem dX2_barOf_29 : decode cX2_barOf 29 = .ok (.iconst (-1), 1) := by decide +kernel
theorem dX2_barOf_30 : decode cX2_barOf 30 = .ok (.ixor, 1) := by decide +kernel
theorem dX2_barOf_31 : decode cX2_barOf 31 = .ok (.iand, 1) := by decide +kernel
theorem dX2_barOf_32 : decode cX2_barOf 32 = .ok (.ifCond .ne 22, 3) := by decide +kernel
theorem dX2_barOf_35 : decode cX2_barOf 35 = .ok (.aload_n 0, 1) := by decide +kernel
theorem dX2_barOf_36 : decode cX2_barOf 36 = .ok (.getfield 9, 3) := by decide +kernel
theorem dX2_barOf_39 : decode cX2_barOf 39 = .ok (.iload_n 2, 1) := by decide +kernel
theorem dX2_barOf_40 : decode cX2_barOf 40 = .ok (.iload 5, 2) := by decide +kernel
theorem dX2_barOf_42 : decode cX2_barOf 42 = .ok (.iconst (-1), 1) := by decide +kernel
theorem dX2_barOf_43 : decode cX2_barOf 43 = .ok (.ixor, 1) := by decide +kernel
theorem dX2_barOf_44 : decode cX2_barOf 44 = .ok (.iand, 1) := by decide +kernel
theorem dX2_barOf_45 : decode cX2_barOf 45 = .ok (.iaload, 1) := by decide +kernel
theorem dX2_barOf_46 : decode cX2_barOf 46 = .ok (.iload_n 3, 1) := by decide +kernel
theorem dX2_barOf_47 : decode cX2_barOf 47 = .ok (.if_icmp .ge 7, 3) := by decide +kernel
theorem dX2_barOf_50 : decode cX2_barOf 50 = .ok (.iconst 1, 1) := by decide +kernel
theorem dX2_barOf_51 : decode cX2_barOf 51 = .ok (.goto 4, 3) := by decide +kernel
theorem dX2_barOf_54 : decode cX2_barOf 54 = .ok (.iconst 0, 1) := by decide +kernel
theorem dX2_barOf_55 : decode cX2_barOf 55 = .ok (.istore 6, 2) := by decide +kernel
theorem dX2_barOf_57 : decode cX2_barOf 57 = .ok (.iload 6, 2) := by decide +kernel
theorem dX2_barOf_59 : decode cX2_barOf 59 = .ok (.ifCond .eq 20, 3) := by decide +kernel
theorem dX2_barOf_62 : decode cX2_barOf 62 = .ok (.iload 5, 2) := by decide +kernel
theorem dX2_barOf_64 : decode cX2_barOf 64 = .ok (.invokestatic 54, 3) := by decide +kernel
theorem dX2_barOf_67 : decode cX2_barOf 67 = .ok (.iload 4, 2) := by decide +kernel
theorem dX2_barOf_69 : decode cX2_barOf 69 = .ok (.invokestatic 54, 3) := by decide +kernel
theorem dX2_barOf_72 : decode cX2_barOf 72 = .ok (.if_icmp .ge 7, 3) := by decide +kernel
theorem dX2_barOf_75 : decode cX2_barOf 75 = .ok (.iload 5, 2) := by decide +kernel
theorem dX2_barOf_77 : decode cX2_barOf 77 = .ok (.istore 4, 2) := by decide +kernel
theorem dX2_barOf_79 : decode cX2_barOf 79 = .ok (.iinc 5 1, 3) := by decide +kernel
theorem dX2_barOf_82 : decode cX2_barOf 82 = .ok (.goto (-62), 3) := by decide +kernel
theorem dX2_barOf_85 : decode cX2_barOf 85 = .ok (.iload 4, 2) := by decide +kernel
theorem dX2_barOf_87 : decode cX2_barOf 87 = .ok (.ireturn, 1) := by decide +kernel
theorem dX2_follow_0 : decode cX2_follow 0 = .ok (.iload_n 1, 1) := by decide +kernel
theorem dX2_follow_1 : decode cX2_follow 1 = .ok (.istore 4, 2) := by decide +kernel
theorem dX2_follow_3 : decode cX2_follow 3 = .ok (.iload_n 2, 1) := by decide +kernel
theorem dX2_follow_4 : decode cX2_follow 4 = .ok (.istore 5, 2) := by decide +kernel
theorem dX2_follow_6 : decode cX2_follow 6 = .ok (.aload_n 0, 1) := by decide +kernel
theorem dX2_follow_7 : decode cX2_follow 7 = .ok (.iload_n 1, 1) := by decide +kernel
theorem dX2_follow_8 : decode cX2_follow 8 = .ok (.iload_n 2, 1) := by decide +kernel
theorem dX2_follow_9 : decode cX2_follow 9 = .ok (.invokevirtual 63, 3) := by decide +kernel
theorem dX2_follow_12 : decode cX2_follow 12 = .ok (.istore 6, 2) := by decide +kernel
theorem dX2_follow_14 : decode cX2_follow 14 = .ok (.iconst 0, 1) := by decide +kernel
theorem dX2_follow_15 : decode cX2_follow 15 = .ok (.istore 7, 2) := by decide +kernel
theorem dX2_follow_17 : decode cX2_follow 17 = .ok (.iload 7, 2) := by decide +kernel
theorem dX2_follow_19 : decode cX2_follow 19 = .ok (.iload_n 3, 1) := by decide +kernel
theorem dX2_follow_20 : decode cX2_follow 20 = .ok (.if_icmp .gt 57, 3) := by decide +kernel
theorem dX2_follow_23 : decode cX2_follow 23 = .ok (.iload 7, 2) := by decide +kernel
theorem dX2_follow_25 : decode cX2_follow 25 = .ok (.iload 6, 2) := by decide +kernel
theorem dX2_follow_27 : decode cX2_follow 27 = .ok (.if_icmp .ge 50, 3) := by decide +kernel
theorem dX2_follow_30 : decode cX2_follow 30 = .ok (.aload_n 0, 1) := by decide +kernel
theorem dX2_follow_31 : decode cX2_follow 31 = .ok (.iload 4, 2) := by decide +kernel
theorem dX2_follow_33 : decode cX2_follow 33 = .ok (.iload 5, 2) := by decide +kernel
theorem dX2_follow_35 : decode cX2_follow 35 = .ok (.iload 6, 2) := by decide +kernel
theorem dX2_follow_37 : decode cX2_follow 37 = .ok (.iload 7, 2) := by decide +kernel
theorem dX2_follow_39 : decode cX2_follow 39 = .ok (.isub, 1) := by decide +kernel
theorem dX2_follow_40 : decode cX2_follow 40 = .ok (.iconst 1, 1) := by decide +kernel
theorem dX2_follow_41 : decode cX2_follow 41 = .ok (.isub, 1) := by decide +kernel
theorem dX2_follow_42 : decode cX2_follow 42 = .ok (.invokevirtual 66, 3) := by decide +kernel
theorem dX2_follow_45 : decode cX2_follow 45 = .ok (.iload 4, 2) := by decide +kernel
theorem dX2_follow_47 : decode cX2_follow 47 = .ok (.iconst 1, 1) := by decide +kernel
theorem dX2_follow_48 : decode cX2_follow 48 = .ok (.aload_n 0, 1) := by decide +kernel
theorem dX2_follow_49 : decode cX2_follow 49 = .ok (.getfield 70, 3) := by decide +kernel
theorem dX2_follow_52 : decode cX2_follow 52 = .ok (.ishl, 1) := by decide +kernel
theorem dX2_follow_53 : decode cX2_follow 53 = .ok (.iconst (-1), 1) := by decide +kernel
theorem dX2_follow_54 : decode cX2_follow 54 = .ok (.ixor, 1) := by decide +kernel
theorem dX2_follow_55 : decode cX2_follow 55 = .ok (.iand, 1) := by decide +kernel
theorem dX2_follow_56 : decode cX2_follow 56 = .ok (.istore 4, 2) := by decide +kernel
theorem dX2_follow_58 : decode cX2_follow 58 = .ok (.iload 5, 2) := by decide +kernel
theorem dX2_follow_60 : decode cX2_follow 60 = .ok (.iconst 1, 1) := by decide +kernel
theorem dX2_follow_61 : decode cX2_follow 61 = .ok (.aload_n 0, 1) := by decide +kernel
theorem dX2_follow_62 : decode cX2_follow 62 = .ok (.getfield 73, 3) := by decide +kernel
theorem dX2_follow_65 : decode cX2_follow 65 = .ok (.ishl, 1) := by decide +kernel
theorem dX2_follow_66 : decode cX2_follow 66 = .ok (.iconst (-1), 1) := by decide +kernel
theorem dX2_follow_67 : decode cX2_follow 67 = .ok (.ixor, 1) := by decide +kernel
theorem dX2_follow_68 : decode cX2_follow 68 = .ok (.iand, 1) := by decide +kernel
theorem dX2_follow_69 : decode cX2_follow 69 = .ok (.istore 5, 2) := by decide +kernel
theorem dX2_follow_71 : decode cX2_follow 71 = .ok (.iinc 7 1, 3) := by decide +kernel
theorem dX2_follow_74 : decode cX2_follow 74 = .ok (.goto (-57), 3) := by decide +kernel
theorem dX2_follow_77 : decode cX2_follow 77 = .ok (.return_, 1) := by decide +kernel
theorem dX2_choose_0 : decode cX2_choose 0 = .ok (.iconst 0, 1) := by decide +kernel
theorem dX2_choose_1 : decode cX2_choose 1 = .ok (.istore 4, 2) := by decide +kernel
theorem dX2_choose_3 : decode cX2_choose 3 = .ok (.iload 4, 2) := by decide +kernel
theorem dX2_choose_5 : decode cX2_choose 5 = .ok (.aload_n 0, 1) := by decide +kernel
theorem dX2_choose_6 : decode cX2_choose 6 = .ok (.getfield 24, 3) := by decide +kernel
theorem dX2_choose_9 : decode cX2_choose 9 = .ok (.getfield 76, 3) := by decide +kernel
theorem dX2_choose_12 : decode cX2_choose 12 = .ok (.if_icmp .ge 113, 3) := by decide +kernel
theorem dX2_choose_15 : decode cX2_choose 15 = .ok (.iload_n 1, 1) := by decide +kernel
theorem dX2_choose_16 : decode cX2_choose 16 = .ok (.aload_n 0, 1) := by decide +kernel
theorem dX2_choose_17 : decode cX2_choose 17 = .ok (.getfield 24, 3) := by decide +kernel
theorem dX2_choose_20 : decode cX2_choose 20 = .ok (.getfield 51, 3) := by decide +kernel
theorem dX2_choose_23 : decode cX2_choose 23 = .ok (.iload_n 2, 1) := by decide +kernel
theorem dX2_choose_24 : decode cX2_choose 24 = .ok (.iaload, 1) := by decide +kernel
theorem dX2_choose_25 : decode cX2_choose 25 = .ok (.iand, 1) := by decide +kernel
theorem dX2_choose_26 : decode cX2_choose 26 = .ok (.iload 4, 2) := by decide +kernel
theorem dX2_choose_28 : decode cX2_choose 28 = .ok (.invokestatic 42, 3) := by decide +kernel
theorem dX2_choose_31 : decode cX2_choose 31 = .ok (.ifCond .ne 6, 3) := by decide +kernel
theorem dX2_choose_34 : decode cX2_choose 34 = .ok (.goto 85, 3) := by decide +kernel
theorem dX2_choose_37 : decode cX2_choose 37 = .ok (.aload_n 0, 1) := by decide +kernel
theorem dX2_choose_38 : decode cX2_choose 38 = .ok (.iload_n 1, 1) := by decide +kernel
theorem dX2_choose_39 : decode cX2_choose 39 = .ok (.iconst 1, 1) := by decide +kernel
theorem dX2_choose_40 : decode cX2_choose 40 = .ok (.iload 4, 2) := by decide +kernel
theorem dX2_choose_42 : decode cX2_choose 42 = .ok (.ishl, 1) := by decide +kernel
theorem dX2_choose_43 : decode cX2_choose 43 = .ok (.iconst (-1), 1) := by decide +kernel
theorem dX2_choose_44 : decode cX2_choose 44 = .ok (.ixor, 1) := by decide +kernel
theorem dX2_choose_45 : decode cX2_choose 45 = .ok (.iand, 1) := by decide +kernel
theorem dX2_choose_46 : decode cX2_choose 46 = .ok (.iconst 1, 1) := by decide +kernel
theorem dX2_choose_47 : decode cX2_choose 47 = .ok (.aload_n 0, 1) := by decide +kernel
theorem dX2_choose_48 : decode cX2_choose 48 = .ok (.getfield 24, 3) := by decide +kernel
theorem dX2_choose_51 : decode cX2_choose 51 = .ok (.getfield 32, 3) := by decide +kernel
theorem dX2_choose_54 : decode cX2_choose 54 = .ok (.ishl, 1) := by decide +kernel
theorem dX2_choose_55 : decode cX2_choose 55 = .ok (.invokevirtual 38, 3) := by decide +kernel
theorem dX2_choose_58 : decode cX2_choose 58 = .ok (.iconst 0, 1) := by decide +kernel
theorem dX2_choose_59 : decode cX2_choose 59 = .ok (.istore 5, 2) := by decide +kernel
theorem dX2_choose_61 : decode cX2_choose 61 = .ok (.iload 5, 2) := by decide +kernel
theorem dX2_choose_63 : decode cX2_choose 63 = .ok (.aload_n 0, 1) := by decide +kernel
theorem dX2_choose_64 : decode cX2_choose 64 = .ok (.getfield 24, 3) := by decide +kernel
theorem dX2_choose_67 : decode cX2_choose 67 = .ok (.getfield 32, 3) := by decide +kernel
theorem dX2_choose_70 : decode cX2_choose 70 = .ok (.if_icmp .ge 49, 3) := by decide +kernel
theorem dX2_choose_73 : decode cX2_choose 73 = .ok (.iload_n 2, 1) := by decide +kernel
theorem dX2_choose_74 : decode cX2_choose 74 = .ok (.iload 5, 2) := by decide +kernel
theorem dX2_choose_76 : decode cX2_choose 76 = .ok (.invokestatic 42, 3) := by decide +kernel
theorem dX2_choose_79 : decode cX2_choose 79 = .ok (.iconst 1, 1) := by decide +kernel
theorem dX2_choose_80 : decode cX2_choose 80 = .ok (.if_icmp .ne 33, 3) := by decide +kernel
theorem dX2_choose_83 : decode cX2_choose 83 = .ok (.aload_n 0, 1) := by decide +kernel
theorem dX2_choose_84 : decode cX2_choose 84 = .ok (.getfield 9, 3) := by decide +kernel
theorem dX2_choose_87 : decode cX2_choose 87 = .ok (.iload_n 2, 1) := by decide +kernel
theorem dX2_choose_88 : decode cX2_choose 88 = .ok (.iconst 1, 1) := by decide +kernel
theorem dX2_choose_89 : decode cX2_choose 89 = .ok (.iload 5, 2) := by decide +kernel
theorem dX2_choose_91 : decode cX2_choose 91 = .ok (.ishl, 1) := by decide +kernel
theorem dX2_choose_92 : decode cX2_choose 92 = .ok (.iconst (-1), 1) := by decide +kernel
theorem dX2_choose_93 : decode cX2_choose 93 = .ok (.ixor, 1) := by decide +kernel
theorem dX2_choose_94 : decode cX2_choose 94 = .ok (.iand, 1) := by decide +kernel
theorem dX2_choose_95 : decode cX2_choose 95 = .ok (.iaload, 1) := by decide +kernel
theorem dX2_choose_96 : decode cX2_choose 96 = .ok (.iload_n 3, 1) := by decide +kernel
theorem dX2_choose_97 : decode cX2_choose 97 = .ok (.if_icmp .lt 16, 3) := by decide +kernel
theorem dX2_choose_100 : decode cX2_choose 100 = .ok (.aload_n 0, 1) := by decide +kernel
theorem dX2_choose_101 : decode cX2_choose 101 = .ok (.iload 4, 2) := by decide +kernel
theorem dX2_choose_103 : decode cX2_choose 103 = .ok (.putfield 70, 3) := by decide +kernel
theorem dX2_choose_106 : decode cX2_choose 106 = .ok (.aload_n 0, 1) := by decide +kernel
theorem dX2_choose_107 : decode cX2_choose 107 = .ok (.iload 5, 2) := by decide +kernel
theorem dX2_choose_109 : decode cX2_choose 109 = .ok (.putfield 73, 3) := by decide +kernel
theorem dX2_choose_112 : decode cX2_choose 112 = .ok (.return_, 1) := by decide +kernel
theorem dX2_choose_113 : decode cX2_choose 113 = .ok (.iinc 5 1, 3) := by decide +kernel
theorem dX2_choose_116 : decode cX2_choose 116 = .ok (.goto (-55), 3) := by decide +kernel
theorem dX2_choose_119 : decode cX2_choose 119 = .ok (.iinc 4 1, 3) := by decide +kernel
theorem dX2_choose_122 : decode cX2_choose 122 = .ok (.goto (-119), 3) := by decide +kernel
theorem dX2_choose_125 : decode cX2_choose 125 = .ok (.return_, 1) := by decide +kernel
theorem dX2_countRows_0 : decode cX2_countRows 0 = .ok (.aload 5, 2) := by decide +kernel
theorem dX2_countRows_2 : decode cX2_countRows 2 = .ok (.ifnull 20, 3) := by decide +kernel
theorem dX2_countRows_5 : decode cX2_countRows 5 = .ok (.aload 5, 2) := by decide +kernel
theorem dX2_countRows_7 : decode cX2_countRows 7 = .ok (.aload_n 0, 1) := by decide +kernel
theorem dX2_countRows_8 : decode cX2_countRows 8 = .ok (.getfield 24, 3) := by decide +kernel
theorem dX2_countRows_11 : decode cX2_countRows 11 = .ok (.getfield 76, 3) := by decide +kernel
theorem dX2_countRows_14 : decode cX2_countRows 14 = .ok (.invokevirtual 79, 3) := by decide +kernel
theorem dX2_countRows_17 : decode cX2_countRows 17 = .ok (.ifCond .eq 5, 3) := by decide +kernel
theorem dX2_countRows_20 : decode cX2_countRows 20 = .ok (.iconst 0, 1) := by decide +kernel
theorem dX2_countRows_21 : decode cX2_countRows 21 = .ok (.ireturn, 1) := by decide +kernel
theorem dX2_countRows_22 : decode cX2_countRows 22 = .ok (.iload_n 1, 1) := by decide +kernel
theorem dX2_countRows_23 : decode cX2_countRows 23 = .ok (.invokestatic 54, 3) := by decide +kernel
theorem dX2_countRows_26 : decode cX2_countRows 26 = .ok (.istore 6, 2) := by decide +kernel
theorem dX2_countRows_28 : decode cX2_countRows 28 = .ok (.iconst 0, 1) := by decide +kernel
theorem dX2_countRows_29 : decode cX2_countRows 29 = .ok (.istore 7, 2) := by decide +kernel
theorem dX2_countRows_31 : decode cX2_countRows 31 = .ok (.iload 7, 2) := by decide +kernel
theorem dX2_countRows_33 : decode cX2_countRows 33 = .ok (.iload_n 2, 1) := by decide +kernel
theorem dX2_countRows_34 : decode cX2_countRows 34 = .ok (.if_icmp .gt 107, 3) := by decide +kernel
theorem dX2_countRows_37 : decode cX2_countRows 37 = .ok (.iload_n 2, 1) := by decide +kernel
theorem dX2_countRows_38 : decode cX2_countRows 38 = .ok (.invokestatic 54, 3) := by decide +kernel
theorem dX2_countRows_41 : decode cX2_countRows 41 = .ok (.iload 7, 2) := by decide +kernel
theorem dX2_countRows_43 : decode cX2_countRows 43 = .ok (.invokestatic 54, 3) := by decide +kernel
theorem dX2_countRows_46 : decode cX2_countRows 46 = .ok (.isub, 1) := by decide +kernel
theorem dX2_countRows_47 : decode cX2_countRows 47 = .ok (.istore 8, 2) := by decide +kernel
theorem dX2_countRows_49 : decode cX2_countRows 49 = .ok (.iload 7, 2) := by decide +kernel
theorem dX2_countRows_51 : decode cX2_countRows 51 = .ok (.iload_n 2, 1) := by decide +kernel
theorem dX2_countRows_52 : decode cX2_countRows 52 = .ok (.iconst (-1), 1) := by decide +kernel
theorem dX2_countRows_53 : decode cX2_countRows 53 = .ok (.ixor, 1) := by decide +kernel
theorem dX2_countRows_54 : decode cX2_countRows 54 = .ok (.iand, 1) := by decide +kernel
theorem dX2_countRows_55 : decode cX2_countRows 55 = .ok (.ifCond .ne 14, 3) := by decide +kernel
theorem dX2_countRows_58 : decode cX2_countRows 58 = .ok (.iload 8, 2) := by decide +kernel
theorem dX2_countRows_60 : decode cX2_countRows 60 = .ok (.iload 6, 2) := by decide +kernel
theorem dX2_countRows_62 : decode cX2_countRows 62 = .ok (.if_icmp .gt 7, 3) := by decide +kernel
theorem dX2_countRows_65 : decode cX2_countRows 65 = .ok (.iconst 1, 1) := by decide +kernel
theorem dX2_countRows_66 : decode cX2_countRows 66 = .ok (.goto 4, 3) := by decide +kernel
theorem dX2_countRows_69 : decode cX2_countRows 69 = .ok (.iconst 0, 1) := by decide +kernel
theorem dX2_countRows_70 : decode cX2_countRows 70 = .ok (.istore 9, 2) := by decide +kernel
theorem dX2_countRows_72 : decode cX2_countRows 72 = .ok (.iload 9, 2) := by decide +kernel
theorem dX2_countRows_74 : decode cX2_countRows 74 = .ok (.ifCond .eq 53, 3) := by decide +kernel
theorem dX2_countRows_77 : decode cX2_countRows 77 = .ok (.aload 5, 2) := by decide +kernel
theorem dX2_countRows_79 : decode cX2_countRows 79 = .ok (.ifnull 23, 3) := by decide +kernel
theorem dX2_countRows_82 : decode cX2_countRows 82 = .ok (.aload 5, 2) := by decide +kernel
theorem dX2_countRows_84 : decode cX2_countRows 84 = .ok (.iload 8, 2) := by decide +kernel
theorem dX2_countRows_86 : decode cX2_countRows 86 = .ok (.aload_n 0, 1) := by decide +kernel
theorem dX2_countRows_87 : decode cX2_countRows 87 = .ok (.getfield 24, 3) := by decide +kernel
theorem dX2_countRows_90 : decode cX2_countRows 90 = .ok (.getfield 85, 3) := by decide +kernel
theorem dX2_countRows_93 : decode cX2_countRows 93 = .ok (.iload 7, 2) := by decide +kernel
theorem dX2_countRows_95 : decode cX2_countRows 95 = .ok (.iaload, 1) := by decide +kernel
theorem dX2_countRows_96 : decode cX2_countRows 96 = .ok (.invokevirtual 88, 3) := by decide +kernel
theorem dX2_countRows_99 : decode cX2_countRows 99 = .ok (.ifCond .eq 28, 3) := by decide +kernel
theorem dX2_countRows_102 : decode cX2_countRows 102 = .ok (.aload_n 0, 1) := by decide +kernel
theorem dX2_countRows_103 : decode cX2_countRows 103 = .ok (.getfield 15, 3) := by decide +kernel
theorem dX2_countRows_106 : decode cX2_countRows 106 = .ok (.iload 7, 2) := by decide +kernel
theorem dX2_countRows_108 : decode cX2_countRows 108 = .ok (.aload_n 0, 1) := by decide +kernel
theorem dX2_countRows_109 : decode cX2_countRows 109 = .ok (.iload_n 1, 1) := by decide +kernel
theorem dX2_countRows_110 : decode cX2_countRows 110 = .ok (.iload 7, 2) := by decide +kernel
theorem dX2_countRows_112 : decode cX2_countRows 112 = .ok (.iload 6, 2) := by decide +kernel
theorem dX2_countRows_114 : decode cX2_countRows 114 = .ok (.iload 8, 2) := by decide +kernel
theorem dX2_countRows_116 : decode cX2_countRows 116 = .ok (.isub, 1) := by decide +kernel
theorem dX2_countRows_117 : decode cX2_countRows 117 = .ok (.iload_n 3, 1) := by decide +kernel
theorem dX2_countRows_118 : decode cX2_countRows 118 = .ok (.iload 4, 2) := by decide +kernel
theorem dX2_countRows_120 : decode cX2_countRows 120 = .ok (.invokevirtual 92, 3) := by decide +kernel
theorem dX2_countRows_123 : decode cX2_countRows 123 = .ok (.iastore, 1) := by decide +kernel
theorem dX2_countRows_124 : decode cX2_countRows 124 = .ok (.goto 11, 3) := by decide +kernel
theorem dX2_countRows_127 : decode cX2_countRows 127 = .ok (.aload_n 0, 1) := by decide +kernel
theorem dX2_countRows_128 : decode cX2_countRows 128 = .ok (.getfield 15, 3) := by decide +kernel
theorem dX2_countRows_131 : decode cX2_countRows 131 = .ok (.iload 7, 2) := by decide +kernel
theorem dX2_countRows_133 : decode cX2_countRows 133 = .ok (.iconst 0, 1) := by decide +kernel
theorem dX2_countRows_134 : decode cX2_countRows 134 = .ok (.iastore, 1) := by decide +kernel
theorem dX2_countRows_135 : decode cX2_countRows 135 = .ok (.iinc 7 1, 3) := by decide +kernel
theorem dX2_countRows_138 : decode cX2_countRows 138 = .ok (.goto (-107), 3) := by decide +kernel
theorem dX2_countRows_141 : decode cX2_countRows 141 = .ok (.aload_n 0, 1) := by decide +kernel
theorem dX2_countRows_142 : decode cX2_countRows 142 = .ok (.getfield 15, 3) := by decide +kernel
theorem dX2_countRows_145 : decode cX2_countRows 145 = .ok (.iload_n 2, 1) := by decide +kernel
theorem dX2_countRows_146 : decode cX2_countRows 146 = .ok (.iaload, 1) := by decide +kernel
theorem dX2_countRows_147 : decode cX2_countRows 147 = .ok (.ireturn, 1) := by decide +kernel
theorem dX2_waysFrom_0 : decode cX2_waysFrom 0 = .ok (.iload_n 2, 1) := by decide +kernel
theorem dX2_waysFrom_1 : decode cX2_waysFrom 1 = .ok (.iload 5, 2) := by decide +kernel
theorem dX2_waysFrom_3 : decode cX2_waysFrom 3 = .ok (.iand, 1) := by decide +kernel
theorem dX2_waysFrom_4 : decode cX2_waysFrom 4 = .ok (.ifCond .eq 7, 3) := by decide +kernel
theorem dX2_waysFrom_7 : decode cX2_waysFrom 7 = .ok (.iconst 1, 1) := by decide +kernel
theorem dX2_waysFrom_8 : decode cX2_waysFrom 8 = .ok (.goto 4, 3) := by decide +kernel
theorem dX2_waysFrom_11 : decode cX2_waysFrom 11 = .ok (.iconst 0, 1) := by decide +kernel
theorem dX2_waysFrom_12 : decode cX2_waysFrom 12 = .ok (.istore 6, 2) := by decide +kernel
theorem dX2_waysFrom_14 : decode cX2_waysFrom 14 = .ok (.iload_n 3, 1) := by decide +kernel
theorem dX2_waysFrom_15 : decode cX2_waysFrom 15 = .ok (.ifCond .ne 14, 3) := by decide +kernel
theorem dX2_waysFrom_18 : decode cX2_waysFrom 18 = .ok (.iload 6, 2) := by decide +kernel
theorem dX2_waysFrom_20 : decode cX2_waysFrom 20 = .ok (.ifCond .eq 7, 3) := by decide +kernel
theorem dX2_waysFrom_23 : decode cX2_waysFrom 23 = .ok (.iconst 0, 1) := by decide +kernel
theorem dX2_waysFrom_24 : decode cX2_waysFrom 24 = .ok (.goto 4, 3) := by decide +kernel
theorem dX2_waysFrom_27 : decode cX2_waysFrom 27 = .ok (.iconst 1, 1) := by decide +kernel
theorem dX2_waysFrom_28 : decode cX2_waysFrom 28 = .ok (.ireturn, 1) := by decide +kernel
theorem dX2_waysFrom_29 : decode cX2_waysFrom 29 = .ok (.iload 6, 2) := by decide +kernel
theorem dX2_waysFrom_31 : decode cX2_waysFrom 31 = .ok (.ifCond .eq 9, 3) := by decide +kernel
theorem dX2_waysFrom_34 : decode cX2_waysFrom 34 = .ok (.iload_n 3, 1) := by decide +kernel
theorem dX2_waysFrom_35 : decode cX2_waysFrom 35 = .ok (.iconst 2, 1) := by decide +kernel
theorem dX2_waysFrom_36 : decode cX2_waysFrom 36 = .ok (.isub, 1) := by decide +kernel
theorem dX2_waysFrom_37 : decode cX2_waysFrom 37 = .ok (.goto 6, 3) := by decide +kernel
theorem dX2_waysFrom_40 : decode cX2_waysFrom 40 = .ok (.iload_n 3, 1) := by decide +kernel
theorem dX2_waysFrom_41 : decode cX2_waysFrom 41 = .ok (.iconst 1, 1) := by decide +kernel
theorem dX2_waysFrom_42 : decode cX2_waysFrom 42 = .ok (.isub, 1) := by decide +kernel
theorem dX2_waysFrom_43 : decode cX2_waysFrom 43 = .ok (.istore 7, 2) := by decide +kernel
theorem dX2_waysFrom_45 : decode cX2_waysFrom 45 = .ok (.iconst 0, 1) := by decide +kernel
theorem dX2_waysFrom_46 : decode cX2_waysFrom 46 = .ok (.aload_n 0, 1) := by decide +kernel
theorem dX2_waysFrom_47 : decode cX2_waysFrom 47 = .ok (.getfield 24, 3) := by decide +kernel
theorem dX2_waysFrom_50 : decode cX2_waysFrom 50 = .ok (.getfield 51, 3) := by decide +kernel
theorem dX2_waysFrom_53 : decode cX2_waysFrom 53 = .ok (.iload_n 2, 1) := by decide +kernel
theorem dX2_waysFrom_54 : decode cX2_waysFrom 54 = .ok (.iaload, 1) := by decide +kernel
theorem dX2_waysFrom_55 : decode cX2_waysFrom 55 = .ok (.iload_n 1, 1) := by decide +kernel
theorem dX2_waysFrom_56 : decode cX2_waysFrom 56 = .ok (.iand, 1) := by decide +kernel
theorem dX2_waysFrom_57 : decode cX2_waysFrom 57 = .ok (.iload 4, 2) := by decide +kernel
theorem dX2_waysFrom_59 : decode cX2_waysFrom 59 = .ok (.iconst (-1), 1) := by decide +kernel
theorem dX2_waysFrom_60 : decode cX2_waysFrom 60 = .ok (.ixor, 1) := by decide +kernel
theorem dX2_waysFrom_61 : decode cX2_waysFrom 61 = .ok (.iand, 1) := by decide +kernel
theorem dX2_waysFrom_62 : decode cX2_waysFrom 62 = .ok (.invokestatic 54, 3) := by decide +kernel
theorem dX2_waysFrom_65 : decode cX2_waysFrom 65 = .ok (.iconst 0, 1) := by decide +kernel
theorem dX2_waysFrom_66 : decode cX2_waysFrom 66 = .ok (.iload 7, 2) := by decide +kernel
theorem dX2_waysFrom_68 : decode cX2_waysFrom 68 = .ok (.invokestatic 46, 3) := by decide +kernel
theorem dX2_waysFrom_71 : decode cX2_waysFrom 71 = .ok (.isub, 1) := by decide +kernel
theorem dX2_waysFrom_72 : decode cX2_waysFrom 72 = .ok (.invokestatic 46, 3) := by decide +kernel
theorem dX2_waysFrom_75 : decode cX2_waysFrom 75 = .ok (.istore 8, 2) := by decide +kernel
theorem dX2_waysFrom_77 : decode cX2_waysFrom 77 = .ok (.iconst 0, 1) := by decide +kernel
theorem dX2_waysFrom_78 : decode cX2_waysFrom 78 = .ok (.istore 9, 2) := by decide +kernel
theorem dX2_waysFrom_80 : decode cX2_waysFrom 80 = .ok (.iconst 0, 1) := by decide +kernel
theorem dX2_waysFrom_81 : decode cX2_waysFrom 81 = .ok (.istore 10, 2) := by decide +kernel
theorem dX2_waysFrom_83 : decode cX2_waysFrom 83 = .ok (.iload 10, 2) := by decide +kernel
theorem dX2_waysFrom_85 : decode cX2_waysFrom 85 = .ok (.aload_n 0, 1) := by decide +kernel
theorem dX2_waysFrom_86 : decode cX2_waysFrom 86 = .ok (.getfield 24, 3) := by decide +kernel
theorem dX2_waysFrom_89 : decode cX2_waysFrom 89 = .ok (.getfield 32, 3) := by decide +kernel
theorem dX2_waysFrom_92 : decode cX2_waysFrom 92 = .ok (.if_icmp .ge 48, 3) := by decide +kernel
theorem dX2_waysFrom_95 : decode cX2_waysFrom 95 = .ok (.iload_n 2, 1) := by decide +kernel
theorem dX2_waysFrom_96 : decode cX2_waysFrom 96 = .ok (.iconst 1, 1) := by decide +kernel
theorem dX2_waysFrom_97 : decode cX2_waysFrom 97 = .ok (.iload 10, 2) := by decide +kernel
theorem dX2_waysFrom_99 : decode cX2_waysFrom 99 = .ok (.ishl, 1) := by decide +kernel
theorem dX2_waysFrom_100 : decode cX2_waysFrom 100 = .ok (.iand, 1) := by decide +kernel
theorem dX2_waysFrom_101 : decode cX2_waysFrom 101 = .ok (.istore 11, 2) := by decide +kernel
theorem dX2_waysFrom_103 : decode cX2_waysFrom 103 = .ok (.iload 11, 2) := by decide +kernel
theorem dX2_waysFrom_105 : decode cX2_waysFrom 105 = .ok (.ifCond .eq 29, 3) := by decide +kernel
theorem dX2_waysFrom_108 : decode cX2_waysFrom 108 = .ok (.iload 11, 2) := by decide +kernel
theorem dX2_waysFrom_110 : decode cX2_waysFrom 110 = .ok (.iload 5, 2) := by decide +kernel
theorem dX2_waysFrom_112 : decode cX2_waysFrom 112 = .ok (.if_icmp .eq 22, 3) := by decide +kernel
theorem dX2_waysFrom_115 : decode cX2_waysFrom 115 = .ok (.iload 9, 2) := by decide +kernel
theorem dX2_waysFrom_117 : decode cX2_waysFrom 117 = .ok (.iload 8, 2) := by decide +kernel
theorem dX2_waysFrom_119 : decode cX2_waysFrom 119 = .ok (.aload_n 0, 1) := by decide +kernel
theorem dX2_waysFrom_120 : decode cX2_waysFrom 120 = .ok (.getfield 15, 3) := by decide +kernel
theorem dX2_waysFrom_123 : decode cX2_waysFrom 123 = .ok (.iload_n 2, 1) := by decide +kernel
theorem dX2_waysFrom_124 : decode cX2_waysFrom 124 = .ok (.iload 11, 2) := by decide +kernel
theorem dX2_waysFrom_126 : decode cX2_waysFrom 126 = .ok (.iconst (-1), 1) := by decide +kernel
theorem dX2_waysFrom_127 : decode cX2_waysFrom 127 = .ok (.ixor, 1) := by decide +kernel
theorem dX2_waysFrom_128 : decode cX2_waysFrom 128 = .ok (.iand, 1) := by decide +kernel
theorem dX2_waysFrom_129 : decode cX2_waysFrom 129 = .ok (.iaload, 1) := by decide +kernel
theorem dX2_waysFrom_130 : decode cX2_waysFrom 130 = .ok (.imul, 1) := by decide +kernel
theorem dX2_waysFrom_131 : decode cX2_waysFrom 131 = .ok (.iadd, 1) := by decide +kernel
theorem dX2_waysFrom_132 : decode cX2_waysFrom 132 = .ok (.istore 9, 2) := by decide +kernel
theorem dX2_waysFrom_134 : decode cX2_waysFrom 134 = .ok (.iinc 10 1, 3) := by decide +kernel
theorem dX2_waysFrom_137 : decode cX2_waysFrom 137 = .ok (.goto (-54), 3) := by decide +kernel
theorem dX2_waysFrom_140 : decode cX2_waysFrom 140 = .ok (.iload 6, 2) := by decide +kernel
theorem dX2_waysFrom_142 : decode cX2_waysFrom 142 = .ok (.ifCond .eq 34, 3) := by decide +kernel
theorem dX2_waysFrom_145 : decode cX2_waysFrom 145 = .ok (.aload_n 0, 1) := by decide +kernel
theorem dX2_waysFrom_146 : decode cX2_waysFrom 146 = .ok (.getfield 24, 3) := by decide +kernel
theorem dX2_waysFrom_149 : decode cX2_waysFrom 149 = .ok (.getfield 51, 3) := by decide +kernel
theorem dX2_waysFrom_152 : decode cX2_waysFrom 152 = .ok (.iload_n 2, 1) := by decide +kernel
theorem dX2_waysFrom_153 : decode cX2_waysFrom 153 = .ok (.iaload, 1) := by decide +kernel
theorem dX2_waysFrom_154 : decode cX2_waysFrom 154 = .ok (.iload 4, 2) := by decide +kernel
theorem dX2_waysFrom_156 : decode cX2_waysFrom 156 = .ok (.iand, 1) := by decide +kernel
theorem dX2_waysFrom_157 : decode cX2_waysFrom 157 = .ok (.ifCond .eq 19, 3) := by decide +kernel
theorem dX2_waysFrom_160 : decode cX2_waysFrom 160 = .ok (.iload 9, 2) := by decide +kernel
theorem dX2_waysFrom_162 : decode cX2_waysFrom 162 = .ok (.aload_n 0, 1) := by decide +kernel
theorem dX2_waysFrom_163 : decode cX2_waysFrom 163 = .ok (.getfield 15, 3) := by decide +kernel
theorem dX2_waysFrom_166 : decode cX2_waysFrom 166 = .ok (.iload_n 2, 1) := by decide +kernel
theorem dX2_waysFrom_167 : decode cX2_waysFrom 167 = .ok (.iload 5, 2) := by decide +kernel
theorem dX2_waysFrom_169 : decode cX2_waysFrom 169 = .ok (.iconst (-1), 1) := by decide +kernel
theorem dX2_waysFrom_170 : decode cX2_waysFrom 170 = .ok (.ixor, 1) := by decide +kernel
theorem dX2_waysFrom_171 : decode cX2_waysFrom 171 = .ok (.iand, 1) := by decide +kernel
theorem dX2_waysFrom_172 : decode cX2_waysFrom 172 = .ok (.iaload, 1) := by decide +kernel
theorem dX2_waysFrom_173 : decode cX2_waysFrom 173 = .ok (.iadd, 1) := by decide +kernel
theorem dX2_waysFrom_174 : decode cX2_waysFrom 174 = .ok (.istore 9, 2) := by decide +kernel
theorem dX2_waysFrom_176 : decode cX2_waysFrom 176 = .ok (.iload 9, 2) := by decide +kernel
theorem dX2_waysFrom_178 : decode cX2_waysFrom 178 = .ok (.ireturn, 1) := by decide +kernel
theorem dX2_griefOf_0 : decode cX2_griefOf 0 = .ok (.aload_n 0, 1) := by decide +kernel
theorem dX2_griefOf_1 : decode cX2_griefOf 1 = .ok (.invokevirtual 96, 3) := by decide +kernel
theorem dX2_griefOf_4 : decode cX2_griefOf 4 = .ok (.aload_n 0, 1) := by decide +kernel
theorem dX2_griefOf_5 : decode cX2_griefOf 5 = .ok (.getfield 18, 3) := by decide +kernel
theorem dX2_griefOf_8 : decode cX2_griefOf 8 = .ok (.iload_n 1, 1) := by decide +kernel
theorem dX2_griefOf_9 : decode cX2_griefOf 9 = .ok (.iload_n 2, 1) := by decide +kernel
theorem dX2_griefOf_10 : decode cX2_griefOf 10 = .ok (.invokestatic 99, 3) := by decide +kernel
theorem dX2_griefOf_13 : decode cX2_griefOf 13 = .ok (.iaload, 1) := by decide +kernel
theorem dX2_griefOf_14 : decode cX2_griefOf 14 = .ok (.istore_n 3, 1) := by decide +kernel
theorem dX2_griefOf_15 : decode cX2_griefOf 15 = .ok (.iload_n 3, 1) := by decide +kernel
theorem dX2_griefOf_16 : decode cX2_griefOf 16 = .ok (.sipush 1000, 3) := by decide +kernel
theorem dX2_griefOf_19 : decode cX2_griefOf 19 = .ok (.if_icmp .lt 8, 3) := by decide +kernel
theorem dX2_griefOf_22 : decode cX2_griefOf 22 = .ok (.bipush (-9), 2) := by decide +kernel
theorem dX2_griefOf_24 : decode cX2_griefOf 24 = .ok (.goto 4, 3) := by decide +kernel
theorem dX2_griefOf_27 : decode cX2_griefOf 27 = .ok (.iload_n 3, 1) := by decide +kernel
theorem dX2_griefOf_28 : decode cX2_griefOf 28 = .ok (.ireturn, 1) := by decide +kernel
theorem dX2_winnerOf_0 : decode cX2_winnerOf 0 = .ok (.aload_n 0, 1) := by decide +kernel
theorem dX2_winnerOf_1 : decode cX2_winnerOf 1 = .ok (.invokevirtual 96, 3) := by decide +kernel
theorem dX2_winnerOf_4 : decode cX2_winnerOf 4 = .ok (.aload_n 0, 1) := by decide +kernel
theorem dX2_winnerOf_5 : decode cX2_winnerOf 5 = .ok (.getfield 21, 3) := by decide +kernel
theorem dX2_winnerOf_8 : decode cX2_winnerOf 8 = .ok (.iload_n 1, 1) := by decide +kernel
theorem dX2_winnerOf_9 : decode cX2_winnerOf 9 = .ok (.iload_n 2, 1) := by decide +kernel
theorem dX2_winnerOf_10 : decode cX2_winnerOf 10 = .ok (.invokestatic 99, 3) := by decide +kernel
theorem dX2_winnerOf_13 : decode cX2_winnerOf 13 = .ok (.iaload, 1) := by decide +kernel
theorem dX2_winnerOf_14 : decode cX2_winnerOf 14 = .ok (.iconst 0, 1) := by decide +kernel
theorem dX2_winnerOf_15 : decode cX2_winnerOf 15 = .ok (.invokestatic 42, 3) := by decide +kernel
theorem dX2_winnerOf_18 : decode cX2_winnerOf 18 = .ok (.iconst 1, 1) := by decide +kernel
theorem dX2_winnerOf_19 : decode cX2_winnerOf 19 = .ok (.if_icmp .ne 7, 3) := by decide +kernel
theorem dX2_winnerOf_22 : decode cX2_winnerOf 22 = .ok (.iconst 0, 1) := by decide +kernel
theorem dX2_winnerOf_23 : decode cX2_winnerOf 23 = .ok (.goto 4, 3) := by decide +kernel
theorem dX2_winnerOf_26 : decode cX2_winnerOf 26 = .ok (.iconst 1, 1) := by decide +kernel
theorem dX2_winnerOf_27 : decode cX2_winnerOf 27 = .ok (.ireturn, 1) := by decide +kernel
theorem dX2_fillTables_0 : decode cX2_fillTables 0 = .ok (.aload_n 0, 1) := by decide +kernel
theorem dX2_fillTables_1 : decode cX2_fillTables 1 = .ok (.getfield 28, 3) := by decide +kernel
theorem dX2_fillTables_4 : decode cX2_fillTables 4 = .ok (.ifCond .eq 4, 3) := by decide +kernel
theorem dX2_fillTables_7 : decode cX2_fillTables 7 = .ok (.return_, 1) := by decide +kernel
theorem dX2_fillTables_8 : decode cX2_fillTables 8 = .ok (.aload_n 0, 1) := by decide +kernel
theorem dX2_fillTables_9 : decode cX2_fillTables 9 = .ok (.iconst 1, 1) := by decide +kernel
theorem dX2_fillTables_10 : decode cX2_fillTables 10 = .ok (.putfield 28, 3) := by decide +kernel
theorem dX2_fillTables_13 : decode cX2_fillTables 13 = .ok (.iconst 0, 1) := by decide +kernel
theorem dX2_fillTables_14 : decode cX2_fillTables 14 = .ok (.istore_n 1, 1) := by decide +kernel
theorem dX2_fillTables_15 : decode cX2_fillTables 15 = .ok (.iload_n 1, 1) := by decide +kernel
theorem dX2_fillTables_16 : decode cX2_fillTables 16 = .ok (.aload_n 0, 1) := by decide +kernel
theorem dX2_fillTables_17 : decode cX2_fillTables 17 = .ok (.getfield 24, 3) := by decide +kernel
theorem dX2_fillTables_20 : decode cX2_fillTables 20 = .ok (.invokevirtual 102, 3) := by decide +kernel
theorem dX2_fillTables_23 : decode cX2_fillTables 23 = .ok (.if_icmp .gt 89, 3) := by decide +kernel
theorem dX2_fillTables_26 : decode cX2_fillTables 26 = .ok (.aload_n 0, 1) := by decide +kernel
theorem dX2_fillTables_27 : decode cX2_fillTables 27 = .ok (.getfield 24, 3) := by decide +kernel
theorem dX2_fillTables_30 : decode cX2_fillTables 30 = .ok (.getfield 32, 3) := by decide +kernel
theorem dX2_fillTables_33 : decode cX2_fillTables 33 = .ok (.aload_n 0, 1) := by decide +kernel
theorem dX2_fillTables_34 : decode cX2_fillTables 34 = .ok (.getfield 24, 3) := by decide +kernel
theorem dX2_fillTables_37 : decode cX2_fillTables 37 = .ok (.getfield 76, 3) := by decide +kernel
theorem dX2_fillTables_40 : decode cX2_fillTables 40 = .ok (.isub, 1) := by decide +kernel
theorem dX2_fillTables_41 : decode cX2_fillTables 41 = .ok (.iload_n 1, 1) := by decide +kernel
theorem dX2_fillTables_42 : decode cX2_fillTables 42 = .ok (.invokestatic 54, 3) := by decide +kernel
theorem dX2_fillTables_45 : decode cX2_fillTables 45 = .ok (.iadd, 1) := by decide +kernel
theorem dX2_fillTables_46 : decode cX2_fillTables 46 = .ok (.istore_n 2, 1) := by decide +kernel
theorem dX2_fillTables_47 : decode cX2_fillTables 47 = .ok (.iconst 0, 1) := by decide +kernel
theorem dX2_fillTables_48 : decode cX2_fillTables 48 = .ok (.istore_n 3, 1) := by decide +kernel
theorem dX2_fillTables_49 : decode cX2_fillTables 49 = .ok (.iload_n 3, 1) := by decide +kernel
theorem dX2_fillTables_50 : decode cX2_fillTables 50 = .ok (.aload_n 0, 1) := by decide +kernel
theorem dX2_fillTables_51 : decode cX2_fillTables 51 = .ok (.getfield 24, 3) := by decide +kernel
theorem dX2_fillTables_54 : decode cX2_fillTables 54 = .ok (.invokevirtual 106, 3) := by decide +kernel
theorem dX2_fillTables_57 : decode cX2_fillTables 57 = .ok (.if_icmp .gt 49, 3) := by decide +kernel
theorem dX2_fillTables_60 : decode cX2_fillTables 60 = .ok (.iload_n 3, 1) := by decide +kernel
theorem dX2_fillTables_61 : decode cX2_fillTables 61 = .ok (.invokestatic 54, 3) := by decide +kernel
theorem dX2_fillTables_64 : decode cX2_fillTables 64 = .ok (.iload_n 2, 1) := by decide +kernel
theorem dX2_fillTables_65 : decode cX2_fillTables 65 = .ok (.if_icmp .ne 35, 3) := by decide +kernel
theorem dX2_fillTables_68 : decode cX2_fillTables 68 = .ok (.aload_n 0, 1) := by decide +kernel
theorem dX2_fillTables_69 : decode cX2_fillTables 69 = .ok (.getfield 18, 3) := by decide +kernel
theorem dX2_fillTables_72 : decode cX2_fillTables 72 = .ok (.iload_n 1, 1) := by decide +kernel
theorem dX2_fillTables_73 : decode cX2_fillTables 73 = .ok (.iload_n 3, 1) := by decide +kernel
theorem dX2_fillTables_74 : decode cX2_fillTables 74 = .ok (.invokestatic 99, 3) := by decide +kernel
theorem dX2_fillTables_77 : decode cX2_fillTables 77 = .ok (.aload_n 0, 1) := by decide +kernel
theorem dX2_fillTables_78 : decode cX2_fillTables 78 = .ok (.iload_n 1, 1) := by decide +kernel
theorem dX2_fillTables_79 : decode cX2_fillTables 79 = .ok (.iload_n 3, 1) := by decide +kernel
theorem dX2_fillTables_80 : decode cX2_fillTables 80 = .ok (.invokevirtual 109, 3) := by decide +kernel
theorem dX2_fillTables_83 : decode cX2_fillTables 83 = .ok (.iastore, 1) := by decide +kernel
theorem dX2_fillTables_84 : decode cX2_fillTables 84 = .ok (.aload_n 0, 1) := by decide +kernel
theorem dX2_fillTables_85 : decode cX2_fillTables 85 = .ok (.getfield 21, 3) := by decide +kernel
theorem dX2_fillTables_88 : decode cX2_fillTables 88 = .ok (.iload_n 1, 1) := by decide +kernel
theorem dX2_fillTables_89 : decode cX2_fillTables 89 = .ok (.iload_n 3, 1) := by decide +kernel
theorem dX2_fillTables_90 : decode cX2_fillTables 90 = .ok (.invokestatic 99, 3) := by decide +kernel
theorem dX2_fillTables_93 : decode cX2_fillTables 93 = .ok (.aload_n 0, 1) := by decide +kernel
theorem dX2_fillTables_94 : decode cX2_fillTables 94 = .ok (.iload_n 1, 1) := by decide +kernel
theorem dX2_fillTables_95 : decode cX2_fillTables 95 = .ok (.iload_n 3, 1) := by decide +kernel
theorem dX2_fillTables_96 : decode cX2_fillTables 96 = .ok (.invokevirtual 112, 3) := by decide +kernel
theorem dX2_fillTables_99 : decode cX2_fillTables 99 = .ok (.iastore, 1) := by decide +kernel
theorem dX2_fillTables_100 : decode cX2_fillTables 100 = .ok (.iinc 3 1, 3) := by decide +kernel
theorem dX2_fillTables_103 : decode cX2_fillTables 103 = .ok (.goto (-54), 3) := by decide +kernel
theorem dX2_fillTables_106 : decode cX2_fillTables 106 = .ok (.iinc 1 1, 3) := by decide +kernel
theorem dX2_fillTables_109 : decode cX2_fillTables 109 = .ok (.goto (-94), 3) := by decide +kernel
theorem dX2_fillTables_112 : decode cX2_fillTables 112 = .ok (.return_, 1) := by decide +kernel
theorem dX2_leastGrief_0 : decode cX2_leastGrief 0 = .ok (.iload_n 1, 1) := by decide +kernel
theorem dX2_leastGrief_1 : decode cX2_leastGrief 1 = .ok (.ifCond .ne 5, 3) := by decide +kernel
theorem dX2_leastGrief_4 : decode cX2_leastGrief 4 = .ok (.iconst 0, 1) := by decide +kernel
theorem dX2_leastGrief_5 : decode cX2_leastGrief 5 = .ok (.ireturn, 1) := by decide +kernel
theorem dX2_leastGrief_6 : decode cX2_leastGrief 6 = .ok (.iload_n 1, 1) := by decide +kernel
theorem dX2_leastGrief_7 : decode cX2_leastGrief 7 = .ok (.aload_n 0, 1) := by decide +kernel
theorem dX2_leastGrief_8 : decode cX2_leastGrief 8 = .ok (.getfield 24, 3) := by decide +kernel
theorem dX2_leastGrief_11 : decode cX2_leastGrief 11 = .ok (.getfield 51, 3) := by decide +kernel
theorem dX2_leastGrief_14 : decode cX2_leastGrief 14 = .ok (.iload_n 2, 1) := by decide +kernel
theorem dX2_leastGrief_15 : decode cX2_leastGrief 15 = .ok (.iaload, 1) := by decide +kernel
theorem dX2_leastGrief_16 : decode cX2_leastGrief 16 = .ok (.iconst (-1), 1) := by decide +kernel
theorem dX2_leastGrief_17 : decode cX2_leastGrief 17 = .ok (.ixor, 1) := by decide +kernel
theorem dX2_leastGrief_18 : decode cX2_leastGrief 18 = .ok (.iand, 1) := by decide +kernel
theorem dX2_leastGrief_19 : decode cX2_leastGrief 19 = .ok (.ifCond .eq 7, 3) := by decide +kernel
theorem dX2_leastGrief_22 : decode cX2_leastGrief 22 = .ok (.sipush 1000, 3) := by decide +kernel
theorem dX2_leastGrief_25 : decode cX2_leastGrief 25 = .ok (.ireturn, 1) := by decide +kernel
theorem dX2_leastGrief_26 : decode cX2_leastGrief 26 = .ok (.aload_n 0, 1) := by decide +kernel
theorem dX2_leastGrief_27 : decode cX2_leastGrief 27 = .ok (.getfield 24, 3) := by decide +kernel
theorem dX2_leastGrief_30 : decode cX2_leastGrief 30 = .ok (.getfield 76, 3) := by decide +kernel
theorem dX2_leastGrief_33 : decode cX2_leastGrief 33 = .ok (.iload_n 1, 1) := by decide +kernel
theorem dX2_leastGrief_34 : decode cX2_leastGrief 34 = .ok (.invokestatic 54, 3) := by decide +kernel
theorem dX2_leastGrief_37 : decode cX2_leastGrief 37 = .ok (.isub, 1) := by decide +kernel
theorem dX2_leastGrief_38 : decode cX2_leastGrief 38 = .ok (.istore_n 3, 1) := by decide +kernel
theorem dX2_leastGrief_39 : decode cX2_leastGrief 39 = .ok (.sipush 1000, 3) := by decide +kernel
theorem dX2_leastGrief_42 : decode cX2_leastGrief 42 = .ok (.istore 4, 2) := by decide +kernel
theorem dX2_leastGrief_44 : decode cX2_leastGrief 44 = .ok (.iconst 0, 1) := by decide +kernel
theorem dX2_leastGrief_45 : decode cX2_leastGrief 45 = .ok (.istore 5, 2) := by decide +kernel
theorem dX2_leastGrief_47 : decode cX2_leastGrief 47 = .ok (.iload 5, 2) := by decide +kernel
theorem dX2_leastGrief_49 : decode cX2_leastGrief 49 = .ok (.aload_n 0, 1) := by decide +kernel
theorem dX2_leastGrief_50 : decode cX2_leastGrief 50 = .ok (.getfield 24, 3) := by decide +kernel
theorem dX2_leastGrief_53 : decode cX2_leastGrief 53 = .ok (.getfield 76, 3) := by decide +kernel
theorem dX2_leastGrief_56 : decode cX2_leastGrief 56 = .ok (.if_icmp .ge 59, 3) := by decide +kernel
theorem dX2_leastGrief_59 : decode cX2_leastGrief 59 = .ok (.iload_n 1, 1) := by decide +kernel
theorem dX2_leastGrief_60 : decode cX2_leastGrief 60 = .ok (.iload 5, 2) := by decide +kernel
theorem dX2_leastGrief_62 : decode cX2_leastGrief 62 = .ok (.invokestatic 42, 3) := by decide +kernel
theorem dX2_leastGrief_65 : decode cX2_leastGrief 65 = .ok (.iconst 1, 1) := by decide +kernel
theorem dX2_leastGrief_66 : decode cX2_leastGrief 66 = .ok (.if_icmp .ne 43, 3) := by decide +kernel
theorem dX2_leastGrief_69 : decode cX2_leastGrief 69 = .ok (.aload_n 0, 1) := by decide +kernel
theorem dX2_leastGrief_70 : decode cX2_leastGrief 70 = .ok (.getfield 24, 3) := by decide +kernel
theorem dX2_leastGrief_73 : decode cX2_leastGrief 73 = .ok (.getfield 115, 3) := by decide +kernel
theorem dX2_leastGrief_76 : decode cX2_leastGrief 76 = .ok (.iload 5, 2) := by decide +kernel
theorem dX2_leastGrief_78 : decode cX2_leastGrief 78 = .ok (.iaload, 1) := by decide +kernel
theorem dX2_leastGrief_79 : decode cX2_leastGrief 79 = .ok (.iload_n 3, 1) := by decide +kernel
theorem dX2_leastGrief_80 : decode cX2_leastGrief 80 = .ok (.isub, 1) := by decide +kernel
theorem dX2_leastGrief_81 : decode cX2_leastGrief 81 = .ok (.invokestatic 118, 3) := by decide +kernel
theorem dX2_leastGrief_84 : decode cX2_leastGrief 84 = .ok (.istore 6, 2) := by decide +kernel
theorem dX2_leastGrief_86 : decode cX2_leastGrief 86 = .ok (.iload 4, 2) := by decide +kernel
theorem dX2_leastGrief_88 : decode cX2_leastGrief 88 = .ok (.iload 6, 2) := by decide +kernel
theorem dX2_leastGrief_90 : decode cX2_leastGrief 90 = .ok (.aload_n 0, 1) := by decide +kernel
theorem dX2_leastGrief_91 : decode cX2_leastGrief 91 = .ok (.iload_n 1, 1) := by decide +kernel
theorem dX2_leastGrief_92 : decode cX2_leastGrief 92 = .ok (.iconst 1, 1) := by decide +kernel
theorem dX2_leastGrief_93 : decode cX2_leastGrief 93 = .ok (.iload 5, 2) := by decide +kernel
theorem dX2_leastGrief_95 : decode cX2_leastGrief 95 = .ok (.ishl, 1) := by decide +kernel
theorem dX2_leastGrief_96 : decode cX2_leastGrief 96 = .ok (.iconst (-1), 1) := by decide +kernel
theorem dX2_leastGrief_97 : decode cX2_leastGrief 97 = .ok (.ixor, 1) := by decide +kernel
theorem dX2_leastGrief_98 : decode cX2_leastGrief 98 = .ok (.iand, 1) := by decide +kernel
theorem dX2_leastGrief_99 : decode cX2_leastGrief 99 = .ok (.iload_n 2, 1) := by decide +kernel
theorem dX2_leastGrief_100 : decode cX2_leastGrief 100 = .ok (.invokevirtual 121, 3) := by decide +kernel
theorem dX2_leastGrief_103 : decode cX2_leastGrief 103 = .ok (.iadd, 1) := by decide +kernel
theorem dX2_leastGrief_104 : decode cX2_leastGrief 104 = .ok (.invokestatic 60, 3) := by decide +kernel
theorem dX2_leastGrief_107 : decode cX2_leastGrief 107 = .ok (.istore 4, 2) := by decide +kernel
theorem dX2_leastGrief_109 : decode cX2_leastGrief 109 = .ok (.iinc 5 1, 3) := by decide +kernel
theorem dX2_leastGrief_112 : decode cX2_leastGrief 112 = .ok (.goto (-65), 3) := by decide +kernel
theorem dX2_leastGrief_115 : decode cX2_leastGrief 115 = .ok (.iload 4, 2) := by decide +kernel
theorem dX2_leastGrief_117 : decode cX2_leastGrief 117 = .ok (.ireturn, 1) := by decide +kernel
theorem dX2_leastGriefBehind_0 : decode cX2_leastGriefBehind 0 = .ok (.sipush 1000, 3) := by decide +kernel
theorem dX2_leastGriefBehind_3 : decode cX2_leastGriefBehind 3 = .ok (.istore_n 3, 1) := by decide +kernel
theorem dX2_leastGriefBehind_4 : decode cX2_leastGriefBehind 4 = .ok (.iconst 0, 1) := by decide +kernel
theorem dX2_leastGriefBehind_5 : decode cX2_leastGriefBehind 5 = .ok (.istore 4, 2) := by decide +kernel
theorem dX2_leastGriefBehind_7 : decode cX2_leastGriefBehind 7 = .ok (.iload 4, 2) := by decide +kernel
theorem dX2_leastGriefBehind_9 : decode cX2_leastGriefBehind 9 = .ok (.aload_n 0, 1) := by decide +kernel
theorem dX2_leastGriefBehind_10 : decode cX2_leastGriefBehind 10 = .ok (.getfield 24, 3) := by decide +kernel
theorem dX2_leastGriefBehind_13 : decode cX2_leastGriefBehind 13 = .ok (.getfield 32, 3) := by decide +kernel
theorem dX2_leastGriefBehind_16 : decode cX2_leastGriefBehind 16 = .ok (.if_icmp .ge 41, 3) := by decide +kernel
theorem dX2_leastGriefBehind_19 : decode cX2_leastGriefBehind 19 = .ok (.iload_n 2, 1) := by decide +kernel
theorem dX2_leastGriefBehind_20 : decode cX2_leastGriefBehind 20 = .ok (.iload 4, 2) := by decide +kernel
theorem dX2_leastGriefBehind_22 : decode cX2_leastGriefBehind 22 = .ok (.invokestatic 42, 3) := by decide +kernel
theorem dX2_leastGriefBehind_25 : decode cX2_leastGriefBehind 25 = .ok (.iconst 1, 1) := by decide +kernel
theorem dX2_leastGriefBehind_26 : decode cX2_leastGriefBehind 26 = .ok (.if_icmp .ne 25, 3) := by decide +kernel
theorem dX2_leastGriefBehind_29 : decode cX2_leastGriefBehind 29 = .ok (.iload_n 3, 1) := by decide +kernel
theorem dX2_leastGriefBehind_30 : decode cX2_leastGriefBehind 30 = .ok (.aload_n 0, 1) := by decide +kernel
theorem dX2_leastGriefBehind_31 : decode cX2_leastGriefBehind 31 = .ok (.getfield 18, 3) := by decide +kernel
theorem dX2_leastGriefBehind_34 : decode cX2_leastGriefBehind 34 = .ok (.iload_n 1, 1) := by decide +kernel
theorem dX2_leastGriefBehind_35 : decode cX2_leastGriefBehind 35 = .ok (.iload_n 2, 1) := by decide +kernel
theorem dX2_leastGriefBehind_36 : decode cX2_leastGriefBehind 36 = .ok (.iconst 1, 1) := by decide +kernel
theorem dX2_leastGriefBehind_37 : decode cX2_leastGriefBehind 37 = .ok (.iload 4, 2) := by decide +kernel
theorem dX2_leastGriefBehind_39 : decode cX2_leastGriefBehind 39 = .ok (.ishl, 1) := by decide +kernel
theorem dX2_leastGriefBehind_40 : decode cX2_leastGriefBehind 40 = .ok (.iconst (-1), 1) := by decide +kernel
theorem dX2_leastGriefBehind_41 : decode cX2_leastGriefBehind 41 = .ok (.ixor, 1) := by decide +kernel
theorem dX2_leastGriefBehind_42 : decode cX2_leastGriefBehind 42 = .ok (.iand, 1) := by decide +kernel
theorem dX2_leastGriefBehind_43 : decode cX2_leastGriefBehind 43 = .ok (.invokestatic 99, 3) := by decide +kernel
theorem dX2_leastGriefBehind_46 : decode cX2_leastGriefBehind 46 = .ok (.iaload, 1) := by decide +kernel
theorem dX2_leastGriefBehind_47 : decode cX2_leastGriefBehind 47 = .ok (.invokestatic 60, 3) := by decide +kernel
theorem dX2_leastGriefBehind_50 : decode cX2_leastGriefBehind 50 = .ok (.istore_n 3, 1) := by decide +kernel
theorem dX2_leastGriefBehind_51 : decode cX2_leastGriefBehind 51 = .ok (.iinc 4 1, 3) := by decide +kernel
theorem dX2_leastGriefBehind_54 : decode cX2_leastGriefBehind 54 = .ok (.goto (-47), 3) := by decide +kernel
theorem dX2_leastGriefBehind_57 : decode cX2_leastGriefBehind 57 = .ok (.iload_n 3, 1) := by decide +kernel
theorem dX2_leastGriefBehind_58 : decode cX2_leastGriefBehind 58 = .ok (.ireturn, 1) := by decide +kernel
theorem dX2_sidesThatWin_0 : decode cX2_sidesThatWin 0 = .ok (.iconst 0, 1) := by decide +kernel
theorem dX2_sidesThatWin_1 : decode cX2_sidesThatWin 1 = .ok (.istore_n 3, 1) := by decide +kernel
theorem dX2_sidesThatWin_2 : decode cX2_sidesThatWin 2 = .ok (.iconst 0, 1) := by decide +kernel
theorem dX2_sidesThatWin_3 : decode cX2_sidesThatWin 3 = .ok (.istore 4, 2) := by decide +kernel
theorem dX2_sidesThatWin_5 : decode cX2_sidesThatWin 5 = .ok (.iload 4, 2) := by decide +kernel
theorem dX2_sidesThatWin_7 : decode cX2_sidesThatWin 7 = .ok (.aload_n 0, 1) := by decide +kernel
theorem dX2_sidesThatWin_8 : decode cX2_sidesThatWin 8 = .ok (.getfield 24, 3) := by decide +kernel
theorem dX2_sidesThatWin_11 : decode cX2_sidesThatWin 11 = .ok (.getfield 76, 3) := by decide +kernel
theorem dX2_sidesThatWin_14 : decode cX2_sidesThatWin 14 = .ok (.if_icmp .ge 89, 3) := by decide +kernel
theorem dX2_sidesThatWin_17 : decode cX2_sidesThatWin 17 = .ok (.aload_n 0, 1) := by decide +kernel
theorem dX2_sidesThatWin_18 : decode cX2_sidesThatWin 18 = .ok (.getfield 24, 3) := by decide +kernel
theorem dX2_sidesThatWin_21 : decode cX2_sidesThatWin 21 = .ok (.getfield 124, 3) := by decide +kernel
theorem dX2_sidesThatWin_24 : decode cX2_sidesThatWin 24 = .ok (.iload 4, 2) := by decide +kernel
theorem dX2_sidesThatWin_26 : decode cX2_sidesThatWin 26 = .ok (.iaload, 1) := by decide +kernel
theorem dX2_sidesThatWin_27 : decode cX2_sidesThatWin 27 = .ok (.istore 5, 2) := by decide +kernel
theorem dX2_sidesThatWin_29 : decode cX2_sidesThatWin 29 = .ok (.iload_n 1, 1) := by decide +kernel
theorem dX2_sidesThatWin_30 : decode cX2_sidesThatWin 30 = .ok (.aload_n 0, 1) := by decide +kernel
theorem dX2_sidesThatWin_31 : decode cX2_sidesThatWin 31 = .ok (.getfield 24, 3) := by decide +kernel
theorem dX2_sidesThatWin_34 : decode cX2_sidesThatWin 34 = .ok (.getfield 51, 3) := by decide +kernel
theorem dX2_sidesThatWin_37 : decode cX2_sidesThatWin 37 = .ok (.iload_n 2, 1) := by decide +kernel
theorem dX2_sidesThatWin_38 : decode cX2_sidesThatWin 38 = .ok (.iaload, 1) := by decide +kernel
theorem dX2_sidesThatWin_39 : decode cX2_sidesThatWin 39 = .ok (.iand, 1) := by decide +kernel
theorem dX2_sidesThatWin_40 : decode cX2_sidesThatWin 40 = .ok (.iload 4, 2) := by decide +kernel
theorem dX2_sidesThatWin_42 : decode cX2_sidesThatWin 42 = .ok (.invokestatic 42, 3) := by decide +kernel
theorem dX2_sidesThatWin_45 : decode cX2_sidesThatWin 45 = .ok (.iconst 1, 1) := by decide +kernel
theorem dX2_sidesThatWin_46 : decode cX2_sidesThatWin 46 = .ok (.if_icmp .ne 16, 3) := by decide +kernel
theorem dX2_sidesThatWin_49 : decode cX2_sidesThatWin 49 = .ok (.iload_n 3, 1) := by decide +kernel
theorem dX2_sidesThatWin_50 : decode cX2_sidesThatWin 50 = .ok (.iload 5, 2) := by decide +kernel
theorem dX2_sidesThatWin_52 : decode cX2_sidesThatWin 52 = .ok (.invokestatic 42, 3) := by decide +kernel
theorem dX2_sidesThatWin_55 : decode cX2_sidesThatWin 55 = .ok (.ifCond .ne 7, 3) := by decide +kernel
theorem dX2_sidesThatWin_58 : decode cX2_sidesThatWin 58 = .ok (.iconst 1, 1) := by decide +kernel
theorem dX2_sidesThatWin_59 : decode cX2_sidesThatWin 59 = .ok (.goto 4, 3) := by decide +kernel
theorem dX2_sidesThatWin_62 : decode cX2_sidesThatWin 62 = .ok (.iconst 0, 1) := by decide +kernel
theorem dX2_sidesThatWin_63 : decode cX2_sidesThatWin 63 = .ok (.istore 6, 2) := by decide +kernel
theorem dX2_sidesThatWin_65 : decode cX2_sidesThatWin 65 = .ok (.iload 6, 2) := by decide +kernel
theorem dX2_sidesThatWin_67 : decode cX2_sidesThatWin 67 = .ok (.ifCond .eq 30, 3) := by decide +kernel
theorem dX2_sidesThatWin_70 : decode cX2_sidesThatWin 70 = .ok (.aload_n 0, 1) := by decide +kernel
theorem dX2_sidesThatWin_71 : decode cX2_sidesThatWin 71 = .ok (.iconst 1, 1) := by decide +kernel
theorem dX2_sidesThatWin_72 : decode cX2_sidesThatWin 72 = .ok (.iload 5, 2) := by decide +kernel
theorem dX2_sidesThatWin_74 : decode cX2_sidesThatWin 74 = .ok (.isub, 1) := by decide +kernel
theorem dX2_sidesThatWin_75 : decode cX2_sidesThatWin 75 = .ok (.iload_n 1, 1) := by decide +kernel
theorem dX2_sidesThatWin_76 : decode cX2_sidesThatWin 76 = .ok (.iconst 1, 1) := by decide +kernel
theorem dX2_sidesThatWin_77 : decode cX2_sidesThatWin 77 = .ok (.iload 4, 2) := by decide +kernel
theorem dX2_sidesThatWin_79 : decode cX2_sidesThatWin 79 = .ok (.ishl, 1) := by decide +kernel
theorem dX2_sidesThatWin_80 : decode cX2_sidesThatWin 80 = .ok (.iconst (-1), 1) := by decide +kernel
theorem dX2_sidesThatWin_81 : decode cX2_sidesThatWin 81 = .ok (.ixor, 1) := by decide +kernel
theorem dX2_sidesThatWin_82 : decode cX2_sidesThatWin 82 = .ok (.iand, 1) := by decide +kernel
theorem dX2_sidesThatWin_83 : decode cX2_sidesThatWin 83 = .ok (.iload_n 2, 1) := by decide +kernel
theorem dX2_sidesThatWin_84 : decode cX2_sidesThatWin 84 = .ok (.invokevirtual 127, 3) := by decide +kernel
theorem dX2_sidesThatWin_87 : decode cX2_sidesThatWin 87 = .ok (.ifCond .eq 10, 3) := by decide +kernel
theorem dX2_sidesThatWin_90 : decode cX2_sidesThatWin 90 = .ok (.iload_n 3, 1) := by decide +kernel
theorem dX2_sidesThatWin_91 : decode cX2_sidesThatWin 91 = .ok (.iconst 1, 1) := by decide +kernel
theorem dX2_sidesThatWin_92 : decode cX2_sidesThatWin 92 = .ok (.iload 5, 2) := by decide +kernel
theorem dX2_sidesThatWin_94 : decode cX2_sidesThatWin 94 = .ok (.ishl, 1) := by decide +kernel
theorem dX2_sidesThatWin_95 : decode cX2_sidesThatWin 95 = .ok (.ior, 1) := by decide +kernel
theorem dX2_sidesThatWin_96 : decode cX2_sidesThatWin 96 = .ok (.istore_n 3, 1) := by decide +kernel
theorem dX2_sidesThatWin_97 : decode cX2_sidesThatWin 97 = .ok (.iinc 4 1, 3) := by decide +kernel
theorem dX2_sidesThatWin_100 : decode cX2_sidesThatWin 100 = .ok (.goto (-95), 3) := by decide +kernel
theorem dX2_sidesThatWin_103 : decode cX2_sidesThatWin 103 = .ok (.iload_n 3, 1) := by decide +kernel
theorem dX2_sidesThatWin_104 : decode cX2_sidesThatWin 104 = .ok (.ireturn, 1) := by decide +kernel
theorem dX2_canBeat_0 : decode cX2_canBeat 0 = .ok (.iconst 0, 1) := by decide +kernel
theorem dX2_canBeat_1 : decode cX2_canBeat 1 = .ok (.istore 4, 2) := by decide +kernel
theorem dX2_canBeat_3 : decode cX2_canBeat 3 = .ok (.iload 4, 2) := by decide +kernel
theorem dX2_canBeat_5 : decode cX2_canBeat 5 = .ok (.aload_n 0, 1) := by decide +kernel
theorem dX2_canBeat_6 : decode cX2_canBeat 6 = .ok (.getfield 24, 3) := by decide +kernel
theorem dX2_canBeat_9 : decode cX2_canBeat 9 = .ok (.getfield 32, 3) := by decide +kernel
theorem dX2_canBeat_12 : decode cX2_canBeat 12 = .ok (.if_icmp .ge 45, 3) := by decide +kernel
theorem dX2_canBeat_15 : decode cX2_canBeat 15 = .ok (.iload_n 3, 1) := by decide +kernel
theorem dX2_canBeat_16 : decode cX2_canBeat 16 = .ok (.iload 4, 2) := by decide +kernel
theorem dX2_canBeat_18 : decode cX2_canBeat 18 = .ok (.invokestatic 42, 3) := by decide +kernel
theorem dX2_canBeat_21 : decode cX2_canBeat 21 = .ok (.iconst 1, 1) := by decide +kernel
theorem dX2_canBeat_22 : decode cX2_canBeat 22 = .ok (.if_icmp .ne 29, 3) := by decide +kernel
theorem dX2_canBeat_25 : decode cX2_canBeat 25 = .ok (.aload_n 0, 1) := by decide +kernel
theorem dX2_canBeat_26 : decode cX2_canBeat 26 = .ok (.getfield 21, 3) := by decide +kernel
theorem dX2_canBeat_29 : decode cX2_canBeat 29 = .ok (.iload_n 2, 1) := by decide +kernel
theorem dX2_canBeat_30 : decode cX2_canBeat 30 = .ok (.iload_n 3, 1) := by decide +kernel
theorem dX2_canBeat_31 : decode cX2_canBeat 31 = .ok (.iconst 1, 1) := by decide +kernel
theorem dX2_canBeat_32 : decode cX2_canBeat 32 = .ok (.iload 4, 2) := by decide +kernel
theorem dX2_canBeat_34 : decode cX2_canBeat 34 = .ok (.ishl, 1) := by decide +kernel
theorem dX2_canBeat_35 : decode cX2_canBeat 35 = .ok (.iconst (-1), 1) := by decide +kernel
theorem dX2_canBeat_36 : decode cX2_canBeat 36 = .ok (.ixor, 1) := by decide +kernel
theorem dX2_canBeat_37 : decode cX2_canBeat 37 = .ok (.iand, 1) := by decide +kernel
theorem dX2_canBeat_38 : decode cX2_canBeat 38 = .ok (.invokestatic 99, 3) := by decide +kernel
theorem dX2_canBeat_41 : decode cX2_canBeat 41 = .ok (.iaload, 1) := by decide +kernel
theorem dX2_canBeat_42 : decode cX2_canBeat 42 = .ok (.iload_n 1, 1) := by decide +kernel
theorem dX2_canBeat_43 : decode cX2_canBeat 43 = .ok (.invokestatic 42, 3) := by decide +kernel
theorem dX2_canBeat_46 : decode cX2_canBeat 46 = .ok (.ifCond .ne 5, 3) := by decide +kernel
theorem dX2_canBeat_49 : decode cX2_canBeat 49 = .ok (.iconst 1, 1) := by decide +kernel
theorem dX2_canBeat_50 : decode cX2_canBeat 50 = .ok (.ireturn, 1) := by decide +kernel
theorem dX2_canBeat_51 : decode cX2_canBeat 51 = .ok (.iinc 4 1, 3) := by decide +kernel
theorem dX2_canBeat_54 : decode cX2_canBeat 54 = .ok (.goto (-51), 3) := by decide +kernel
theorem dX2_canBeat_57 : decode cX2_canBeat 57 = .ok (.iconst 0, 1) := by decide +kernel
theorem dX2_canBeat_58 : decode cX2_canBeat 58 = .ok (.ireturn, 1) := by decide +kernel
theorem dX2_placeIn_0 : decode cX2_placeIn 0 = .ok (.iload_n 0, 1) := by decide +kernel
theorem dX2_placeIn_1 : decode cX2_placeIn 1 = .ok (.bipush 64, 2) := by decide +kernel
theorem dX2_placeIn_3 : decode cX2_placeIn 3 = .ok (.imul, 1) := by decide +kernel
theorem dX2_placeIn_4 : decode cX2_placeIn 4 = .ok (.iload_n 1, 1) := by decide +kernel
theorem dX2_placeIn_5 : decode cX2_placeIn 5 = .ok (.iadd, 1) := by decide +kernel
theorem dX2_placeIn_6 : decode cX2_placeIn 6 = .ok (.ireturn, 1) := by decide +kernel
theorem dX3_init_0 : decode cX3_init 0 = .ok (.aload_n 0, 1) := by decide +kernel
theorem dX3_init_1 : decode cX3_init 1 = .ok (.invokespecial 3, 3) := by decide +kernel
theorem dX3_init_4 : decode cX3_init 4 = .ok (.aload_n 0, 1) := by decide +kernel
theorem dX3_init_5 : decode cX3_init 5 = .ok (.sipush 300, 3) := by decide +kernel
theorem dX3_init_8 : decode cX3_init 8 = .ok (.newarray .int, 2) := by decide +kernel
theorem dX3_init_10 : decode cX3_init 10 = .ok (.putfield 9, 3) := by decide +kernel
theorem dX3_init_13 : decode cX3_init 13 = .ok (.aload_n 0, 1) := by decide +kernel
theorem dX3_init_14 : decode cX3_init 14 = .ok (.iconst 0, 1) := by decide +kernel
theorem dX3_init_15 : decode cX3_init 15 = .ok (.putfield 15, 3) := by decide +kernel
theorem dX3_init_18 : decode cX3_init 18 = .ok (.aload_n 0, 1) := by decide +kernel
theorem dX3_init_19 : decode cX3_init 19 = .ok (.iconst 4, 1) := by decide +kernel
theorem dX3_init_20 : decode cX3_init 20 = .ok (.newarray .int, 2) := by decide +kernel
theorem dX3_init_22 : decode cX3_init 22 = .ok (.putfield 19, 3) := by decide +kernel
theorem dX3_init_25 : decode cX3_init 25 = .ok (.return_, 1) := by decide +kernel
theorem dX3_add_0 : decode cX3_add 0 = .ok (.aload_n 0, 1) := by decide +kernel
theorem dX3_add_1 : decode cX3_add 1 = .ok (.getfield 15, 3) := by decide +kernel
theorem dX3_add_4 : decode cX3_add 4 = .ok (.sipush 300, 3) := by decide +kernel
theorem dX3_add_7 : decode cX3_add 7 = .ok (.if_icmp .ge 23, 3) := by decide +kernel
theorem dX3_add_10 : decode cX3_add 10 = .ok (.aload_n 0, 1) := by decide +kernel
theorem dX3_add_11 : decode cX3_add 11 = .ok (.getfield 9, 3) := by decide +kernel
theorem dX3_add_14 : decode cX3_add 14 = .ok (.aload_n 0, 1) := by decide +kernel
theorem dX3_add_15 : decode cX3_add 15 = .ok (.getfield 15, 3) := by decide +kernel
theorem dX3_add_18 : decode cX3_add 18 = .ok (.iload_n 1, 1) := by decide +kernel
theorem dX3_add_19 : decode cX3_add 19 = .ok (.iastore, 1) := by decide +kernel
theorem dX3_add_20 : decode cX3_add 20 = .ok (.aload_n 0, 1) := by decide +kernel
theorem dX3_add_21 : decode cX3_add 21 = .ok (.dup, 1) := by decide +kernel
theorem dX3_add_22 : decode cX3_add 22 = .ok (.getfield 15, 3) := by decide +kernel
theorem dX3_add_25 : decode cX3_add 25 = .ok (.iconst 1, 1) := by decide +kernel
theorem dX3_add_26 : decode cX3_add 26 = .ok (.iadd, 1) := by decide +kernel
theorem dX3_add_27 : decode cX3_add 27 = .ok (.putfield 15, 3) := by decide +kernel
theorem dX3_add_30 : decode cX3_add 30 = .ok (.return_, 1) := by decide +kernel
theorem dX3_readInto_0 : decode cX3_readInto 0 = .ok (.aload_n 1, 1) := by decide +kernel
theorem dX3_readInto_1 : decode cX3_readInto 1 = .ok (.invokevirtual 22, 3) := by decide +kernel
theorem dX3_readInto_4 : decode cX3_readInto 4 = .ok (.aload_n 0, 1) := by decide +kernel
theorem dX3_readInto_5 : decode cX3_readInto 5 = .ok (.iconst 0, 1) := by decide +kernel
theorem dX3_readInto_6 : decode cX3_readInto 6 = .ok (.putfield 27, 3) := by decide +kernel
theorem dX3_readInto_9 : decode cX3_readInto 9 = .ok (.aload_n 0, 1) := by decide +kernel
theorem dX3_readInto_10 : decode cX3_readInto 10 = .ok (.iconst 0, 1) := by decide +kernel
theorem dX3_readInto_11 : decode cX3_readInto 11 = .ok (.putfield 30, 3) := by decide +kernel
theorem dX3_readInto_14 : decode cX3_readInto 14 = .ok (.aload_n 0, 1) := by decide +kernel
theorem dX3_readInto_15 : decode cX3_readInto 15 = .ok (.iconst 0, 1) := by decide +kernel
theorem dX3_readInto_16 : decode cX3_readInto 16 = .ok (.putfield 33, 3) := by decide +kernel
theorem dX3_readInto_19 : decode cX3_readInto 19 = .ok (.aload_n 0, 1) := by decide +kernel
theorem dX3_readInto_20 : decode cX3_readInto 20 = .ok (.iconst 0, 1) := by decide +kernel
theorem dX3_readInto_21 : decode cX3_readInto 21 = .ok (.putfield 36, 3) := by decide +kernel
theorem dX3_readInto_24 : decode cX3_readInto 24 = .ok (.iconst 0, 1) := by decide +kernel
theorem dX3_readInto_25 : decode cX3_readInto 25 = .ok (.istore_n 2, 1) := by decide +kernel
theorem dX3_readInto_26 : decode cX3_readInto 26 = .ok (.iload_n 2, 1) := by decide +kernel
theorem dX3_readInto_27 : decode cX3_readInto 27 = .ok (.aload_n 0, 1) := by decide +kernel
theorem dX3_readInto_28 : decode cX3_readInto 28 = .ok (.getfield 15, 3) := by decide +kernel
theorem dX3_readInto_31 : decode cX3_readInto 31 = .ok (.if_icmp .gt 48, 3) := by decide +kernel
theorem dX3_readInto_34 : decode cX3_readInto 34 = .ok (.aload_n 0, 1) := by decide +kernel
theorem dX3_readInto_35 : decode cX3_readInto 35 = .ok (.invokevirtual 40, 3) := by decide +kernel
theorem dX3_readInto_38 : decode cX3_readInto 38 = .ok (.aload_n 0, 1) := by decide +kernel
theorem dX3_readInto_39 : decode cX3_readInto 39 = .ok (.getfield 43, 3) := by decide +kernel
theorem dX3_readInto_42 : decode cX3_readInto 42 = .ok (.ifCond .ne 15, 3) := by decide +kernel
theorem dX3_readInto_45 : decode cX3_readInto 45 = .ok (.aload_n 0, 1) := by decide +kernel
theorem dX3_readInto_46 : decode cX3_readInto 46 = .ok (.getfield 30, 3) := by decide +kernel
theorem dX3_readInto_49 : decode cX3_readInto 49 = .ok (.ifCond .ne 8, 3) := by decide +kernel
theorem dX3_readInto_52 : decode cX3_readInto 52 = .ok (.aload_n 0, 1) := by decide +kernel
theorem dX3_readInto_53 : decode cX3_readInto 53 = .ok (.getfield 33, 3) := by decide +kernel
theorem dX3_readInto_56 : decode cX3_readInto 56 = .ok (.ireturn, 1) := by decide +kernel
theorem dX3_readInto_57 : decode cX3_readInto 57 = .ok (.aload_n 0, 1) := by decide +kernel
theorem dX3_readInto_58 : decode cX3_readInto 58 = .ok (.aload_n 1, 1) := by decide +kernel
theorem dX3_readInto_59 : decode cX3_readInto 59 = .ok (.invokevirtual 46, 3) := by decide +kernel
theorem dX3_readInto_62 : decode cX3_readInto 62 = .ok (.ifCond .ne 11, 3) := by decide +kernel
theorem dX3_readInto_65 : decode cX3_readInto 65 = .ok (.bipush (-10), 2) := by decide +kernel
theorem dX3_readInto_67 : decode cX3_readInto 67 = .ok (.aload_n 0, 1) := by decide +kernel
theorem dX3_readInto_68 : decode cX3_readInto 68 = .ok (.getfield 50, 3) := by decide +kernel
theorem dX3_readInto_71 : decode cX3_readInto 71 = .ok (.isub, 1) := by decide +kernel
theorem dX3_readInto_72 : decode cX3_readInto 72 = .ok (.ireturn, 1) := by decide +kernel
theorem dX3_readInto_73 : decode cX3_readInto 73 = .ok (.iinc 2 1, 3) := by decide +kernel
theorem dX3_readInto_76 : decode cX3_readInto 76 = .ok (.goto (-50), 3) := by decide +kernel
theorem dX3_readInto_79 : decode cX3_readInto 79 = .ok (.bipush (-10), 2) := by decide +kernel
theorem dX3_readInto_81 : decode cX3_readInto 81 = .ok (.aload_n 0, 1) := by decide +kernel
theorem dX3_readInto_82 : decode cX3_readInto 82 = .ok (.getfield 15, 3) := by decide +kernel
theorem dX3_readInto_85 : decode cX3_readInto 85 = .ok (.isub, 1) := by decide +kernel
theorem dX3_readInto_86 : decode cX3_readInto 86 = .ok (.ireturn, 1) := by decide +kernel
theorem dX3_accept_0 : decode cX3_accept 0 = .ok (.aload_n 0, 1) := by decide +kernel
theorem dX3_accept_1 : decode cX3_accept 1 = .ok (.getfield 30, 3) := by decide +kernel
theorem dX3_accept_4 : decode cX3_accept 4 = .ok (.ifCond .ne 9, 3) := by decide +kernel
theorem dX3_accept_7 : decode cX3_accept 7 = .ok (.aload_n 0, 1) := by decide +kernel
theorem dX3_accept_8 : decode cX3_accept 8 = .ok (.aload_n 1, 1) := by decide +kernel
theorem dX3_accept_9 : decode cX3_accept 9 = .ok (.invokevirtual 53, 3) := by decide +kernel
theorem dX3_accept_12 : decode cX3_accept 12 = .ok (.ireturn, 1) := by decide +kernel
theorem dX3_accept_13 : decode cX3_accept 13 = .ok (.aload_n 0, 1) := by decide +kernel
theorem dX3_accept_14 : decode cX3_accept 14 = .ok (.getfield 56, 3) := by decide +kernel
theorem dX3_accept_17 : decode cX3_accept 17 = .ok (.aload_n 0, 1) := by decide +kernel
theorem dX3_accept_18 : decode cX3_accept 18 = .ok (.getfield 30, 3) := by decide +kernel
theorem dX3_accept_21 : decode cX3_accept 21 = .ok (.invokestatic 59, 3) := by decide +kernel
theorem dX3_accept_24 : decode cX3_accept 24 = .ok (.if_icmp .ge 9, 3) := by decide +kernel
theorem dX3_accept_27 : decode cX3_accept 27 = .ok (.aload_n 0, 1) := by decide +kernel
theorem dX3_accept_28 : decode cX3_accept 28 = .ok (.aload_n 1, 1) := by decide +kernel
theorem dX3_accept_29 : decode cX3_accept 29 = .ok (.invokevirtual 63, 3) := by decide +kernel
theorem dX3_accept_32 : decode cX3_accept 32 = .ok (.ireturn, 1) := by decide +kernel
theorem dX3_accept_33 : decode cX3_accept 33 = .ok (.aload_n 0, 1) := by decide +kernel
theorem dX3_accept_34 : decode cX3_accept 34 = .ok (.getfield 43, 3) := by decide +kernel
theorem dX3_accept_37 : decode cX3_accept 37 = .ok (.iconst 1, 1) := by decide +kernel
theorem dX3_accept_38 : decode cX3_accept 38 = .ok (.if_icmp .eq 5, 3) := by decide +kernel
theorem dX3_accept_41 : decode cX3_accept 41 = .ok (.iconst 0, 1) := by decide +kernel
theorem dX3_accept_42 : decode cX3_accept 42 = .ok (.ireturn, 1) := by decide +kernel
theorem dX3_accept_43 : decode cX3_accept 43 = .ok (.aload_n 0, 1) := by decide +kernel
theorem dX3_accept_44 : decode cX3_accept 44 = .ok (.aload_n 1, 1) := by decide +kernel
theorem dX3_accept_45 : decode cX3_accept 45 = .ok (.invokevirtual 66, 3) := by decide +kernel
theorem dX3_accept_48 : decode cX3_accept 48 = .ok (.iconst 1, 1) := by decide +kernel
theorem dX3_accept_49 : decode cX3_accept 49 = .ok (.ireturn, 1) := by decide +kernel
theorem dX3_beginItem_0 : decode cX3_beginItem 0 = .ok (.aload_n 0, 1) := by decide +kernel
theorem dX3_beginItem_1 : decode cX3_beginItem 1 = .ok (.aload_n 0, 1) := by decide +kernel
theorem dX3_beginItem_2 : decode cX3_beginItem 2 = .ok (.getfield 43, 3) := by decide +kernel
theorem dX3_beginItem_5 : decode cX3_beginItem 5 = .ok (.putfield 30, 3) := by decide +kernel
theorem dX3_beginItem_8 : decode cX3_beginItem 8 = .ok (.aload_n 0, 1) := by decide +kernel
theorem dX3_beginItem_9 : decode cX3_beginItem 9 = .ok (.iconst 0, 1) := by decide +kernel
theorem dX3_beginItem_10 : decode cX3_beginItem 10 = .ok (.putfield 56, 3) := by decide +kernel
theorem dX3_beginItem_13 : decode cX3_beginItem 13 = .ok (.aload_n 0, 1) := by decide +kernel
theorem dX3_beginItem_14 : decode cX3_beginItem 14 = .ok (.getfield 43, 3) := by decide +kernel
theorem dX3_beginItem_17 : decode cX3_beginItem 17 = .ok (.tableswitch 124 4 9 #[39, 52, 79, 81, 96, 111], 39) := by decide +kernel
theorem dX3_beginItem_56 : decode cX3_beginItem 56 = .ok (.aload_n 0, 1) := by decide +kernel
theorem dX3_beginItem_57 : decode cX3_beginItem 57 = .ok (.getfield 33, 3) := by decide +kernel
theorem dX3_beginItem_60 : decode cX3_beginItem 60 = .ok (.ifCond .ne 7, 3) := by decide +kernel
theorem dX3_beginItem_63 : decode cX3_beginItem 63 = .ok (.iconst 1, 1) := by decide +kernel
theorem dX3_beginItem_64 : decode cX3_beginItem 64 = .ok (.goto 4, 3) := by decide +kernel
theorem dX3_beginItem_67 : decode cX3_beginItem 67 = .ok (.iconst 0, 1) := by decide +kernel
theorem dX3_beginItem_68 : decode cX3_beginItem 68 = .ok (.ireturn, 1) := by decide +kernel
theorem dX3_beginItem_69 : decode cX3_beginItem 69 = .ok (.aload_n 1, 1) := by decide +kernel
theorem dX3_beginItem_70 : decode cX3_beginItem 70 = .ok (.getfield 70, 3) := by decide +kernel
theorem dX3_beginItem_73 : decode cX3_beginItem 73 = .ok (.ifCond .ne 21, 3) := by decide +kernel
theorem dX3_beginItem_76 : decode cX3_beginItem 76 = .ok (.aload_n 1, 1) := by decide +kernel
theorem dX3_beginItem_77 : decode cX3_beginItem 77 = .ok (.getfield 73, 3) := by decide +kernel
theorem dX3_beginItem_80 : decode cX3_beginItem 80 = .ok (.ifCond .ne 14, 3) := by decide +kernel
theorem dX3_beginItem_83 : decode cX3_beginItem 83 = .ok (.aload_n 1, 1) := by decide +kernel
theorem dX3_beginItem_84 : decode cX3_beginItem 84 = .ok (.getfield 76, 3) := by decide +kernel
theorem dX3_beginItem_87 : decode cX3_beginItem 87 = .ok (.ifCond .ne 7, 3) := by decide +kernel
theorem dX3_beginItem_90 : decode cX3_beginItem 90 = .ok (.iconst 1, 1) := by decide +kernel
theorem dX3_beginItem_91 : decode cX3_beginItem 91 = .ok (.goto 4, 3) := by decide +kernel
theorem dX3_beginItem_94 : decode cX3_beginItem 94 = .ok (.iconst 0, 1) := by decide +kernel
theorem dX3_beginItem_95 : decode cX3_beginItem 95 = .ok (.ireturn, 1) := by decide +kernel
theorem dX3_beginItem_96 : decode cX3_beginItem 96 = .ok (.iconst 1, 1) := by decide +kernel
theorem dX3_beginItem_97 : decode cX3_beginItem 97 = .ok (.ireturn, 1) := by decide +kernel
theorem dX3_beginItem_98 : decode cX3_beginItem 98 = .ok (.aload_n 1, 1) := by decide +kernel
theorem dX3_beginItem_99 : decode cX3_beginItem 99 = .ok (.getfield 73, 3) := by decide +kernel
theorem dX3_beginItem_102 : decode cX3_beginItem 102 = .ok (.bipush 6, 2) := by decide +kernel
theorem dX3_beginItem_104 : decode cX3_beginItem 104 = .ok (.if_icmp .ge 7, 3) := by decide +kernel
theorem dX3_beginItem_107 : decode cX3_beginItem 107 = .ok (.iconst 1, 1) := by decide +kernel
theorem dX3_beginItem_108 : decode cX3_beginItem 108 = .ok (.goto 4, 3) := by decide +kernel
theorem dX3_beginItem_111 : decode cX3_beginItem 111 = .ok (.iconst 0, 1) := by decide +kernel
theorem dX3_beginItem_112 : decode cX3_beginItem 112 = .ok (.ireturn, 1) := by decide +kernel
theorem dX3_beginItem_113 : decode cX3_beginItem 113 = .ok (.aload_n 1, 1) := by decide +kernel
theorem dX3_beginItem_114 : decode cX3_beginItem 114 = .ok (.getfield 76, 3) := by decide +kernel
theorem dX3_beginItem_117 : decode cX3_beginItem 117 = .ok (.bipush 6, 2) := by decide +kernel
theorem dX3_beginItem_119 : decode cX3_beginItem 119 = .ok (.if_icmp .ge 7, 3) := by decide +kernel
theorem dX3_beginItem_122 : decode cX3_beginItem 122 = .ok (.iconst 1, 1) := by decide +kernel
theorem dX3_beginItem_123 : decode cX3_beginItem 123 = .ok (.goto 4, 3) := by decide +kernel
theorem dX3_beginItem_126 : decode cX3_beginItem 126 = .ok (.iconst 0, 1) := by decide +kernel
theorem dX3_beginItem_127 : decode cX3_beginItem 127 = .ok (.ireturn, 1) := by decide +kernel
theorem dX3_beginItem_128 : decode cX3_beginItem 128 = .ok (.aload_n 0, 1) := by decide +kernel
theorem dX3_beginItem_129 : decode cX3_beginItem 129 = .ok (.getfield 36, 3) := by decide +kernel
theorem dX3_beginItem_132 : decode cX3_beginItem 132 = .ok (.ifCond .ne 7, 3) := by decide +kernel
theorem dX3_beginItem_135 : decode cX3_beginItem 135 = .ok (.iconst 1, 1) := by decide +kernel
theorem dX3_beginItem_136 : decode cX3_beginItem 136 = .ok (.goto 4, 3) := by decide +kernel
theorem dX3_beginItem_139 : decode cX3_beginItem 139 = .ok (.iconst 0, 1) := by decide +kernel
theorem dX3_beginItem_140 : decode cX3_beginItem 140 = .ok (.ireturn, 1) := by decide +kernel
theorem dX3_beginItem_141 : decode cX3_beginItem 141 = .ok (.iconst 0, 1) := by decide +kernel
theorem dX3_beginItem_142 : decode cX3_beginItem 142 = .ok (.ireturn, 1) := by decide +kernel
theorem dX3_numbersOf_0 : decode cX3_numbersOf 0 = .ok (.iload_n 0, 1) := by decide +kernel
theorem dX3_numbersOf_1 : decode cX3_numbersOf 1 = .ok (.tableswitch 33 7 9 #[29, 31, 27], 27) := by decide +kernel
theorem dX3_numbersOf_28 : decode cX3_numbersOf 28 = .ok (.iconst 1, 1) := by decide +kernel
theorem dX3_numbersOf_29 : decode cX3_numbersOf 29 = .ok (.ireturn, 1) := by decide +kernel
theorem dX3_numbersOf_30 : decode cX3_numbersOf 30 = .ok (.iconst 3, 1) := by decide +kernel
theorem dX3_numbersOf_31 : decode cX3_numbersOf 31 = .ok (.ireturn, 1) := by decide +kernel
theorem dX3_numbersOf_32 : decode cX3_numbersOf 32 = .ok (.iconst 4, 1) := by decide +kernel
theorem dX3_numbersOf_33 : decode cX3_numbersOf 33 = .ok (.ireturn, 1) := by decide +kernel
theorem dX3_numbersOf_34 : decode cX3_numbersOf 34 = .ok (.iconst 2, 1) := by decide +kernel
theorem dX3_numbersOf_35 : decode cX3_numbersOf 35 = .ok (.ireturn, 1) := by decide +kernel
theorem dX3_acceptNumber_0 : decode cX3_acceptNumber 0 = .ok (.aload_n 0, 1) := by decide +kernel
theorem dX3_acceptNumber_1 : decode cX3_acceptNumber 1 = .ok (.getfield 30, 3) := by decide +kernel
theorem dX3_acceptNumber_4 : decode cX3_acceptNumber 4 = .ok (.iconst 4, 1) := by decide +kernel
theorem dX3_acceptNumber_5 : decode cX3_acceptNumber 5 = .ok (.if_icmp .ne 7, 3) := by decide +kernel
theorem dX3_acceptNumber_8 : decode cX3_acceptNumber 8 = .ok (.iconst 1, 1) := by decide +kernel
theorem dX3_acceptNumber_9 : decode cX3_acceptNumber 9 = .ok (.goto 4, 3) := by decide +kernel
theorem dX3_acceptNumber_12 : decode cX3_acceptNumber 12 = .ok (.iconst 0, 1) := by decide +kernel
theorem dX3_acceptNumber_13 : decode cX3_acceptNumber 13 = .ok (.istore_n 2, 1) := by decide +kernel
theorem dX3_acceptNumber_14 : decode cX3_acceptNumber 14 = .ok (.aload_n 0, 1) := by decide +kernel
theorem dX3_acceptNumber_15 : decode cX3_acceptNumber 15 = .ok (.getfield 43, 3) := by decide +kernel
theorem dX3_acceptNumber_18 : decode cX3_acceptNumber 18 = .ok (.iconst 2, 1) := by decide +kernel
theorem dX3_acceptNumber_19 : decode cX3_acceptNumber 19 = .ok (.if_icmp .ne 31, 3) := by decide +kernel
theorem dX3_acceptNumber_22 : decode cX3_acceptNumber 22 = .ok (.aload_n 0, 1) := by decide +kernel
theorem dX3_acceptNumber_23 : decode cX3_acceptNumber 23 = .ok (.getfield 79, 3) := by decide +kernel
theorem dX3_acceptNumber_26 : decode cX3_acceptNumber 26 = .ok (.iload_n 2, 1) := by decide +kernel
theorem dX3_acceptNumber_27 : decode cX3_acceptNumber 27 = .ok (.if_icmp .lt 23, 3) := by decide +kernel
theorem dX3_acceptNumber_30 : decode cX3_acceptNumber 30 = .ok (.aload_n 0, 1) := by decide +kernel
theorem dX3_acceptNumber_31 : decode cX3_acceptNumber 31 = .ok (.getfield 79, 3) := by decide +kernel
theorem dX3_acceptNumber_34 : decode cX3_acceptNumber 34 = .ok (.aload_n 0, 1) := by decide +kernel
theorem dX3_acceptNumber_35 : decode cX3_acceptNumber 35 = .ok (.aload_n 1, 1) := by decide +kernel
theorem dX3_acceptNumber_36 : decode cX3_acceptNumber 36 = .ok (.invokevirtual 82, 3) := by decide +kernel
theorem dX3_acceptNumber_39 : decode cX3_acceptNumber 39 = .ok (.if_icmp .gt 11, 3) := by decide +kernel
theorem dX3_acceptNumber_42 : decode cX3_acceptNumber 42 = .ok (.aload_n 0, 1) := by decide +kernel
theorem dX3_acceptNumber_43 : decode cX3_acceptNumber 43 = .ok (.getfield 56, 3) := by decide +kernel
theorem dX3_acceptNumber_46 : decode cX3_acceptNumber 46 = .ok (.iconst 4, 1) := by decide +kernel
theorem dX3_acceptNumber_47 : decode cX3_acceptNumber 47 = .ok (.if_icmp .lt 5, 3) := by decide +kernel
theorem dX3_acceptNumber_50 : decode cX3_acceptNumber 50 = .ok (.iconst 0, 1) := by decide +kernel
theorem dX3_acceptNumber_51 : decode cX3_acceptNumber 51 = .ok (.ireturn, 1) := by decide +kernel
theorem dX3_acceptNumber_52 : decode cX3_acceptNumber 52 = .ok (.aload_n 0, 1) := by decide +kernel
theorem dX3_acceptNumber_53 : decode cX3_acceptNumber 53 = .ok (.getfield 19, 3) := by decide +kernel
theorem dX3_acceptNumber_56 : decode cX3_acceptNumber 56 = .ok (.aload_n 0, 1) := by decide +kernel
theorem dX3_acceptNumber_57 : decode cX3_acceptNumber 57 = .ok (.getfield 56, 3) := by decide +kernel
theorem dX3_acceptNumber_60 : decode cX3_acceptNumber 60 = .ok (.aload_n 0, 1) := by decide +kernel
theorem dX3_acceptNumber_61 : decode cX3_acceptNumber 61 = .ok (.getfield 79, 3) := by decide +kernel
theorem dX3_acceptNumber_64 : decode cX3_acceptNumber 64 = .ok (.iastore, 1) := by decide +kernel
theorem dX3_acceptNumber_65 : decode cX3_acceptNumber 65 = .ok (.aload_n 0, 1) := by decide +kernel
theorem dX3_acceptNumber_66 : decode cX3_acceptNumber 66 = .ok (.dup, 1) := by decide +kernel
theorem dX3_acceptNumber_67 : decode cX3_acceptNumber 67 = .ok (.getfield 56, 3) := by decide +kernel
theorem dX3_acceptNumber_70 : decode cX3_acceptNumber 70 = .ok (.iconst 1, 1) := by decide +kernel
theorem dX3_acceptNumber_71 : decode cX3_acceptNumber 71 = .ok (.iadd, 1) := by decide +kernel
theorem dX3_acceptNumber_72 : decode cX3_acceptNumber 72 = .ok (.putfield 56, 3) := by decide +kernel
theorem dX3_acceptNumber_75 : decode cX3_acceptNumber 75 = .ok (.aload_n 0, 1) := by decide +kernel
theorem dX3_acceptNumber_76 : decode cX3_acceptNumber 76 = .ok (.getfield 30, 3) := by decide +kernel
theorem dX3_acceptNumber_79 : decode cX3_acceptNumber 79 = .ok (.bipush 6, 2) := by decide +kernel
theorem dX3_acceptNumber_81 : decode cX3_acceptNumber 81 = .ok (.if_icmp .eq 21, 3) := by decide +kernel
theorem dX3_acceptNumber_84 : decode cX3_acceptNumber 84 = .ok (.aload_n 0, 1) := by decide +kernel
theorem dX3_acceptNumber_85 : decode cX3_acceptNumber 85 = .ok (.getfield 30, 3) := by decide +kernel
theorem dX3_acceptNumber_88 : decode cX3_acceptNumber 88 = .ok (.bipush 7, 2) := by decide +kernel
theorem dX3_acceptNumber_90 : decode cX3_acceptNumber 90 = .ok (.if_icmp .eq 12, 3) := by decide +kernel
theorem dX3_acceptNumber_93 : decode cX3_acceptNumber 93 = .ok (.aload_n 0, 1) := by decide +kernel
theorem dX3_acceptNumber_94 : decode cX3_acceptNumber 94 = .ok (.getfield 30, 3) := by decide +kernel
theorem dX3_acceptNumber_97 : decode cX3_acceptNumber 97 = .ok (.bipush 8, 2) := by decide +kernel
theorem dX3_acceptNumber_99 : decode cX3_acceptNumber 99 = .ok (.if_icmp .ne 7, 3) := by decide +kernel
theorem dX3_acceptNumber_102 : decode cX3_acceptNumber 102 = .ok (.iconst 1, 1) := by decide +kernel
theorem dX3_acceptNumber_103 : decode cX3_acceptNumber 103 = .ok (.goto 4, 3) := by decide +kernel
theorem dX3_acceptNumber_106 : decode cX3_acceptNumber 106 = .ok (.iconst 0, 1) := by decide +kernel
theorem dX3_acceptNumber_107 : decode cX3_acceptNumber 107 = .ok (.istore_n 3, 1) := by decide +kernel
theorem dX3_acceptNumber_108 : decode cX3_acceptNumber 108 = .ok (.iload_n 3, 1) := by decide +kernel
theorem dX3_acceptNumber_109 : decode cX3_acceptNumber 109 = .ok (.ifCond .eq 26, 3) := by decide +kernel
theorem dX3_acceptNumber_112 : decode cX3_acceptNumber 112 = .ok (.aload_n 0, 1) := by decide +kernel
theorem dX3_acceptNumber_113 : decode cX3_acceptNumber 113 = .ok (.getfield 56, 3) := by decide +kernel
theorem dX3_acceptNumber_116 : decode cX3_acceptNumber 116 = .ok (.iconst 2, 1) := by decide +kernel
theorem dX3_acceptNumber_117 : decode cX3_acceptNumber 117 = .ok (.if_icmp .ne 18, 3) := by decide +kernel
theorem dX3_acceptNumber_120 : decode cX3_acceptNumber 120 = .ok (.aload_n 1, 1) := by decide +kernel
theorem dX3_acceptNumber_121 : decode cX3_acceptNumber 121 = .ok (.getfield 86, 3) := by decide +kernel
theorem dX3_acceptNumber_124 : decode cX3_acceptNumber 124 = .ok (.aload_n 0, 1) := by decide +kernel
theorem dX3_acceptNumber_125 : decode cX3_acceptNumber 125 = .ok (.aload_n 1, 1) := by decide +kernel
theorem dX3_acceptNumber_126 : decode cX3_acceptNumber 126 = .ok (.invokevirtual 89, 3) := by decide +kernel
theorem dX3_acceptNumber_129 : decode cX3_acceptNumber 129 = .ok (.invokestatic 92, 3) := by decide +kernel
theorem dX3_acceptNumber_132 : decode cX3_acceptNumber 132 = .ok (.ifCond .ne 7, 3) := by decide +kernel
theorem dX3_acceptNumber_135 : decode cX3_acceptNumber 135 = .ok (.iconst 1, 1) := by decide +kernel
theorem dX3_acceptNumber_136 : decode cX3_acceptNumber 136 = .ok (.goto 4, 3) := by decide +kernel
theorem dX3_acceptNumber_139 : decode cX3_acceptNumber 139 = .ok (.iconst 0, 1) := by decide +kernel
theorem dX3_acceptNumber_140 : decode cX3_acceptNumber 140 = .ok (.ireturn, 1) := by decide +kernel
theorem dX3_greatest_0 : decode cX3_greatest 0 = .ok (.aload_n 0, 1) := by decide +kernel
theorem dX3_greatest_1 : decode cX3_greatest 1 = .ok (.getfield 30, 3) := by decide +kernel
theorem dX3_greatest_4 : decode cX3_greatest 4 = .ok (.bipush 9, 2) := by decide +kernel
theorem dX3_greatest_6 : decode cX3_greatest 6 = .ok (.if_icmp .ne 5, 3) := by decide +kernel
theorem dX3_greatest_9 : decode cX3_greatest 9 = .ok (.iconst 1, 1) := by decide +kernel
theorem dX3_greatest_10 : decode cX3_greatest 10 = .ok (.ireturn, 1) := by decide +kernel
theorem dX3_greatest_11 : decode cX3_greatest 11 = .ok (.aload_n 0, 1) := by decide +kernel
theorem dX3_greatest_12 : decode cX3_greatest 12 = .ok (.getfield 56, 3) := by decide +kernel
theorem dX3_greatest_15 : decode cX3_greatest 15 = .ok (.tableswitch 80 0 2 #[25, 44, 63], 25) := by decide +kernel
theorem dX3_greatest_40 : decode cX3_greatest 40 = .ok (.aload_n 0, 1) := by decide +kernel
theorem dX3_greatest_41 : decode cX3_greatest 41 = .ok (.getfield 30, 3) := by decide +kernel
theorem dX3_greatest_44 : decode cX3_greatest 44 = .ok (.iconst 4, 1) := by decide +kernel
theorem dX3_greatest_45 : decode cX3_greatest 45 = .ok (.if_icmp .ne 7, 3) := by decide +kernel
theorem dX3_greatest_48 : decode cX3_greatest 48 = .ok (.iconst 4, 1) := by decide +kernel
theorem dX3_greatest_49 : decode cX3_greatest 49 = .ok (.goto 9, 3) := by decide +kernel
theorem dX3_greatest_52 : decode cX3_greatest 52 = .ok (.aload_n 1, 1) := by decide +kernel
theorem dX3_greatest_53 : decode cX3_greatest 53 = .ok (.getfield 96, 3) := by decide +kernel
theorem dX3_greatest_56 : decode cX3_greatest 56 = .ok (.iconst 1, 1) := by decide +kernel
theorem dX3_greatest_57 : decode cX3_greatest 57 = .ok (.isub, 1) := by decide +kernel
theorem dX3_greatest_58 : decode cX3_greatest 58 = .ok (.ireturn, 1) := by decide +kernel
theorem dX3_greatest_59 : decode cX3_greatest 59 = .ok (.aload_n 0, 1) := by decide +kernel
theorem dX3_greatest_60 : decode cX3_greatest 60 = .ok (.getfield 30, 3) := by decide +kernel
theorem dX3_greatest_63 : decode cX3_greatest 63 = .ok (.iconst 4, 1) := by decide +kernel
theorem dX3_greatest_64 : decode cX3_greatest 64 = .ok (.if_icmp .ne 7, 3) := by decide +kernel
theorem dX3_greatest_67 : decode cX3_greatest 67 = .ok (.iconst 3, 1) := by decide +kernel
theorem dX3_greatest_68 : decode cX3_greatest 68 = .ok (.goto 9, 3) := by decide +kernel
theorem dX3_greatest_71 : decode cX3_greatest 71 = .ok (.aload_n 1, 1) := by decide +kernel
theorem dX3_greatest_72 : decode cX3_greatest 72 = .ok (.getfield 99, 3) := by decide +kernel
theorem dX3_greatest_75 : decode cX3_greatest 75 = .ok (.iconst 1, 1) := by decide +kernel
theorem dX3_greatest_76 : decode cX3_greatest 76 = .ok (.isub, 1) := by decide +kernel
theorem dX3_greatest_77 : decode cX3_greatest 77 = .ok (.ireturn, 1) := by decide +kernel
theorem dX3_greatest_78 : decode cX3_greatest 78 = .ok (.aload_n 0, 1) := by decide +kernel
theorem dX3_greatest_79 : decode cX3_greatest 79 = .ok (.getfield 30, 3) := by decide +kernel
theorem dX3_greatest_82 : decode cX3_greatest 82 = .ok (.bipush 7, 2) := by decide +kernel
theorem dX3_greatest_84 : decode cX3_greatest 84 = .ok (.if_icmp .ne 8, 3) := by decide +kernel
theorem dX3_greatest_87 : decode cX3_greatest 87 = .ok (.bipush 9, 2) := by decide +kernel
theorem dX3_greatest_89 : decode cX3_greatest 89 = .ok (.goto 5, 3) := by decide +kernel
theorem dX3_greatest_92 : decode cX3_greatest 92 = .ok (.bipush 9, 2) := by decide +kernel
theorem dX3_greatest_94 : decode cX3_greatest 94 = .ok (.ireturn, 1) := by decide +kernel
theorem dX3_greatest_95 : decode cX3_greatest 95 = .ok (.iconst 1, 1) := by decide +kernel
theorem dX3_greatest_96 : decode cX3_greatest 96 = .ok (.ireturn, 1) := by decide +kernel
theorem dX3_cellTold_0 : decode cX3_cellTold 0 = .ok (.aload_n 1, 1) := by decide +kernel
theorem dX3_cellTold_1 : decode cX3_cellTold 1 = .ok (.getfield 96, 3) := by decide +kernel
theorem dX3_cellTold_4 : decode cX3_cellTold 4 = .ok (.aload_n 0, 1) := by decide +kernel
theorem dX3_cellTold_5 : decode cX3_cellTold 5 = .ok (.getfield 19, 3) := by decide +kernel
theorem dX3_cellTold_8 : decode cX3_cellTold 8 = .ok (.iconst 1, 1) := by decide +kernel
theorem dX3_cellTold_9 : decode cX3_cellTold 9 = .ok (.iaload, 1) := by decide +kernel
theorem dX3_cellTold_10 : decode cX3_cellTold 10 = .ok (.imul, 1) := by decide +kernel
theorem dX3_cellTold_11 : decode cX3_cellTold 11 = .ok (.aload_n 0, 1) := by decide +kernel
theorem dX3_cellTold_12 : decode cX3_cellTold 12 = .ok (.getfield 19, 3) := by decide +kernel
theorem dX3_cellTold_15 : decode cX3_cellTold 15 = .ok (.iconst 0, 1) := by decide +kernel
theorem dX3_cellTold_16 : decode cX3_cellTold 16 = .ok (.iaload, 1) := by decide +kernel
theorem dX3_cellTold_17 : decode cX3_cellTold 17 = .ok (.iadd, 1) := by decide +kernel
theorem dX3_cellTold_18 : decode cX3_cellTold 18 = .ok (.ireturn, 1) := by decide +kernel
theorem dX3_endItem_0 : decode cX3_endItem 0 = .ok (.aload_n 0, 1) := by decide +kernel
theorem dX3_endItem_1 : decode cX3_endItem 1 = .ok (.getfield 30, 3) := by decide +kernel
theorem dX3_endItem_4 : decode cX3_endItem 4 = .ok (.tableswitch 139 4 8 #[36, 59, 78, 97, 115], 36) := by decide +kernel
theorem dX3_endItem_40 : decode cX3_endItem 40 = .ok (.aload_n 1, 1) := by decide +kernel
theorem dX3_endItem_41 : decode cX3_endItem 41 = .ok (.aload_n 0, 1) := by decide +kernel
theorem dX3_endItem_42 : decode cX3_endItem 42 = .ok (.getfield 19, 3) := by decide +kernel
theorem dX3_endItem_45 : decode cX3_endItem 45 = .ok (.iconst 0, 1) := by decide +kernel
theorem dX3_endItem_46 : decode cX3_endItem 46 = .ok (.iaload, 1) := by decide +kernel
theorem dX3_endItem_47 : decode cX3_endItem 47 = .ok (.putfield 96, 3) := by decide +kernel
theorem dX3_endItem_50 : decode cX3_endItem 50 = .ok (.aload_n 1, 1) := by decide +kernel
theorem dX3_endItem_51 : decode cX3_endItem 51 = .ok (.aload_n 0, 1) := by decide +kernel
theorem dX3_endItem_52 : decode cX3_endItem 52 = .ok (.getfield 19, 3) := by decide +kernel
theorem dX3_endItem_55 : decode cX3_endItem 55 = .ok (.iconst 1, 1) := by decide +kernel
theorem dX3_endItem_56 : decode cX3_endItem 56 = .ok (.iaload, 1) := by decide +kernel
theorem dX3_endItem_57 : decode cX3_endItem 57 = .ok (.putfield 99, 3) := by decide +kernel
theorem dX3_endItem_60 : decode cX3_endItem 60 = .ok (.goto 98, 3) := by decide +kernel
theorem dX3_endItem_63 : decode cX3_endItem 63 = .ok (.aload_n 1, 1) := by decide +kernel
theorem dX3_endItem_64 : decode cX3_endItem 64 = .ok (.dup, 1) := by decide +kernel
theorem dX3_endItem_65 : decode cX3_endItem 65 = .ok (.getfield 86, 3) := by decide +kernel
theorem dX3_endItem_68 : decode cX3_endItem 68 = .ok (.iconst 1, 1) := by decide +kernel
theorem dX3_endItem_69 : decode cX3_endItem 69 = .ok (.aload_n 0, 1) := by decide +kernel
theorem dX3_endItem_70 : decode cX3_endItem 70 = .ok (.aload_n 1, 1) := by decide +kernel
theorem dX3_endItem_71 : decode cX3_endItem 71 = .ok (.invokevirtual 89, 3) := by decide +kernel
theorem dX3_endItem_74 : decode cX3_endItem 74 = .ok (.ishl, 1) := by decide +kernel
theorem dX3_endItem_75 : decode cX3_endItem 75 = .ok (.ior, 1) := by decide +kernel
theorem dX3_endItem_76 : decode cX3_endItem 76 = .ok (.putfield 86, 3) := by decide +kernel
theorem dX3_endItem_79 : decode cX3_endItem 79 = .ok (.goto 79, 3) := by decide +kernel
theorem dX3_endItem_82 : decode cX3_endItem 82 = .ok (.aload_n 1, 1) := by decide +kernel
theorem dX3_endItem_83 : decode cX3_endItem 83 = .ok (.dup, 1) := by decide +kernel
theorem dX3_endItem_84 : decode cX3_endItem 84 = .ok (.getfield 70, 3) := by decide +kernel
theorem dX3_endItem_87 : decode cX3_endItem 87 = .ok (.iconst 1, 1) := by decide +kernel
theorem dX3_endItem_88 : decode cX3_endItem 88 = .ok (.aload_n 0, 1) := by decide +kernel
theorem dX3_endItem_89 : decode cX3_endItem 89 = .ok (.aload_n 1, 1) := by decide +kernel
theorem dX3_endItem_90 : decode cX3_endItem 90 = .ok (.invokevirtual 89, 3) := by decide +kernel
theorem dX3_endItem_93 : decode cX3_endItem 93 = .ok (.ishl, 1) := by decide +kernel
theorem dX3_endItem_94 : decode cX3_endItem 94 = .ok (.ior, 1) := by decide +kernel
theorem dX3_endItem_95 : decode cX3_endItem 95 = .ok (.putfield 70, 3) := by decide +kernel
theorem dX3_endItem_98 : decode cX3_endItem 98 = .ok (.goto 60, 3) := by decide +kernel
theorem dX3_endItem_101 : decode cX3_endItem 101 = .ok (.aload_n 1, 1) := by decide +kernel
theorem dX3_endItem_102 : decode cX3_endItem 102 = .ok (.aload_n 0, 1) := by decide +kernel
theorem dX3_endItem_103 : decode cX3_endItem 103 = .ok (.aload_n 1, 1) := by decide +kernel
theorem dX3_endItem_104 : decode cX3_endItem 104 = .ok (.invokevirtual 89, 3) := by decide +kernel
theorem dX3_endItem_107 : decode cX3_endItem 107 = .ok (.aload_n 0, 1) := by decide +kernel
theorem dX3_endItem_108 : decode cX3_endItem 108 = .ok (.getfield 19, 3) := by decide +kernel
theorem dX3_endItem_111 : decode cX3_endItem 111 = .ok (.iconst 2, 1) := by decide +kernel
theorem dX3_endItem_112 : decode cX3_endItem 112 = .ok (.iaload, 1) := by decide +kernel
theorem dX3_endItem_113 : decode cX3_endItem 113 = .ok (.invokevirtual 102, 3) := by decide +kernel
theorem dX3_endItem_116 : decode cX3_endItem 116 = .ok (.goto 42, 3) := by decide +kernel
theorem dX3_endItem_119 : decode cX3_endItem 119 = .ok (.aload_n 1, 1) := by decide +kernel
theorem dX3_endItem_120 : decode cX3_endItem 120 = .ok (.aload_n 0, 1) := by decide +kernel
theorem dX3_endItem_121 : decode cX3_endItem 121 = .ok (.aload_n 1, 1) := by decide +kernel
theorem dX3_endItem_122 : decode cX3_endItem 122 = .ok (.invokevirtual 89, 3) := by decide +kernel
theorem dX3_endItem_125 : decode cX3_endItem 125 = .ok (.aload_n 0, 1) := by decide +kernel
theorem dX3_endItem_126 : decode cX3_endItem 126 = .ok (.getfield 19, 3) := by decide +kernel
theorem dX3_endItem_129 : decode cX3_endItem 129 = .ok (.iconst 2, 1) := by decide +kernel
theorem dX3_endItem_130 : decode cX3_endItem 130 = .ok (.iaload, 1) := by decide +kernel
theorem dX3_endItem_131 : decode cX3_endItem 131 = .ok (.aload_n 0, 1) := by decide +kernel
theorem dX3_endItem_132 : decode cX3_endItem 132 = .ok (.getfield 19, 3) := by decide +kernel
theorem dX3_endItem_135 : decode cX3_endItem 135 = .ok (.iconst 3, 1) := by decide +kernel
theorem dX3_endItem_136 : decode cX3_endItem 136 = .ok (.iaload, 1) := by decide +kernel
theorem dX3_endItem_137 : decode cX3_endItem 137 = .ok (.invokevirtual 106, 3) := by decide +kernel
theorem dX3_endItem_140 : decode cX3_endItem 140 = .ok (.goto 18, 3) := by decide +kernel
theorem dX3_endItem_143 : decode cX3_endItem 143 = .ok (.aload_n 1, 1) := by decide +kernel
theorem dX3_endItem_144 : decode cX3_endItem 144 = .ok (.aload_n 0, 1) := by decide +kernel
theorem dX3_endItem_145 : decode cX3_endItem 145 = .ok (.getfield 19, 3) := by decide +kernel
theorem dX3_endItem_148 : decode cX3_endItem 148 = .ok (.iconst 0, 1) := by decide +kernel
theorem dX3_endItem_149 : decode cX3_endItem 149 = .ok (.iaload, 1) := by decide +kernel
theorem dX3_endItem_150 : decode cX3_endItem 150 = .ok (.putfield 110, 3) := by decide +kernel
theorem dX3_endItem_153 : decode cX3_endItem 153 = .ok (.aload_n 0, 1) := by decide +kernel
theorem dX3_endItem_154 : decode cX3_endItem 154 = .ok (.iconst 1, 1) := by decide +kernel
theorem dX3_endItem_155 : decode cX3_endItem 155 = .ok (.putfield 36, 3) := by decide +kernel
theorem dX3_endItem_158 : decode cX3_endItem 158 = .ok (.aload_n 0, 1) := by decide +kernel
theorem dX3_endItem_159 : decode cX3_endItem 159 = .ok (.iconst 0, 1) := by decide +kernel
theorem dX3_endItem_160 : decode cX3_endItem 160 = .ok (.putfield 30, 3) := by decide +kernel
theorem dX3_endItem_163 : decode cX3_endItem 163 = .ok (.aload_n 0, 1) := by decide +kernel
theorem dX3_endItem_164 : decode cX3_endItem 164 = .ok (.dup, 1) := by decide +kernel
theorem dX3_endItem_165 : decode cX3_endItem 165 = .ok (.getfield 33, 3) := by decide +kernel
theorem dX3_endItem_168 : decode cX3_endItem 168 = .ok (.iconst 1, 1) := by decide +kernel
theorem dX3_endItem_169 : decode cX3_endItem 169 = .ok (.iadd, 1) := by decide +kernel
theorem dX3_endItem_170 : decode cX3_endItem 170 = .ok (.putfield 33, 3) := by decide +kernel
theorem dX3_endItem_173 : decode cX3_endItem 173 = .ok (.return_, 1) := by decide +kernel
theorem dX3_readToken_0 : decode cX3_readToken 0 = .ok (.aload_n 0, 1) := by decide +kernel
theorem dX3_readToken_1 : decode cX3_readToken 1 = .ok (.getfield 27, 3) := by decide +kernel
theorem dX3_readToken_4 : decode cX3_readToken 4 = .ok (.aload_n 0, 1) := by decide +kernel
theorem dX3_readToken_5 : decode cX3_readToken 5 = .ok (.getfield 15, 3) := by decide +kernel
theorem dX3_readToken_8 : decode cX3_readToken 8 = .ok (.if_icmp .ge 30, 3) := by decide +kernel
theorem dX3_readToken_11 : decode cX3_readToken 11 = .ok (.aload_n 0, 1) := by decide +kernel
theorem dX3_readToken_12 : decode cX3_readToken 12 = .ok (.getfield 9, 3) := by decide +kernel
theorem dX3_readToken_15 : decode cX3_readToken 15 = .ok (.aload_n 0, 1) := by decide +kernel
theorem dX3_readToken_16 : decode cX3_readToken 16 = .ok (.getfield 27, 3) := by decide +kernel
theorem dX3_readToken_19 : decode cX3_readToken 19 = .ok (.iaload, 1) := by decide +kernel
theorem dX3_readToken_20 : decode cX3_readToken 20 = .ok (.bipush 32, 2) := by decide +kernel
theorem dX3_readToken_22 : decode cX3_readToken 22 = .ok (.if_icmp .ne 16, 3) := by decide +kernel
theorem dX3_readToken_25 : decode cX3_readToken 25 = .ok (.aload_n 0, 1) := by decide +kernel
theorem dX3_readToken_26 : decode cX3_readToken 26 = .ok (.dup, 1) := by decide +kernel
theorem dX3_readToken_27 : decode cX3_readToken 27 = .ok (.getfield 27, 3) := by decide +kernel
theorem dX3_readToken_30 : decode cX3_readToken 30 = .ok (.iconst 1, 1) := by decide +kernel
theorem dX3_readToken_31 : decode cX3_readToken 31 = .ok (.iadd, 1) := by decide +kernel
theorem dX3_readToken_32 : decode cX3_readToken 32 = .ok (.putfield 27, 3) := by decide +kernel
theorem dX3_readToken_35 : decode cX3_readToken 35 = .ok (.goto (-35), 3) := by decide +kernel
theorem dX3_readToken_38 : decode cX3_readToken 38 = .ok (.aload_n 0, 1) := by decide +kernel
theorem dX3_readToken_39 : decode cX3_readToken 39 = .ok (.aload_n 0, 1) := by decide +kernel
theorem dX3_readToken_40 : decode cX3_readToken 40 = .ok (.getfield 27, 3) := by decide +kernel
theorem dX3_readToken_43 : decode cX3_readToken 43 = .ok (.putfield 50, 3) := by decide +kernel
theorem dX3_readToken_46 : decode cX3_readToken 46 = .ok (.aload_n 0, 1) := by decide +kernel
theorem dX3_readToken_47 : decode cX3_readToken 47 = .ok (.getfield 27, 3) := by decide +kernel
theorem dX3_readToken_50 : decode cX3_readToken 50 = .ok (.aload_n 0, 1) := by decide +kernel
theorem dX3_readToken_51 : decode cX3_readToken 51 = .ok (.getfield 15, 3) := by decide +kernel
theorem dX3_readToken_54 : decode cX3_readToken 54 = .ok (.if_icmp .lt 11, 3) := by decide +kernel
theorem dX3_readToken_57 : decode cX3_readToken 57 = .ok (.aload_n 0, 1) := by decide +kernel
theorem dX3_readToken_58 : decode cX3_readToken 58 = .ok (.iconst 0, 1) := by decide +kernel
theorem dX3_readToken_59 : decode cX3_readToken 59 = .ok (.putfield 43, 3) := by decide +kernel
theorem dX3_readToken_62 : decode cX3_readToken 62 = .ok (.goto 80, 3) := by decide +kernel
theorem dX3_readToken_65 : decode cX3_readToken 65 = .ok (.aload_n 0, 1) := by decide +kernel
theorem dX3_readToken_66 : decode cX3_readToken 66 = .ok (.getfield 9, 3) := by decide +kernel
theorem dX3_readToken_69 : decode cX3_readToken 69 = .ok (.aload_n 0, 1) := by decide +kernel
theorem dX3_readToken_70 : decode cX3_readToken 70 = .ok (.getfield 27, 3) := by decide +kernel
theorem dX3_readToken_73 : decode cX3_readToken 73 = .ok (.iaload, 1) := by decide +kernel
theorem dX3_readToken_74 : decode cX3_readToken 74 = .ok (.invokestatic 113, 3) := by decide +kernel
theorem dX3_readToken_77 : decode cX3_readToken 77 = .ok (.ifCond .eq 10, 3) := by decide +kernel
theorem dX3_readToken_80 : decode cX3_readToken 80 = .ok (.aload_n 0, 1) := by decide +kernel
theorem dX3_readToken_81 : decode cX3_readToken 81 = .ok (.invokevirtual 117, 3) := by decide +kernel
theorem dX3_readToken_84 : decode cX3_readToken 84 = .ok (.goto 58, 3) := by decide +kernel
theorem dX3_readToken_87 : decode cX3_readToken 87 = .ok (.aload_n 0, 1) := by decide +kernel
theorem dX3_readToken_88 : decode cX3_readToken 88 = .ok (.getfield 9, 3) := by decide +kernel
theorem dX3_readToken_91 : decode cX3_readToken 91 = .ok (.aload_n 0, 1) := by decide +kernel
theorem dX3_readToken_92 : decode cX3_readToken 92 = .ok (.getfield 27, 3) := by decide +kernel
theorem dX3_readToken_95 : decode cX3_readToken 95 = .ok (.iaload, 1) := by decide +kernel
theorem dX3_readToken_96 : decode cX3_readToken 96 = .ok (.invokestatic 120, 3) := by decide +kernel
theorem dX3_readToken_99 : decode cX3_readToken 99 = .ok (.ifCond .eq 10, 3) := by decide +kernel
theorem dX3_readToken_102 : decode cX3_readToken 102 = .ok (.aload_n 0, 1) := by decide +kernel
theorem dX3_readToken_103 : decode cX3_readToken 103 = .ok (.invokevirtual 123, 3) := by decide +kernel
theorem dX3_readToken_106 : decode cX3_readToken 106 = .ok (.goto 36, 3) := by decide +kernel
theorem dX3_readToken_109 : decode cX3_readToken 109 = .ok (.aload_n 0, 1) := by decide +kernel
theorem dX3_readToken_110 : decode cX3_readToken 110 = .ok (.aload_n 0, 1) := by decide +kernel
theorem dX3_readToken_111 : decode cX3_readToken 111 = .ok (.getfield 9, 3) := by decide +kernel
theorem dX3_readToken_114 : decode cX3_readToken 114 = .ok (.aload_n 0, 1) := by decide +kernel
theorem dX3_readToken_115 : decode cX3_readToken 115 = .ok (.getfield 27, 3) := by decide +kernel
theorem dX3_readToken_118 : decode cX3_readToken 118 = .ok (.iaload, 1) := by decide +kernel
theorem dX3_readToken_119 : decode cX3_readToken 119 = .ok (.bipush 59, 2) := by decide +kernel
theorem dX3_readToken_121 : decode cX3_readToken 121 = .ok (.if_icmp .ne 7, 3) := by decide +kernel
theorem dX3_readToken_124 : decode cX3_readToken 124 = .ok (.iconst 1, 1) := by decide +kernel
theorem dX3_readToken_125 : decode cX3_readToken 125 = .ok (.goto 4, 3) := by decide +kernel
theorem dX3_readToken_128 : decode cX3_readToken 128 = .ok (.iconst 3, 1) := by decide +kernel
theorem dX3_readToken_129 : decode cX3_readToken 129 = .ok (.putfield 43, 3) := by decide +kernel
theorem dX3_readToken_132 : decode cX3_readToken 132 = .ok (.aload_n 0, 1) := by decide +kernel
theorem dX3_readToken_133 : decode cX3_readToken 133 = .ok (.dup, 1) := by decide +kernel
theorem dX3_readToken_134 : decode cX3_readToken 134 = .ok (.getfield 27, 3) := by decide +kernel
theorem dX3_readToken_137 : decode cX3_readToken 137 = .ok (.iconst 1, 1) := by decide +kernel
theorem dX3_readToken_138 : decode cX3_readToken 138 = .ok (.iadd, 1) := by decide +kernel
theorem dX3_readToken_139 : decode cX3_readToken 139 = .ok (.putfield 27, 3) := by decide +kernel
theorem dX3_readToken_142 : decode cX3_readToken 142 = .ok (.return_, 1) := by decide +kernel
theorem dX3_takeWord_0 : decode cX3_takeWord 0 = .ok (.aload_n 0, 1) := by decide +kernel
theorem dX3_takeWord_1 : decode cX3_takeWord 1 = .ok (.getfield 27, 3) := by decide +kernel
theorem dX3_takeWord_4 : decode cX3_takeWord 4 = .ok (.aload_n 0, 1) := by decide +kernel
theorem dX3_takeWord_5 : decode cX3_takeWord 5 = .ok (.getfield 15, 3) := by decide +kernel
theorem dX3_takeWord_8 : decode cX3_takeWord 8 = .ok (.if_icmp .ge 31, 3) := by decide +kernel
theorem dX3_takeWord_11 : decode cX3_takeWord 11 = .ok (.aload_n 0, 1) := by decide +kernel
theorem dX3_takeWord_12 : decode cX3_takeWord 12 = .ok (.getfield 9, 3) := by decide +kernel
theorem dX3_takeWord_15 : decode cX3_takeWord 15 = .ok (.aload_n 0, 1) := by decide +kernel
theorem dX3_takeWord_16 : decode cX3_takeWord 16 = .ok (.getfield 27, 3) := by decide +kernel
theorem dX3_takeWord_19 : decode cX3_takeWord 19 = .ok (.iaload, 1) := by decide +kernel
theorem dX3_takeWord_20 : decode cX3_takeWord 20 = .ok (.invokestatic 113, 3) := by decide +kernel
theorem dX3_takeWord_23 : decode cX3_takeWord 23 = .ok (.ifCond .eq 16, 3) := by decide +kernel
theorem dX3_takeWord_26 : decode cX3_takeWord 26 = .ok (.aload_n 0, 1) := by decide +kernel
theorem dX3_takeWord_27 : decode cX3_takeWord 27 = .ok (.dup, 1) := by decide +kernel
theorem dX3_takeWord_28 : decode cX3_takeWord 28 = .ok (.getfield 27, 3) := by decide +kernel
theorem dX3_takeWord_31 : decode cX3_takeWord 31 = .ok (.iconst 1, 1) := by decide +kernel
theorem dX3_takeWord_32 : decode cX3_takeWord 32 = .ok (.iadd, 1) := by decide +kernel
theorem dX3_takeWord_33 : decode cX3_takeWord 33 = .ok (.putfield 27, 3) := by decide +kernel
theorem dX3_takeWord_36 : decode cX3_takeWord 36 = .ok (.goto (-36), 3) := by decide +kernel
theorem dX3_takeWord_39 : decode cX3_takeWord 39 = .ok (.aload_n 0, 1) := by decide +kernel
theorem dX3_takeWord_40 : decode cX3_takeWord 40 = .ok (.ldc 126, 2) := by decide +kernel
theorem dX3_takeWord_42 : decode cX3_takeWord 42 = .ok (.invokevirtual 128, 3) := by decide +kernel
theorem dX3_takeWord_45 : decode cX3_takeWord 45 = .ok (.ifCond .eq 11, 3) := by decide +kernel
theorem dX3_takeWord_48 : decode cX3_takeWord 48 = .ok (.aload_n 0, 1) := by decide +kernel
theorem dX3_takeWord_49 : decode cX3_takeWord 49 = .ok (.iconst 4, 1) := by decide +kernel
theorem dX3_takeWord_50 : decode cX3_takeWord 50 = .ok (.putfield 43, 3) := by decide +kernel
theorem dX3_takeWord_53 : decode cX3_takeWord 53 = .ok (.goto 93, 3) := by decide +kernel
theorem dX3_takeWord_56 : decode cX3_takeWord 56 = .ok (.aload_n 0, 1) := by decide +kernel
theorem dX3_takeWord_57 : decode cX3_takeWord 57 = .ok (.ldc 132, 2) := by decide +kernel
theorem dX3_takeWord_59 : decode cX3_takeWord 59 = .ok (.invokevirtual 128, 3) := by decide +kernel
theorem dX3_takeWord_62 : decode cX3_takeWord 62 = .ok (.ifCond .eq 11, 3) := by decide +kernel
theorem dX3_takeWord_65 : decode cX3_takeWord 65 = .ok (.aload_n 0, 1) := by decide +kernel
theorem dX3_takeWord_66 : decode cX3_takeWord 66 = .ok (.iconst 5, 1) := by decide +kernel
theorem dX3_takeWord_67 : decode cX3_takeWord 67 = .ok (.putfield 43, 3) := by decide +kernel
theorem dX3_takeWord_70 : decode cX3_takeWord 70 = .ok (.goto 76, 3) := by decide +kernel
theorem dX3_takeWord_73 : decode cX3_takeWord 73 = .ok (.aload_n 0, 1) := by decide +kernel
theorem dX3_takeWord_74 : decode cX3_takeWord 74 = .ok (.ldc 134, 2) := by decide +kernel
theorem dX3_takeWord_76 : decode cX3_takeWord 76 = .ok (.invokevirtual 128, 3) := by decide +kernel
theorem dX3_takeWord_79 : decode cX3_takeWord 79 = .ok (.ifCond .eq 12, 3) := by decide +kernel
theorem dX3_takeWord_82 : decode cX3_takeWord 82 = .ok (.aload_n 0, 1) := by decide +kernel
theorem dX3_takeWord_83 : decode cX3_takeWord 83 = .ok (.bipush 6, 2) := by decide +kernel
theorem dX3_takeWord_85 : decode cX3_takeWord 85 = .ok (.putfield 43, 3) := by decide +kernel
theorem dX3_takeWord_88 : decode cX3_takeWord 88 = .ok (.goto 58, 3) := by decide +kernel
theorem dX3_takeWord_91 : decode cX3_takeWord 91 = .ok (.aload_n 0, 1) := by decide +kernel
theorem dX3_takeWord_92 : decode cX3_takeWord 92 = .ok (.ldc 136, 2) := by decide +kernel
theorem dX3_takeWord_94 : decode cX3_takeWord 94 = .ok (.invokevirtual 128, 3) := by decide +kernel
theorem dX3_takeWord_97 : decode cX3_takeWord 97 = .ok (.ifCond .eq 12, 3) := by decide +kernel
theorem dX3_takeWord_100 : decode cX3_takeWord 100 = .ok (.aload_n 0, 1) := by decide +kernel
theorem dX3_takeWord_101 : decode cX3_takeWord 101 = .ok (.bipush 7, 2) := by decide +kernel
theorem dX3_takeWord_103 : decode cX3_takeWord 103 = .ok (.putfield 43, 3) := by decide +kernel
theorem dX3_takeWord_106 : decode cX3_takeWord 106 = .ok (.goto 40, 3) := by decide +kernel
theorem dX3_takeWord_109 : decode cX3_takeWord 109 = .ok (.aload_n 0, 1) := by decide +kernel
theorem dX3_takeWord_110 : decode cX3_takeWord 110 = .ok (.ldc 138, 2) := by decide +kernel
theorem dX3_takeWord_112 : decode cX3_takeWord 112 = .ok (.invokevirtual 128, 3) := by decide +kernel
theorem dX3_takeWord_115 : decode cX3_takeWord 115 = .ok (.ifCond .eq 12, 3) := by decide +kernel
theorem dX3_takeWord_118 : decode cX3_takeWord 118 = .ok (.aload_n 0, 1) := by decide +kernel
theorem dX3_takeWord_119 : decode cX3_takeWord 119 = .ok (.bipush 8, 2) := by decide +kernel
theorem dX3_takeWord_121 : decode cX3_takeWord 121 = .ok (.putfield 43, 3) := by decide +kernel
theorem dX3_takeWord_124 : decode cX3_takeWord 124 = .ok (.goto 22, 3) := by decide +kernel
theorem dX3_takeWord_127 : decode cX3_takeWord 127 = .ok (.aload_n 0, 1) := by decide +kernel
theorem dX3_takeWord_128 : decode cX3_takeWord 128 = .ok (.aload_n 0, 1) := by decide +kernel
theorem dX3_takeWord_129 : decode cX3_takeWord 129 = .ok (.ldc 140, 2) := by decide +kernel
theorem dX3_takeWord_131 : decode cX3_takeWord 131 = .ok (.invokevirtual 128, 3) := by decide +kernel
theorem dX3_takeWord_134 : decode cX3_takeWord 134 = .ok (.ifCond .eq 8, 3) := by decide +kernel
theorem dX3_takeWord_137 : decode cX3_takeWord 137 = .ok (.bipush 9, 2) := by decide +kernel
theorem dX3_takeWord_139 : decode cX3_takeWord 139 = .ok (.goto 4, 3) := by decide +kernel
theorem dX3_takeWord_142 : decode cX3_takeWord 142 = .ok (.iconst 3, 1) := by decide +kernel
theorem dX3_takeWord_143 : decode cX3_takeWord 143 = .ok (.putfield 43, 3) := by decide +kernel
theorem dX3_takeWord_146 : decode cX3_takeWord 146 = .ok (.return_, 1) := by decide +kernel
theorem dX3_wordIs_0 : decode cX3_wordIs 0 = .ok (.aload_n 0, 1) := by decide +kernel
theorem dX3_wordIs_1 : decode cX3_wordIs 1 = .ok (.getfield 27, 3) := by decide +kernel
theorem dX3_wordIs_4 : decode cX3_wordIs 4 = .ok (.aload_n 0, 1) := by decide +kernel
theorem dX3_wordIs_5 : decode cX3_wordIs 5 = .ok (.getfield 50, 3) := by decide +kernel
theorem dX3_wordIs_8 : decode cX3_wordIs 8 = .ok (.isub, 1) := by decide +kernel
theorem dX3_wordIs_9 : decode cX3_wordIs 9 = .ok (.aload_n 1, 1) := by decide +kernel
theorem dX3_wordIs_10 : decode cX3_wordIs 10 = .ok (.invokevirtual 141, 3) := by decide +kernel
theorem dX3_wordIs_13 : decode cX3_wordIs 13 = .ok (.if_icmp .eq 5, 3) := by decide +kernel
theorem dX3_wordIs_16 : decode cX3_wordIs 16 = .ok (.iconst 0, 1) := by decide +kernel
theorem dX3_wordIs_17 : decode cX3_wordIs 17 = .ok (.ireturn, 1) := by decide +kernel
theorem dX3_wordIs_18 : decode cX3_wordIs 18 = .ok (.iconst 0, 1) := by decide +kernel
theorem dX3_wordIs_19 : decode cX3_wordIs 19 = .ok (.istore_n 2, 1) := by decide +kernel
theorem dX3_wordIs_20 : decode cX3_wordIs 20 = .ok (.iload_n 2, 1) := by decide +kernel
theorem dX3_wordIs_21 : decode cX3_wordIs 21 = .ok (.aload_n 1, 1) := by decide +kernel
theorem dX3_wordIs_22 : decode cX3_wordIs 22 = .ok (.invokevirtual 141, 3) := by decide +kernel
theorem dX3_wordIs_25 : decode cX3_wordIs 25 = .ok (.if_icmp .ge 30, 3) := by decide +kernel
theorem dX3_wordIs_28 : decode cX3_wordIs 28 = .ok (.aload_n 0, 1) := by decide +kernel
theorem dX3_wordIs_29 : decode cX3_wordIs 29 = .ok (.getfield 9, 3) := by decide +kernel
theorem dX3_wordIs_32 : decode cX3_wordIs 32 = .ok (.aload_n 0, 1) := by decide +kernel
theorem dX3_wordIs_33 : decode cX3_wordIs 33 = .ok (.getfield 50, 3) := by decide +kernel
theorem dX3_wordIs_36 : decode cX3_wordIs 36 = .ok (.iload_n 2, 1) := by decide +kernel
theorem dX3_wordIs_37 : decode cX3_wordIs 37 = .ok (.iadd, 1) := by decide +kernel
theorem dX3_wordIs_38 : decode cX3_wordIs 38 = .ok (.iaload, 1) := by decide +kernel
theorem dX3_wordIs_39 : decode cX3_wordIs 39 = .ok (.aload_n 1, 1) := by decide +kernel
theorem dX3_wordIs_40 : decode cX3_wordIs 40 = .ok (.iload_n 2, 1) := by decide +kernel
theorem dX3_wordIs_41 : decode cX3_wordIs 41 = .ok (.invokevirtual 146, 3) := by decide +kernel
theorem dX3_wordIs_44 : decode cX3_wordIs 44 = .ok (.if_icmp .eq 5, 3) := by decide +kernel
theorem dX3_wordIs_47 : decode cX3_wordIs 47 = .ok (.iconst 0, 1) := by decide +kernel
theorem dX3_wordIs_48 : decode cX3_wordIs 48 = .ok (.ireturn, 1) := by decide +kernel
theorem dX3_wordIs_49 : decode cX3_wordIs 49 = .ok (.iinc 2 1, 3) := by decide +kernel
theorem dX3_wordIs_52 : decode cX3_wordIs 52 = .ok (.goto (-32), 3) := by decide +kernel
theorem dX3_wordIs_55 : decode cX3_wordIs 55 = .ok (.iconst 1, 1) := by decide +kernel
theorem dX3_wordIs_56 : decode cX3_wordIs 56 = .ok (.ireturn, 1) := by decide +kernel
theorem dX3_takeNumber_0 : decode cX3_takeNumber 0 = .ok (.aload_n 0, 1) := by decide +kernel
theorem dX3_takeNumber_1 : decode cX3_takeNumber 1 = .ok (.iconst 0, 1) := by decide +kernel
theorem dX3_takeNumber_2 : decode cX3_takeNumber 2 = .ok (.putfield 79, 3) := by decide +kernel
theorem dX3_takeNumber_5 : decode cX3_takeNumber 5 = .ok (.aload_n 0, 1) := by decide +kernel
theorem dX3_takeNumber_6 : decode cX3_takeNumber 6 = .ok (.getfield 27, 3) := by decide +kernel
theorem dX3_takeNumber_9 : decode cX3_takeNumber 9 = .ok (.aload_n 0, 1) := by decide +kernel
theorem dX3_takeNumber_10 : decode cX3_takeNumber 10 = .ok (.getfield 15, 3) := by decide +kernel
theorem dX3_takeNumber_13 : decode cX3_takeNumber 13 = .ok (.if_icmp .ge 60, 3) := by decide +kernel
theorem dX3_takeNumber_16 : decode cX3_takeNumber 16 = .ok (.aload_n 0, 1) := by decide +kernel
theorem dX3_takeNumber_17 : decode cX3_takeNumber 17 = .ok (.getfield 9, 3) := by decide +kernel
theorem dX3_takeNumber_20 : decode cX3_takeNumber 20 = .ok (.aload_n 0, 1) := by decide +kernel
theorem dX3_takeNumber_21 : decode cX3_takeNumber 21 = .ok (.getfield 27, 3) := by decide +kernel
theorem dX3_takeNumber_24 : decode cX3_takeNumber 24 = .ok (.iaload, 1) := by decide +kernel
theorem dX3_takeNumber_25 : decode cX3_takeNumber 25 = .ok (.invokestatic 120, 3) := by decide +kernel
theorem dX3_takeNumber_28 : decode cX3_takeNumber 28 = .ok (.ifCond .eq 45, 3) := by decide +kernel
theorem dX3_takeNumber_31 : decode cX3_takeNumber 31 = .ok (.aload_n 0, 1) := by decide +kernel
theorem dX3_takeNumber_32 : decode cX3_takeNumber 32 = .ok (.aload_n 0, 1) := by decide +kernel
theorem dX3_takeNumber_33 : decode cX3_takeNumber 33 = .ok (.getfield 79, 3) := by decide +kernel
theorem dX3_takeNumber_36 : decode cX3_takeNumber 36 = .ok (.bipush 10, 2) := by decide +kernel
theorem dX3_takeNumber_38 : decode cX3_takeNumber 38 = .ok (.imul, 1) := by decide +kernel
theorem dX3_takeNumber_39 : decode cX3_takeNumber 39 = .ok (.aload_n 0, 1) := by decide +kernel
theorem dX3_takeNumber_40 : decode cX3_takeNumber 40 = .ok (.getfield 9, 3) := by decide +kernel
theorem dX3_takeNumber_43 : decode cX3_takeNumber 43 = .ok (.aload_n 0, 1) := by decide +kernel
theorem dX3_takeNumber_44 : decode cX3_takeNumber 44 = .ok (.getfield 27, 3) := by decide +kernel
theorem dX3_takeNumber_47 : decode cX3_takeNumber 47 = .ok (.iaload, 1) := by decide +kernel
theorem dX3_takeNumber_48 : decode cX3_takeNumber 48 = .ok (.iadd, 1) := by decide +kernel
theorem dX3_takeNumber_49 : decode cX3_takeNumber 49 = .ok (.bipush 48, 2) := by decide +kernel
theorem dX3_takeNumber_51 : decode cX3_takeNumber 51 = .ok (.isub, 1) := by decide +kernel
theorem dX3_takeNumber_52 : decode cX3_takeNumber 52 = .ok (.bipush 100, 2) := by decide +kernel
theorem dX3_takeNumber_54 : decode cX3_takeNumber 54 = .ok (.invokestatic 150, 3) := by decide +kernel
theorem dX3_takeNumber_57 : decode cX3_takeNumber 57 = .ok (.putfield 79, 3) := by decide +kernel
theorem dX3_takeNumber_60 : decode cX3_takeNumber 60 = .ok (.aload_n 0, 1) := by decide +kernel
theorem dX3_takeNumber_61 : decode cX3_takeNumber 61 = .ok (.dup, 1) := by decide +kernel
theorem dX3_takeNumber_62 : decode cX3_takeNumber 62 = .ok (.getfield 27, 3) := by decide +kernel
theorem dX3_takeNumber_65 : decode cX3_takeNumber 65 = .ok (.iconst 1, 1) := by decide +kernel
theorem dX3_takeNumber_66 : decode cX3_takeNumber 66 = .ok (.iadd, 1) := by decide +kernel
theorem dX3_takeNumber_67 : decode cX3_takeNumber 67 = .ok (.putfield 27, 3) := by decide +kernel
theorem dX3_takeNumber_70 : decode cX3_takeNumber 70 = .ok (.goto (-65), 3) := by decide +kernel
theorem dX3_takeNumber_73 : decode cX3_takeNumber 73 = .ok (.aload_n 0, 1) := by decide +kernel
theorem dX3_takeNumber_74 : decode cX3_takeNumber 74 = .ok (.getfield 9, 3) := by decide +kernel
theorem dX3_takeNumber_77 : decode cX3_takeNumber 77 = .ok (.aload_n 0, 1) := by decide +kernel
theorem dX3_takeNumber_78 : decode cX3_takeNumber 78 = .ok (.getfield 50, 3) := by decide +kernel
theorem dX3_takeNumber_81 : decode cX3_takeNumber 81 = .ok (.iaload, 1) := by decide +kernel
theorem dX3_takeNumber_82 : decode cX3_takeNumber 82 = .ok (.bipush 48, 2) := by decide +kernel
theorem dX3_takeNumber_84 : decode cX3_takeNumber 84 = .ok (.if_icmp .ne 20, 3) := by decide +kernel
theorem dX3_takeNumber_87 : decode cX3_takeNumber 87 = .ok (.aload_n 0, 1) := by decide +kernel
theorem dX3_takeNumber_88 : decode cX3_takeNumber 88 = .ok (.getfield 27, 3) := by decide +kernel
theorem dX3_takeNumber_91 : decode cX3_takeNumber 91 = .ok (.aload_n 0, 1) := by decide +kernel
theorem dX3_takeNumber_92 : decode cX3_takeNumber 92 = .ok (.getfield 50, 3) := by decide +kernel
theorem dX3_takeNumber_95 : decode cX3_takeNumber 95 = .ok (.isub, 1) := by decide +kernel
theorem dX3_takeNumber_96 : decode cX3_takeNumber 96 = .ok (.iconst 1, 1) := by decide +kernel
theorem dX3_takeNumber_97 : decode cX3_takeNumber 97 = .ok (.if_icmp .le 7, 3) := by decide +kernel
theorem dX3_takeNumber_100 : decode cX3_takeNumber 100 = .ok (.iconst 1, 1) := by decide +kernel
theorem dX3_takeNumber_101 : decode cX3_takeNumber 101 = .ok (.goto 4, 3) := by decide +kernel
theorem dX3_takeNumber_104 : decode cX3_takeNumber 104 = .ok (.iconst 0, 1) := by decide +kernel
theorem dX3_takeNumber_105 : decode cX3_takeNumber 105 = .ok (.istore_n 1, 1) := by decide +kernel
theorem dX3_takeNumber_106 : decode cX3_takeNumber 106 = .ok (.aload_n 0, 1) := by decide +kernel
theorem dX3_takeNumber_107 : decode cX3_takeNumber 107 = .ok (.iload_n 1, 1) := by decide +kernel
theorem dX3_takeNumber_108 : decode cX3_takeNumber 108 = .ok (.ifCond .ne 12, 3) := by decide +kernel
theorem dX3_takeNumber_111 : decode cX3_takeNumber 111 = .ok (.aload_n 0, 1) := by decide +kernel
theorem dX3_takeNumber_112 : decode cX3_takeNumber 112 = .ok (.getfield 79, 3) := by decide +kernel
theorem dX3_takeNumber_115 : decode cX3_takeNumber 115 = .ok (.bipush 99, 2) := by decide +kernel
theorem dX3_takeNumber_117 : decode cX3_takeNumber 117 = .ok (.if_icmp .le 7, 3) := by decide +kernel
theorem dX3_takeNumber_120 : decode cX3_takeNumber 120 = .ok (.iconst 3, 1) := by decide +kernel
theorem dX3_takeNumber_121 : decode cX3_takeNumber 121 = .ok (.goto 4, 3) := by decide +kernel
theorem dX3_takeNumber_124 : decode cX3_takeNumber 124 = .ok (.iconst 2, 1) := by decide +kernel
theorem dX3_takeNumber_125 : decode cX3_takeNumber 125 = .ok (.putfield 43, 3) := by decide +kernel
theorem dX3_takeNumber_128 : decode cX3_takeNumber 128 = .ok (.return_, 1) := by decide +kernel
theorem dX3_isLetter_0 : decode cX3_isLetter 0 = .ok (.iload_n 0, 1) := by decide +kernel
theorem dX3_isLetter_1 : decode cX3_isLetter 1 = .ok (.bipush 97, 2) := by decide +kernel
theorem dX3_isLetter_3 : decode cX3_isLetter 3 = .ok (.if_icmp .lt 13, 3) := by decide +kernel
theorem dX3_isLetter_6 : decode cX3_isLetter 6 = .ok (.iload_n 0, 1) := by decide +kernel
theorem dX3_isLetter_7 : decode cX3_isLetter 7 = .ok (.bipush 122, 2) := by decide +kernel
theorem dX3_isLetter_9 : decode cX3_isLetter 9 = .ok (.if_icmp .gt 7, 3) := by decide +kernel
theorem dX3_isLetter_12 : decode cX3_isLetter 12 = .ok (.iconst 1, 1) := by decide +kernel
theorem dX3_isLetter_13 : decode cX3_isLetter 13 = .ok (.goto 4, 3) := by decide +kernel
theorem dX3_isLetter_16 : decode cX3_isLetter 16 = .ok (.iconst 0, 1) := by decide +kernel
theorem dX3_isLetter_17 : decode cX3_isLetter 17 = .ok (.ireturn, 1) := by decide +kernel
theorem dX3_isDigit_0 : decode cX3_isDigit 0 = .ok (.iload_n 0, 1) := by decide +kernel
theorem dX3_isDigit_1 : decode cX3_isDigit 1 = .ok (.bipush 48, 2) := by decide +kernel
theorem dX3_isDigit_3 : decode cX3_isDigit 3 = .ok (.if_icmp .lt 13, 3) := by decide +kernel
theorem dX3_isDigit_6 : decode cX3_isDigit 6 = .ok (.iload_n 0, 1) := by decide +kernel
theorem dX3_isDigit_7 : decode cX3_isDigit 7 = .ok (.bipush 57, 2) := by decide +kernel
theorem dX3_isDigit_9 : decode cX3_isDigit 9 = .ok (.if_icmp .gt 7, 3) := by decide +kernel
theorem dX3_isDigit_12 : decode cX3_isDigit 12 = .ok (.iconst 1, 1) := by decide +kernel
theorem dX3_isDigit_13 : decode cX3_isDigit 13 = .ok (.goto 4, 3) := by decide +kernel
theorem dX3_isDigit_16 : decode cX3_isDigit 16 = .ok (.iconst 0, 1) := by decide +kernel
theorem dX3_isDigit_17 : decode cX3_isDigit 17 = .ok (.ireturn, 1) := by decide +kernel
theorem dX4_init_0 : decode cX4_init 0 = .ok (.aload_n 0, 1) := by decide +kernel
theorem dX4_init_1 : decode cX4_init 1 = .ok (.invokespecial 3, 3) := by decide +kernel
theorem dX4_init_4 : decode cX4_init 4 = .ok (.aload_n 0, 1) := by decide +kernel
theorem dX4_init_5 : decode cX4_init 5 = .ok (.new 9, 3) := by decide +kernel
theorem dX4_init_8 : decode cX4_init 8 = .ok (.dup, 1) := by decide +kernel
theorem dX4_init_9 : decode cX4_init 9 = .ok (.invokespecial 11, 3) := by decide +kernel
theorem dX4_init_12 : decode cX4_init 12 = .ok (.putfield 12, 3) := by decide +kernel
theorem dX4_init_15 : decode cX4_init 15 = .ok (.aload_n 0, 1) := by decide +kernel
theorem dX4_init_16 : decode cX4_init 16 = .ok (.new 16, 3) := by decide +kernel
theorem dX4_init_19 : decode cX4_init 19 = .ok (.dup, 1) := by decide +kernel
theorem dX4_init_20 : decode cX4_init 20 = .ok (.invokespecial 18, 3) := by decide +kernel
theorem dX4_init_23 : decode cX4_init 23 = .ok (.putfield 19, 3) := by decide +kernel
theorem dX4_init_26 : decode cX4_init 26 = .ok (.aload_n 0, 1) := by decide +kernel
theorem dX4_init_27 : decode cX4_init 27 = .ok (.new 16, 3) := by decide +kernel
theorem dX4_init_30 : decode cX4_init 30 = .ok (.dup, 1) := by decide +kernel
theorem dX4_init_31 : decode cX4_init 31 = .ok (.invokespecial 18, 3) := by decide +kernel
theorem dX4_init_34 : decode cX4_init 34 = .ok (.putfield 23, 3) := by decide +kernel
theorem dX4_init_37 : decode cX4_init 37 = .ok (.aload_n 0, 1) := by decide +kernel
theorem dX4_init_38 : decode cX4_init 38 = .ok (.new 16, 3) := by decide +kernel
theorem dX4_init_41 : decode cX4_init 41 = .ok (.dup, 1) := by decide +kernel
theorem dX4_init_42 : decode cX4_init 42 = .ok (.invokespecial 18, 3) := by decide +kernel
theorem dX4_init_45 : decode cX4_init 45 = .ok (.putfield 26, 3) := by decide +kernel
theorem dX4_init_48 : decode cX4_init 48 = .ok (.aload_n 0, 1) := by decide +kernel
theorem dX4_init_49 : decode cX4_init 49 = .ok (.iconst 2, 1) := by decide +kernel
theorem dX4_init_50 : decode cX4_init 50 = .ok (.newarray .boolean, 2) := by decide +kernel
theorem dX4_init_52 : decode cX4_init 52 = .ok (.putfield 29, 3) := by decide +kernel
theorem dX4_init_55 : decode cX4_init 55 = .ok (.aload_n 0, 1) := by decide +kernel
theorem dX4_init_56 : decode cX4_init 56 = .ok (.new 33, 3) := by decide +kernel
theorem dX4_init_59 : decode cX4_init 59 = .ok (.dup, 1) := by decide +kernel
theorem dX4_init_60 : decode cX4_init 60 = .ok (.invokespecial 35, 3) := by decide +kernel
theorem dX4_init_63 : decode cX4_init 63 = .ok (.putfield 36, 3) := by decide +kernel
theorem dX4_init_66 : decode cX4_init 66 = .ok (.aload_n 0, 1) := by decide +kernel
theorem dX4_init_67 : decode cX4_init 67 = .ok (.new 33, 3) := by decide +kernel
theorem dX4_init_70 : decode cX4_init 70 = .ok (.dup, 1) := by decide +kernel
theorem dX4_init_71 : decode cX4_init 71 = .ok (.invokespecial 35, 3) := by decide +kernel
theorem dX4_init_74 : decode cX4_init 74 = .ok (.putfield 40, 3) := by decide +kernel
theorem dX4_init_77 : decode cX4_init 77 = .ok (.aload_n 0, 1) := by decide +kernel
theorem dX4_init_78 : decode cX4_init 78 = .ok (.new 43, 3) := by decide +kernel
theorem dX4_init_81 : decode cX4_init 81 = .ok (.dup, 1) := by decide +kernel
theorem dX4_init_82 : decode cX4_init 82 = .ok (.aload_n 0, 1) := by decide +kernel
theorem dX4_init_83 : decode cX4_init 83 = .ok (.getfield 36, 3) := by decide +kernel
theorem dX4_init_86 : decode cX4_init 86 = .ok (.invokespecial 45, 3) := by decide +kernel
theorem dX4_init_89 : decode cX4_init 89 = .ok (.putfield 48, 3) := by decide +kernel
theorem dX4_init_92 : decode cX4_init 92 = .ok (.aload_n 0, 1) := by decide +kernel
theorem dX4_init_93 : decode cX4_init 93 = .ok (.lconst 0, 1) := by decide +kernel
theorem dX4_init_94 : decode cX4_init 94 = .ok (.putfield 52, 3) := by decide +kernel
theorem dX4_init_97 : decode cX4_init 97 = .ok (.return_, 1) := by decide +kernel
theorem dX4_type_0 : decode cX4_type 0 = .ok (.iload_n 3, 1) := by decide +kernel
theorem dX4_type_1 : decode cX4_type 1 = .ok (.iconst 1, 1) := by decide +kernel
theorem dX4_type_2 : decode cX4_type 2 = .ok (.if_icmp .lt 9, 3) := by decide +kernel
theorem dX4_type_5 : decode cX4_type 5 = .ok (.iload_n 3, 1) := by decide +kernel
theorem dX4_type_6 : decode cX4_type 6 = .ok (.bipush 8, 2) := by decide +kernel
theorem dX4_type_8 : decode cX4_type 8 = .ok (.if_icmp .le 5, 3) := by decide +kernel
theorem dX4_type_11 : decode cX4_type 11 = .ok (.iconst (-1), 1) := by decide +kernel
theorem dX4_type_12 : decode cX4_type 12 = .ok (.ireturn, 1) := by decide +kernel
theorem dX4_type_13 : decode cX4_type 13 = .ok (.aload_n 0, 1) := by decide +kernel
theorem dX4_type_14 : decode cX4_type 14 = .ok (.getfield 12, 3) := by decide +kernel
theorem dX4_type_17 : decode cX4_type 17 = .ok (.getfield 56, 3) := by decide +kernel
theorem dX4_type_20 : decode cX4_type 20 = .ok (.iload_n 3, 1) := by decide +kernel
theorem dX4_type_21 : decode cX4_type 21 = .ok (.iadd, 1) := by decide +kernel
theorem dX4_type_22 : decode cX4_type 22 = .ok (.sipush 300, 3) := by decide +kernel
theorem dX4_type_25 : decode cX4_type 25 = .ok (.if_icmp .le 6, 3) := by decide +kernel
theorem dX4_type_28 : decode cX4_type 28 = .ok (.bipush (-3), 2) := by decide +kernel
theorem dX4_type_30 : decode cX4_type 30 = .ok (.ireturn, 1) := by decide +kernel
theorem dX4_type_31 : decode cX4_type 31 = .ok (.iload_n 3, 1) := by decide +kernel
theorem dX4_type_32 : decode cX4_type 32 = .ok (.iconst 1, 1) := by decide +kernel
theorem dX4_type_33 : decode cX4_type 33 = .ok (.isub, 1) := by decide +kernel
theorem dX4_type_34 : decode cX4_type 34 = .ok (.istore 4, 2) := by decide +kernel
theorem dX4_type_36 : decode cX4_type 36 = .ok (.iload 4, 2) := by decide +kernel
theorem dX4_type_38 : decode cX4_type 38 = .ok (.ifCond .lt 28, 3) := by decide +kernel
theorem dX4_type_41 : decode cX4_type 41 = .ok (.aload_n 0, 1) := by decide +kernel
theorem dX4_type_42 : decode cX4_type 42 = .ok (.getfield 12, 3) := by decide +kernel
theorem dX4_type_45 : decode cX4_type 45 = .ok (.lload_n 1, 1) := by decide +kernel
theorem dX4_type_46 : decode cX4_type 46 = .ok (.bipush 8, 2) := by decide +kernel
theorem dX4_type_48 : decode cX4_type 48 = .ok (.iload 4, 2) := by decide +kernel
theorem dX4_type_50 : decode cX4_type 50 = .ok (.imul, 1) := by decide +kernel
theorem dX4_type_51 : decode cX4_type 51 = .ok (.lushr, 1) := by decide +kernel
theorem dX4_type_52 : decode cX4_type 52 = .ok (.ldc2_w 60, 3) := by decide +kernel
theorem dX4_type_55 : decode cX4_type 55 = .ok (.land, 1) := by decide +kernel
theorem dX4_type_56 : decode cX4_type 56 = .ok (.l2i, 1) := by decide +kernel
theorem dX4_type_57 : decode cX4_type 57 = .ok (.invokevirtual 62, 3) := by decide +kernel
theorem dX4_type_60 : decode cX4_type 60 = .ok (.iinc 4 (-1), 3) := by decide +kernel
theorem dX4_type_63 : decode cX4_type 63 = .ok (.goto (-27), 3) := by decide +kernel
theorem dX4_type_66 : decode cX4_type 66 = .ok (.aload_n 0, 1) := by decide +kernel
theorem dX4_type_67 : decode cX4_type 67 = .ok (.getfield 12, 3) := by decide +kernel
theorem dX4_type_70 : decode cX4_type 70 = .ok (.getfield 56, 3) := by decide +kernel
theorem dX4_type_73 : decode cX4_type 73 = .ok (.ireturn, 1) := by decide +kernel
theorem dX4_clear_0 : decode cX4_clear 0 = .ok (.aload_n 0, 1) := by decide +kernel
theorem dX4_clear_1 : decode cX4_clear 1 = .ok (.getfield 12, 3) := by decide +kernel
theorem dX4_clear_4 : decode cX4_clear 4 = .ok (.getfield 56, 3) := by decide +kernel
theorem dX4_clear_7 : decode cX4_clear 7 = .ok (.istore_n 1, 1) := by decide +kernel
theorem dX4_clear_8 : decode cX4_clear 8 = .ok (.aload_n 0, 1) := by decide +kernel
theorem dX4_clear_9 : decode cX4_clear 9 = .ok (.getfield 12, 3) := by decide +kernel
theorem dX4_clear_12 : decode cX4_clear 12 = .ok (.iconst 0, 1) := by decide +kernel
theorem dX4_clear_13 : decode cX4_clear 13 = .ok (.putfield 56, 3) := by decide +kernel
theorem dX4_clear_16 : decode cX4_clear 16 = .ok (.iload_n 1, 1) := by decide +kernel
theorem dX4_clear_17 : decode cX4_clear 17 = .ok (.ireturn, 1) := by decide +kernel
theorem dX4_hall_0 : decode cX4_hall 0 = .ok (.aload_n 0, 1) := by decide +kernel
theorem dX4_hall_1 : decode cX4_hall 1 = .ok (.getfield 12, 3) := by decide +kernel
theorem dX4_hall_4 : decode cX4_hall 4 = .ok (.aload_n 0, 1) := by decide +kernel
theorem dX4_hall_5 : decode cX4_hall 5 = .ok (.getfield 40, 3) := by decide +kernel
theorem dX4_hall_8 : decode cX4_hall 8 = .ok (.invokevirtual 66, 3) := by decide +kernel
theorem dX4_hall_11 : decode cX4_hall 11 = .ok (.istore_n 1, 1) := by decide +kernel
theorem dX4_hall_12 : decode cX4_hall 12 = .ok (.iload_n 1, 1) := by decide +kernel
theorem dX4_hall_13 : decode cX4_hall 13 = .ok (.ifCond .lt 15, 3) := by decide +kernel
theorem dX4_hall_16 : decode cX4_hall 16 = .ok (.aload_n 0, 1) := by decide +kernel
theorem dX4_hall_17 : decode cX4_hall 17 = .ok (.getfield 12, 3) := by decide +kernel
theorem dX4_hall_20 : decode cX4_hall 20 = .ok (.iconst 0, 1) := by decide +kernel
theorem dX4_hall_21 : decode cX4_hall 21 = .ok (.putfield 56, 3) := by decide +kernel
theorem dX4_hall_24 : decode cX4_hall 24 = .ok (.aload_n 0, 1) := by decide +kernel
theorem dX4_hall_25 : decode cX4_hall 25 = .ok (.invokevirtual 70, 3) := by decide +kernel
theorem dX4_hall_28 : decode cX4_hall 28 = .ok (.iload_n 1, 1) := by decide +kernel
theorem dX4_hall_29 : decode cX4_hall 29 = .ok (.ireturn, 1) := by decide +kernel
theorem dX4_beginAnew_0 : decode cX4_beginAnew 0 = .ok (.aload_n 0, 1) := by decide +kernel
theorem dX4_beginAnew_1 : decode cX4_beginAnew 1 = .ok (.getfield 36, 3) := by decide +kernel
theorem dX4_beginAnew_4 : decode cX4_beginAnew 4 = .ok (.astore_n 1, 1) := by decide +kernel
theorem dX4_beginAnew_5 : decode cX4_beginAnew 5 = .ok (.aload_n 0, 1) := by decide +kernel
theorem dX4_beginAnew_6 : decode cX4_beginAnew 6 = .ok (.aload_n 0, 1) := by decide +kernel
theorem dX4_beginAnew_7 : decode cX4_beginAnew 7 = .ok (.getfield 40, 3) := by decide +kernel
theorem dX4_beginAnew_10 : decode cX4_beginAnew 10 = .ok (.putfield 36, 3) := by decide +kernel
theorem dX4_beginAnew_13 : decode cX4_beginAnew 13 = .ok (.aload_n 0, 1) := by decide +kernel
theorem dX4_beginAnew_14 : decode cX4_beginAnew 14 = .ok (.aload_n 1, 1) := by decide +kernel
theorem dX4_beginAnew_15 : decode cX4_beginAnew 15 = .ok (.putfield 40, 3) := by decide +kernel
theorem dX4_beginAnew_18 : decode cX4_beginAnew 18 = .ok (.aload_n 0, 1) := by decide +kernel
theorem dX4_beginAnew_19 : decode cX4_beginAnew 19 = .ok (.getfield 36, 3) := by decide +kernel
theorem dX4_beginAnew_22 : decode cX4_beginAnew 22 = .ok (.invokevirtual 73, 3) := by decide +kernel
theorem dX4_beginAnew_25 : decode cX4_beginAnew 25 = .ok (.aload_n 0, 1) := by decide +kernel
theorem dX4_beginAnew_26 : decode cX4_beginAnew 26 = .ok (.getfield 48, 3) := by decide +kernel
theorem dX4_beginAnew_29 : decode cX4_beginAnew 29 = .ok (.aload_n 0, 1) := by decide +kernel
theorem dX4_beginAnew_30 : decode cX4_beginAnew 30 = .ok (.getfield 36, 3) := by decide +kernel
theorem dX4_beginAnew_33 : decode cX4_beginAnew 33 = .ok (.invokevirtual 76, 3) := by decide +kernel
theorem dX4_beginAnew_36 : decode cX4_beginAnew 36 = .ok (.aload_n 0, 1) := by decide +kernel
theorem dX4_beginAnew_37 : decode cX4_beginAnew 37 = .ok (.getfield 19, 3) := by decide +kernel
theorem dX4_beginAnew_40 : decode cX4_beginAnew 40 = .ok (.invokevirtual 79, 3) := by decide +kernel
theorem dX4_beginAnew_43 : decode cX4_beginAnew 43 = .ok (.iconst 0, 1) := by decide +kernel
theorem dX4_beginAnew_44 : decode cX4_beginAnew 44 = .ok (.istore_n 2, 1) := by decide +kernel
theorem dX4_beginAnew_45 : decode cX4_beginAnew 45 = .ok (.iload_n 2, 1) := by decide +kernel
theorem dX4_beginAnew_46 : decode cX4_beginAnew 46 = .ok (.iconst 2, 1) := by decide +kernel
theorem dX4_beginAnew_47 : decode cX4_beginAnew 47 = .ok (.if_icmp .ge 16, 3) := by decide +kernel
theorem dX4_beginAnew_50 : decode cX4_beginAnew 50 = .ok (.aload_n 0, 1) := by decide +kernel
theorem dX4_beginAnew_51 : decode cX4_beginAnew 51 = .ok (.getfield 29, 3) := by decide +kernel
theorem dX4_beginAnew_54 : decode cX4_beginAnew 54 = .ok (.iload_n 2, 1) := by decide +kernel
theorem dX4_beginAnew_55 : decode cX4_beginAnew 55 = .ok (.iconst 0, 1) := by decide +kernel
theorem dX4_beginAnew_56 : decode cX4_beginAnew 56 = .ok (.bastore, 1) := by decide +kernel
theorem dX4_beginAnew_57 : decode cX4_beginAnew 57 = .ok (.iinc 2 1, 3) := by decide +kernel
theorem dX4_beginAnew_60 : decode cX4_beginAnew 60 = .ok (.goto (-15), 3) := by decide +kernel
theorem dX4_beginAnew_63 : decode cX4_beginAnew 63 = .ok (.return_, 1) := by decide +kernel
theorem dX4_cell_0 : decode cX4_cell 0 = .ok (.aload_n 0, 1) := by decide +kernel
theorem dX4_cell_1 : decode cX4_cell 1 = .ok (.iload_n 1, 1) := by decide +kernel
theorem dX4_cell_2 : decode cX4_cell 2 = .ok (.invokevirtual 82, 3) := by decide +kernel
theorem dX4_cell_5 : decode cX4_cell 5 = .ok (.ifCond .ne 5, 3) := by decide +kernel
theorem dX4_cell_8 : decode cX4_cell 8 = .ok (.iconst (-1), 1) := by decide +kernel
theorem dX4_cell_9 : decode cX4_cell 9 = .ok (.ireturn, 1) := by decide +kernel
theorem dX4_cell_10 : decode cX4_cell 10 = .ok (.iload_n 2, 1) := by decide +kernel
theorem dX4_cell_11 : decode cX4_cell 11 = .ok (.tableswitch 66 0 2 #[25, 37, 49], 25) := by decide +kernel
theorem dX4_cell_36 : decode cX4_cell 36 = .ok (.aload_n 0, 1) := by decide +kernel
theorem dX4_cell_37 : decode cX4_cell 37 = .ok (.getfield 36, 3) := by decide +kernel
theorem dX4_cell_40 : decode cX4_cell 40 = .ok (.getfield 86, 3) := by decide +kernel
theorem dX4_cell_43 : decode cX4_cell 43 = .ok (.iload_n 1, 1) := by decide +kernel
theorem dX4_cell_44 : decode cX4_cell 44 = .ok (.invokestatic 89, 3) := by decide +kernel
theorem dX4_cell_47 : decode cX4_cell 47 = .ok (.ireturn, 1) := by decide +kernel
theorem dX4_cell_48 : decode cX4_cell 48 = .ok (.aload_n 0, 1) := by decide +kernel
theorem dX4_cell_49 : decode cX4_cell 49 = .ok (.getfield 36, 3) := by decide +kernel
theorem dX4_cell_52 : decode cX4_cell 52 = .ok (.getfield 93, 3) := by decide +kernel
theorem dX4_cell_55 : decode cX4_cell 55 = .ok (.iload_n 1, 1) := by decide +kernel
theorem dX4_cell_56 : decode cX4_cell 56 = .ok (.invokestatic 89, 3) := by decide +kernel
theorem dX4_cell_59 : decode cX4_cell 59 = .ok (.ireturn, 1) := by decide +kernel
theorem dX4_cell_60 : decode cX4_cell 60 = .ok (.aload_n 0, 1) := by decide +kernel
theorem dX4_cell_61 : decode cX4_cell 61 = .ok (.getfield 36, 3) := by decide +kernel
theorem dX4_cell_64 : decode cX4_cell 64 = .ok (.getfield 96, 3) := by decide +kernel
theorem dX4_cell_67 : decode cX4_cell 67 = .ok (.aload_n 0, 1) := by decide +kernel
theorem dX4_cell_68 : decode cX4_cell 68 = .ok (.invokevirtual 100, 3) := by decide +kernel
theorem dX4_cell_71 : decode cX4_cell 71 = .ok (.iaload, 1) := by decide +kernel
theorem dX4_cell_72 : decode cX4_cell 72 = .ok (.iload_n 1, 1) := by decide +kernel

theorem dX0_init_0 : decode cX0_init 0 = .ok (.aload_n 0, 1) := by decide +kernel
theorem dX0_init_1 : decode cX0_init 1 = .ok (.invokespecial 3, 3) := by decide +kernel
theorem dX0_init_4 : decode cX0_init 4 = .ok (.aload_n 0, 1) := by decide +kernel
theorem dX0_init_5 : decode cX0_init 5 = .ok (.iconst 4, 1) := by decide +kernel
theorem dX0_init_6 : decode cX0_init 6 = .ok (.anewarray 9, 3) := by decide +kernel
theorem dX0_init_9 : decode cX0_init 9 = .ok (.putfield 11, 3) := by decide +kernel
theorem dX0_init_12 : decode cX0_init 12 = .ok (.aload_n 0, 1) := by decide +kernel
theorem dX0_init_13 : decode cX0_init 13 = .ok (.iconst 0, 1) := by decide +kernel
theorem dX0_init_14 : decode cX0_init 14 = .ok (.putfield 17, 3) := by decide +kernel
theorem dX0_init_17 : decode cX0_init 17 = .ok (.aload_n 0, 1) := by decide +kernel
theorem dX0_init_18 : decode cX0_init 18 = .ok (.iconst 0, 1) := by decide +kernel
theorem dX0_init_19 : decode cX0_init 19 = .ok (.putfield 21, 3) := by decide +kernel
theorem dX0_init_22 : decode cX0_init 22 = .ok (.iconst 0, 1) := by decide +kernel
theorem dX0_init_23 : decode cX0_init 23 = .ok (.istore_n 1, 1) := by decide +kernel
theorem dX0_init_24 : decode cX0_init 24 = .ok (.iload_n 1, 1) := by decide +kernel
theorem dX0_init_25 : decode cX0_init 25 = .ok (.iconst 4, 1) := by decide +kernel
theorem dX0_init_26 : decode cX0_init 26 = .ok (.if_icmp .ge 22, 3) := by decide +kernel
theorem dX0_init_29 : decode cX0_init 29 = .ok (.aload_n 0, 1) := by decide +kernel
theorem dX0_init_30 : decode cX0_init 30 = .ok (.getfield 11, 3) := by decide +kernel
theorem dX0_init_33 : decode cX0_init 33 = .ok (.iload_n 1, 1) := by decide +kernel
theorem dX0_init_34 : decode cX0_init 34 = .ok (.new 9, 3) := by decide +kernel
theorem dX0_init_37 : decode cX0_init 37 = .ok (.dup, 1) := by decide +kernel
theorem dX0_init_38 : decode cX0_init 38 = .ok (.invokespecial 24, 3) := by decide +kernel
theorem dX0_init_41 : decode cX0_init 41 = .ok (.aastore, 1) := by decide +kernel
theorem dX0_init_42 : decode cX0_init 42 = .ok (.iinc 1 1, 3) := by decide +kernel
theorem dX0_init_45 : decode cX0_init 45 = .ok (.goto (-21), 3) := by decide +kernel
theorem dX0_init_48 : decode cX0_init 48 = .ok (.return_, 1) := by decide +kernel
theorem dX0_remember_0 : decode cX0_remember 0 = .ok (.aload_n 0, 1) := by decide +kernel
theorem dX0_remember_1 : decode cX0_remember 1 = .ok (.getfield 11, 3) := by decide +kernel
theorem dX0_remember_4 : decode cX0_remember 4 = .ok (.aload_n 0, 1) := by decide +kernel
theorem dX0_remember_5 : decode cX0_remember 5 = .ok (.getfield 17, 3) := by decide +kernel
theorem dX0_remember_8 : decode cX0_remember 8 = .ok (.iconst 3, 1) := by decide +kernel
theorem dX0_remember_9 : decode cX0_remember 9 = .ok (.iand, 1) := by decide +kernel
theorem dX0_remember_10 : decode cX0_remember 10 = .ok (.aaload, 1) := by decide +kernel
theorem dX0_remember_11 : decode cX0_remember 11 = .ok (.aload_n 1, 1) := by decide +kernel
theorem dX0_remember_12 : decode cX0_remember 12 = .ok (.invokevirtual 25, 3) := by decide +kernel
theorem dX0_remember_15 : decode cX0_remember 15 = .ok (.aload_n 0, 1) := by decide +kernel
theorem dX0_remember_16 : decode cX0_remember 16 = .ok (.aload_n 0, 1) := by decide +kernel
theorem dX0_remember_17 : decode cX0_remember 17 = .ok (.getfield 17, 3) := by decide +kernel
theorem dX0_remember_20 : decode cX0_remember 20 = .ok (.iconst 1, 1) := by decide +kernel
theorem dX0_remember_21 : decode cX0_remember 21 = .ok (.iadd, 1) := by decide +kernel
theorem dX0_remember_22 : decode cX0_remember 22 = .ok (.iconst 3, 1) := by decide +kernel
theorem dX0_remember_23 : decode cX0_remember 23 = .ok (.iand, 1) := by decide +kernel
theorem dX0_remember_24 : decode cX0_remember 24 = .ok (.putfield 17, 3) := by decide +kernel
theorem dX0_remember_27 : decode cX0_remember 27 = .ok (.aload_n 0, 1) := by decide +kernel
theorem dX0_remember_28 : decode cX0_remember 28 = .ok (.aload_n 0, 1) := by decide +kernel
theorem dX0_remember_29 : decode cX0_remember 29 = .ok (.getfield 21, 3) := by decide +kernel
theorem dX0_remember_32 : decode cX0_remember 32 = .ok (.iconst 1, 1) := by decide +kernel
theorem dX0_remember_33 : decode cX0_remember 33 = .ok (.iadd, 1) := by decide +kernel
theorem dX0_remember_34 : decode cX0_remember 34 = .ok (.iconst 4, 1) := by decide +kernel
theorem dX0_remember_35 : decode cX0_remember 35 = .ok (.invokestatic 29, 3) := by decide +kernel
theorem dX0_remember_38 : decode cX0_remember 38 = .ok (.putfield 21, 3) := by decide +kernel
theorem dX0_remember_41 : decode cX0_remember 41 = .ok (.return_, 1) := by decide +kernel
theorem dX0_takeBack_0 : decode cX0_takeBack 0 = .ok (.aload_n 0, 1) := by decide +kernel
theorem dX0_takeBack_1 : decode cX0_takeBack 1 = .ok (.aload_n 0, 1) := by decide +kernel
theorem dX0_takeBack_2 : decode cX0_takeBack 2 = .ok (.getfield 17, 3) := by decide +kernel
theorem dX0_takeBack_5 : decode cX0_takeBack 5 = .ok (.iconst 1, 1) := by decide +kernel
theorem dX0_takeBack_6 : decode cX0_takeBack 6 = .ok (.isub, 1) := by decide +kernel
theorem dX0_takeBack_7 : decode cX0_takeBack 7 = .ok (.iconst 3, 1) := by decide +kernel
theorem dX0_takeBack_8 : decode cX0_takeBack 8 = .ok (.iand, 1) := by decide +kernel
theorem dX0_takeBack_9 : decode cX0_takeBack 9 = .ok (.putfield 17, 3) := by decide +kernel
theorem dX0_takeBack_12 : decode cX0_takeBack 12 = .ok (.aload_n 0, 1) := by decide +kernel
theorem dX0_takeBack_13 : decode cX0_takeBack 13 = .ok (.dup, 1) := by decide +kernel
theorem dX0_takeBack_14 : decode cX0_takeBack 14 = .ok (.getfield 21, 3) := by decide +kernel
theorem dX0_takeBack_17 : decode cX0_takeBack 17 = .ok (.iconst 1, 1) := by decide +kernel
theorem dX0_takeBack_18 : decode cX0_takeBack 18 = .ok (.isub, 1) := by decide +kernel
theorem dX0_takeBack_19 : decode cX0_takeBack 19 = .ok (.putfield 21, 3) := by decide +kernel
theorem dX0_takeBack_22 : decode cX0_takeBack 22 = .ok (.aload_n 1, 1) := by decide +kernel
theorem dX0_takeBack_23 : decode cX0_takeBack 23 = .ok (.aload_n 0, 1) := by decide +kernel
theorem dX0_takeBack_24 : decode cX0_takeBack 24 = .ok (.getfield 11, 3) := by decide +kernel
theorem dX0_takeBack_27 : decode cX0_takeBack 27 = .ok (.aload_n 0, 1) := by decide +kernel
theorem dX0_takeBack_28 : decode cX0_takeBack 28 = .ok (.getfield 17, 3) := by decide +kernel
theorem dX0_takeBack_31 : decode cX0_takeBack 31 = .ok (.aaload, 1) := by decide +kernel
theorem dX0_takeBack_32 : decode cX0_takeBack 32 = .ok (.invokevirtual 25, 3) := by decide +kernel
theorem dX0_takeBack_35 : decode cX0_takeBack 35 = .ok (.return_, 1) := by decide +kernel
theorem dX1_init_0 : decode cX1_init 0 = .ok (.aload_n 0, 1) := by decide +kernel
theorem dX1_init_1 : decode cX1_init 1 = .ok (.invokespecial 3, 3) := by decide +kernel
theorem dX1_init_4 : decode cX1_init 4 = .ok (.aload_n 0, 1) := by decide +kernel
theorem dX1_init_5 : decode cX1_init 5 = .ok (.bipush 8, 2) := by decide +kernel
theorem dX1_init_7 : decode cX1_init 7 = .ok (.newarray .int, 2) := by decide +kernel
theorem dX1_init_9 : decode cX1_init 9 = .ok (.putfield 9, 3) := by decide +kernel
theorem dX1_init_12 : decode cX1_init 12 = .ok (.aload_n 0, 1) := by decide +kernel
theorem dX1_init_13 : decode cX1_init 13 = .ok (.bipush 8, 2) := by decide +kernel
theorem dX1_init_15 : decode cX1_init 15 = .ok (.newarray .int, 2) := by decide +kernel
theorem dX1_init_17 : decode cX1_init 17 = .ok (.putfield 15, 3) := by decide +kernel
theorem dX1_init_20 : decode cX1_init 20 = .ok (.aload_n 0, 1) := by decide +kernel
theorem dX1_init_21 : decode cX1_init 21 = .ok (.bipush 8, 2) := by decide +kernel
theorem dX1_init_23 : decode cX1_init 23 = .ok (.newarray .int, 2) := by decide +kernel
theorem dX1_init_25 : decode cX1_init 25 = .ok (.putfield 18, 3) := by decide +kernel
theorem dX1_init_28 : decode cX1_init 28 = .ok (.aload_n 0, 1) := by decide +kernel
theorem dX1_init_29 : decode cX1_init 29 = .ok (.bipush 8, 2) := by decide +kernel
theorem dX1_init_31 : decode cX1_init 31 = .ok (.newarray .int, 2) := by decide +kernel
theorem dX1_init_33 : decode cX1_init 33 = .ok (.putfield 21, 3) := by decide +kernel
theorem dX1_init_36 : decode cX1_init 36 = .ok (.aload_n 0, 1) := by decide +kernel
theorem dX1_init_37 : decode cX1_init 37 = .ok (.iconst 0, 1) := by decide +kernel
theorem dX1_init_38 : decode cX1_init 38 = .ok (.putfield 24, 3) := by decide +kernel
theorem dX1_init_41 : decode cX1_init 41 = .ok (.aload_n 0, 1) := by decide +kernel
theorem dX1_init_42 : decode cX1_init 42 = .ok (.iconst 0, 1) := by decide +kernel
theorem dX1_init_43 : decode cX1_init 43 = .ok (.putfield 28, 3) := by decide +kernel
theorem dX1_init_46 : decode cX1_init 46 = .ok (.return_, 1) := by decide +kernel
theorem dX1_note_0 : decode cX1_note 0 = .ok (.aload_n 0, 1) := by decide +kernel
theorem dX1_note_1 : decode cX1_note 1 = .ok (.getfield 24, 3) := by decide +kernel
theorem dX1_note_4 : decode cX1_note 4 = .ok (.bipush 7, 2) := by decide +kernel
theorem dX1_note_6 : decode cX1_note 6 = .ok (.iand, 1) := by decide +kernel
theorem dX1_note_7 : decode cX1_note 7 = .ok (.istore 5, 2) := by decide +kernel
theorem dX1_note_9 : decode cX1_note 9 = .ok (.aload_n 0, 1) := by decide +kernel
theorem dX1_note_10 : decode cX1_note 10 = .ok (.getfield 9, 3) := by decide +kernel
theorem dX1_note_13 : decode cX1_note 13 = .ok (.iload 5, 2) := by decide +kernel
theorem dX1_note_15 : decode cX1_note 15 = .ok (.iload_n 1, 1) := by decide +kernel
theorem dX1_note_16 : decode cX1_note 16 = .ok (.iastore, 1) := by decide +kernel
theorem dX1_note_17 : decode cX1_note 17 = .ok (.aload_n 0, 1) := by decide +kernel
theorem dX1_note_18 : decode cX1_note 18 = .ok (.getfield 15, 3) := by decide +kernel
theorem dX1_note_21 : decode cX1_note 21 = .ok (.iload 5, 2) := by decide +kernel
theorem dX1_note_23 : decode cX1_note 23 = .ok (.iload_n 2, 1) := by decide +kernel
theorem dX1_note_24 : decode cX1_note 24 = .ok (.iastore, 1) := by decide +kernel
theorem dX1_note_25 : decode cX1_note 25 = .ok (.aload_n 0, 1) := by decide +kernel
theorem dX1_note_26 : decode cX1_note 26 = .ok (.getfield 18, 3) := by decide +kernel
theorem dX1_note_29 : decode cX1_note 29 = .ok (.iload 5, 2) := by decide +kernel
theorem dX1_note_31 : decode cX1_note 31 = .ok (.iload_n 3, 1) := by decide +kernel
theorem dX1_note_32 : decode cX1_note 32 = .ok (.iastore, 1) := by decide +kernel
theorem dX1_note_33 : decode cX1_note 33 = .ok (.aload_n 0, 1) := by decide +kernel
theorem dX1_note_34 : decode cX1_note 34 = .ok (.getfield 21, 3) := by decide +kernel
theorem dX1_note_37 : decode cX1_note 37 = .ok (.iload 5, 2) := by decide +kernel
theorem dX1_note_39 : decode cX1_note 39 = .ok (.iload 4, 2) := by decide +kernel
theorem dX1_note_41 : decode cX1_note 41 = .ok (.iastore, 1) := by decide +kernel
theorem dX1_note_42 : decode cX1_note 42 = .ok (.aload_n 0, 1) := by decide +kernel
theorem dX1_note_43 : decode cX1_note 43 = .ok (.aload_n 0, 1) := by decide +kernel
theorem dX1_note_44 : decode cX1_note 44 = .ok (.getfield 24, 3) := by decide +kernel
theorem dX1_note_47 : decode cX1_note 47 = .ok (.iconst 1, 1) := by decide +kernel
theorem dX1_note_48 : decode cX1_note 48 = .ok (.iadd, 1) := by decide +kernel
theorem dX1_note_49 : decode cX1_note 49 = .ok (.bipush 7, 2) := by decide +kernel
theorem dX1_note_51 : decode cX1_note 51 = .ok (.iand, 1) := by decide +kernel
theorem dX1_note_52 : decode cX1_note 52 = .ok (.putfield 24, 3) := by decide +kernel
theorem dX1_note_55 : decode cX1_note 55 = .ok (.aload_n 0, 1) := by decide +kernel
theorem dX1_note_56 : decode cX1_note 56 = .ok (.aload_n 0, 1) := by decide +kernel
theorem dX1_note_57 : decode cX1_note 57 = .ok (.getfield 28, 3) := by decide +kernel
theorem dX1_note_60 : decode cX1_note 60 = .ok (.iconst 1, 1) := by decide +kernel
theorem dX1_note_61 : decode cX1_note 61 = .ok (.iadd, 1) := by decide +kernel
theorem dX1_note_62 : decode cX1_note 62 = .ok (.bipush 8, 2) := by decide +kernel
theorem dX1_note_64 : decode cX1_note 64 = .ok (.invokestatic 31, 3) := by decide +kernel
theorem dX1_note_67 : decode cX1_note 67 = .ok (.putfield 28, 3) := by decide +kernel
theorem dX1_note_70 : decode cX1_note 70 = .ok (.return_, 1) := by decide +kernel
theorem dX1_slotOf_0 : decode cX1_slotOf 0 = .ok (.aload_n 0, 1) := by decide +kernel
theorem dX1_slotOf_1 : decode cX1_slotOf 1 = .ok (.getfield 24, 3) := by decide +kernel
theorem dX1_slotOf_4 : decode cX1_slotOf 4 = .ok (.iconst 1, 1) := by decide +kernel
theorem dX1_slotOf_5 : decode cX1_slotOf 5 = .ok (.isub, 1) := by decide +kernel
theorem dX1_slotOf_6 : decode cX1_slotOf 6 = .ok (.iload_n 1, 1) := by decide +kernel
theorem dX1_slotOf_7 : decode cX1_slotOf 7 = .ok (.isub, 1) := by decide +kernel
theorem dX1_slotOf_8 : decode cX1_slotOf 8 = .ok (.bipush 7, 2) := by decide +kernel
theorem dX1_slotOf_10 : decode cX1_slotOf 10 = .ok (.iand, 1) := by decide +kernel
theorem dX1_slotOf_11 : decode cX1_slotOf 11 = .ok (.ireturn, 1) := by decide +kernel
theorem dX1_become_0 : decode cX1_become 0 = .ok (.aload_n 1, 1) := by decide +kernel
theorem dX1_become_1 : decode cX1_become 1 = .ok (.getfield 9, 3) := by decide +kernel
theorem dX1_become_4 : decode cX1_become 4 = .ok (.iconst 0, 1) := by decide +kernel
theorem dX1_become_5 : decode cX1_become 5 = .ok (.aload_n 0, 1) := by decide +kernel
theorem dX1_become_6 : decode cX1_become 6 = .ok (.getfield 9, 3) := by decide +kernel
theorem dX1_become_9 : decode cX1_become 9 = .ok (.iconst 0, 1) := by decide +kernel
theorem dX1_become_10 : decode cX1_become 10 = .ok (.bipush 8, 2) := by decide +kernel
theorem dX1_become_12 : decode cX1_become 12 = .ok (.invokestatic 37, 3) := by decide +kernel
theorem dX1_become_15 : decode cX1_become 15 = .ok (.aload_n 1, 1) := by decide +kernel
theorem dX1_become_16 : decode cX1_become 16 = .ok (.getfield 15, 3) := by decide +kernel
theorem dX1_become_19 : decode cX1_become 19 = .ok (.iconst 0, 1) := by decide +kernel
theorem dX1_become_20 : decode cX1_become 20 = .ok (.aload_n 0, 1) := by decide +kernel
theorem dX1_become_21 : decode cX1_become 21 = .ok (.getfield 15, 3) := by decide +kernel
theorem dX1_become_24 : decode cX1_become 24 = .ok (.iconst 0, 1) := by decide +kernel
theorem dX1_become_25 : decode cX1_become 25 = .ok (.bipush 8, 2) := by decide +kernel
theorem dX1_become_27 : decode cX1_become 27 = .ok (.invokestatic 37, 3) := by decide +kernel
theorem dX1_become_30 : decode cX1_become 30 = .ok (.aload_n 1, 1) := by decide +kernel
theorem dX1_become_31 : decode cX1_become 31 = .ok (.getfield 18, 3) := by decide +kernel
theorem dX1_become_34 : decode cX1_become 34 = .ok (.iconst 0, 1) := by decide +kernel
theorem dX1_become_35 : decode cX1_become 35 = .ok (.aload_n 0, 1) := by decide +kernel
theorem dX1_become_36 : decode cX1_become 36 = .ok (.getfield 18, 3) := by decide +kernel
theorem dX1_become_39 : decode cX1_become 39 = .ok (.iconst 0, 1) := by decide +kernel
theorem dX1_become_40 : decode cX1_become 40 = .ok (.bipush 8, 2) := by decide +kernel
theorem dX1_become_42 : decode cX1_become 42 = .ok (.invokestatic 37, 3) := by decide +kernel
theorem dX1_become_45 : decode cX1_become 45 = .ok (.aload_n 1, 1) := by decide +kernel
theorem dX1_become_46 : decode cX1_become 46 = .ok (.getfield 21, 3) := by decide +kernel
theorem dX1_become_49 : decode cX1_become 49 = .ok (.iconst 0, 1) := by decide +kernel
theorem dX1_become_50 : decode cX1_become 50 = .ok (.aload_n 0, 1) := by decide +kernel
theorem dX1_become_51 : decode cX1_become 51 = .ok (.getfield 21, 3) := by decide +kernel
theorem dX1_become_54 : decode cX1_become 54 = .ok (.iconst 0, 1) := by decide +kernel
theorem dX1_become_55 : decode cX1_become 55 = .ok (.bipush 8, 2) := by decide +kernel
theorem dX1_become_57 : decode cX1_become 57 = .ok (.invokestatic 37, 3) := by decide +kernel
theorem dX1_become_60 : decode cX1_become 60 = .ok (.aload_n 0, 1) := by decide +kernel
theorem dX1_become_61 : decode cX1_become 61 = .ok (.aload_n 1, 1) := by decide +kernel
theorem dX1_become_62 : decode cX1_become 62 = .ok (.getfield 24, 3) := by decide +kernel
theorem dX1_become_65 : decode cX1_become 65 = .ok (.putfield 24, 3) := by decide +kernel
theorem dX1_become_68 : decode cX1_become 68 = .ok (.aload_n 0, 1) := by decide +kernel
theorem dX1_become_69 : decode cX1_become 69 = .ok (.aload_n 1, 1) := by decide +kernel
theorem dX1_become_70 : decode cX1_become 70 = .ok (.getfield 28, 3) := by decide +kernel
theorem dX1_become_73 : decode cX1_become 73 = .ok (.putfield 28, 3) := by decide +kernel
theorem dX1_become_76 : decode cX1_become 76 = .ok (.return_, 1) := by decide +kernel
theorem dX2_init_0 : decode cX2_init 0 = .ok (.aload_n 0, 1) := by decide +kernel
theorem dX2_init_1 : decode cX2_init 1 = .ok (.invokespecial 3, 3) := by decide +kernel
theorem dX2_init_4 : decode cX2_init 4 = .ok (.aload_n 0, 1) := by decide +kernel
theorem dX2_init_5 : decode cX2_init 5 = .ok (.iconst 4, 1) := by decide +kernel
theorem dX2_init_6 : decode cX2_init 6 = .ok (.anewarray 9, 3) := by decide +kernel
theorem dX2_init_9 : decode cX2_init 9 = .ok (.putfield 11, 3) := by decide +kernel
theorem dX2_init_12 : decode cX2_init 12 = .ok (.aload_n 0, 1) := by decide +kernel
theorem dX2_init_13 : decode cX2_init 13 = .ok (.new 17, 3) := by decide +kernel
theorem dX2_init_16 : decode cX2_init 16 = .ok (.dup, 1) := by decide +kernel
theorem dX2_init_17 : decode cX2_init 17 = .ok (.invokespecial 19, 3) := by decide +kernel
theorem dX2_init_20 : decode cX2_init 20 = .ok (.putfield 20, 3) := by decide +kernel
theorem dX2_init_23 : decode cX2_init 23 = .ok (.aload_n 0, 1) := by decide +kernel
theorem dX2_init_24 : decode cX2_init 24 = .ok (.new 24, 3) := by decide +kernel
theorem dX2_init_27 : decode cX2_init 27 = .ok (.dup, 1) := by decide +kernel
theorem dX2_init_28 : decode cX2_init 28 = .ok (.invokespecial 26, 3) := by decide +kernel
theorem dX2_init_31 : decode cX2_init 31 = .ok (.putfield 27, 3) := by decide +kernel
theorem dX2_init_34 : decode cX2_init 34 = .ok (.aload_n 0, 1) := by decide +kernel
theorem dX2_init_35 : decode cX2_init 35 = .ok (.iconst 0, 1) := by decide +kernel
theorem dX2_init_36 : decode cX2_init 36 = .ok (.putfield 31, 3) := by decide +kernel
theorem dX2_init_39 : decode cX2_init 39 = .ok (.aload_n 0, 1) := by decide +kernel
theorem dX2_init_40 : decode cX2_init 40 = .ok (.iconst 0, 1) := by decide +kernel
theorem dX2_init_41 : decode cX2_init 41 = .ok (.putfield 35, 3) := by decide +kernel
theorem dX2_init_44 : decode cX2_init 44 = .ok (.aload_n 0, 1) := by decide +kernel
theorem dX2_init_45 : decode cX2_init 45 = .ok (.iconst 0, 1) := by decide +kernel
theorem dX2_init_46 : decode cX2_init 46 = .ok (.putfield 38, 3) := by decide +kernel
theorem dX2_init_49 : decode cX2_init 49 = .ok (.iconst 0, 1) := by decide +kernel
theorem dX2_init_50 : decode cX2_init 50 = .ok (.istore_n 1, 1) := by decide +kernel
theorem dX2_init_51 : decode cX2_init 51 = .ok (.iload_n 1, 1) := by decide +kernel
theorem dX2_init_52 : decode cX2_init 52 = .ok (.iconst 4, 1) := by decide +kernel
theorem dX2_init_53 : decode cX2_init 53 = .ok (.if_icmp .ge 22, 3) := by decide +kernel
theorem dX2_init_56 : decode cX2_init 56 = .ok (.aload_n 0, 1) := by decide +kernel
theorem dX2_init_57 : decode cX2_init 57 = .ok (.getfield 11, 3) := by decide +kernel
theorem dX2_init_60 : decode cX2_init 60 = .ok (.iload_n 1, 1) := by decide +kernel
theorem dX2_init_61 : decode cX2_init 61 = .ok (.new 9, 3) := by decide +kernel
theorem dX2_init_64 : decode cX2_init 64 = .ok (.dup, 1) := by decide +kernel
theorem dX2_init_65 : decode cX2_init 65 = .ok (.invokespecial 41, 3) := by decide +kernel
theorem dX2_init_68 : decode cX2_init 68 = .ok (.aastore, 1) := by decide +kernel
theorem dX2_init_69 : decode cX2_init 69 = .ok (.iinc 1 1, 3) := by decide +kernel
theorem dX2_init_72 : decode cX2_init 72 = .ok (.goto (-21), 3) := by decide +kernel
theorem dX2_init_75 : decode cX2_init 75 = .ok (.return_, 1) := by decide +kernel
theorem dX2_bring_0 : decode cX2_bring 0 = .ok (.aload_n 0, 1) := by decide +kernel
theorem dX2_bring_1 : decode cX2_bring 1 = .ok (.dup, 1) := by decide +kernel
theorem dX2_bring_2 : decode cX2_bring 2 = .ok (.getfield 31, 3) := by decide +kernel
theorem dX2_bring_5 : decode cX2_bring 5 = .ok (.iconst 1, 1) := by decide +kernel
theorem dX2_bring_6 : decode cX2_bring 6 = .ok (.iadd, 1) := by decide +kernel
theorem dX2_bring_7 : decode cX2_bring 7 = .ok (.putfield 31, 3) := by decide +kernel
theorem dX2_bring_10 : decode cX2_bring 10 = .ok (.aload_n 0, 1) := by decide +kernel
theorem dX2_bring_11 : decode cX2_bring 11 = .ok (.iload_n 1, 1) := by decide +kernel
theorem dX2_bring_12 : decode cX2_bring 12 = .ok (.aload_n 2, 1) := by decide +kernel
theorem dX2_bring_13 : decode cX2_bring 13 = .ok (.iload_n 3, 1) := by decide +kernel
theorem dX2_bring_14 : decode cX2_bring 14 = .ok (.iload 4, 2) := by decide +kernel
theorem dX2_bring_16 : decode cX2_bring 16 = .ok (.aload_n 0, 1) := by decide +kernel
theorem dX2_bring_17 : decode cX2_bring 17 = .ok (.getfield 31, 3) := by decide +kernel
theorem dX2_bring_20 : decode cX2_bring 20 = .ok (.invokevirtual 42, 3) := by decide +kernel
theorem dX2_bring_23 : decode cX2_bring 23 = .ok (.invokevirtual 46, 3) := by decide +kernel
theorem dX2_bring_26 : decode cX2_bring 26 = .ok (.return_, 1) := by decide +kernel
theorem dX2_bringToWindow_0 : decode cX2_bringToWindow 0 = .ok (.aload_n 0, 1) := by decide +kernel
theorem dX2_bringToWindow_1 : decode cX2_bringToWindow 1 = .ok (.getfield 20, 3) := by decide +kernel
theorem dX2_bringToWindow_4 : decode cX2_bringToWindow 4 = .ok (.getfield 50, 3) := by decide +kernel
theorem dX2_bringToWindow_7 : decode cX2_bringToWindow 7 = .ok (.bipush 8, 2) := by decide +kernel
theorem dX2_bringToWindow_9 : decode cX2_bringToWindow 9 = .ok (.if_icmp .lt 30, 3) := by decide +kernel
theorem dX2_bringToWindow_12 : decode cX2_bringToWindow 12 = .ok (.aload_n 0, 1) := by decide +kernel
theorem dX2_bringToWindow_13 : decode cX2_bringToWindow 13 = .ok (.getfield 20, 3) := by decide +kernel
theorem dX2_bringToWindow_16 : decode cX2_bringToWindow 16 = .ok (.invokevirtual 53, 3) := by decide +kernel
theorem dX2_bringToWindow_19 : decode cX2_bringToWindow 19 = .ok (.aload_n 0, 1) := by decide +kernel
theorem dX2_bringToWindow_20 : decode cX2_bringToWindow 20 = .ok (.getfield 27, 3) := by decide +kernel
theorem dX2_bringToWindow_23 : decode cX2_bringToWindow 23 = .ok (.iconst 2, 1) := by decide +kernel
theorem dX2_bringToWindow_24 : decode cX2_bringToWindow 24 = .ok (.iconst 4, 1) := by decide +kernel
theorem dX2_bringToWindow_25 : decode cX2_bringToWindow 25 = .ok (.aload_n 0, 1) := by decide +kernel
theorem dX2_bringToWindow_26 : decode cX2_bringToWindow 26 = .ok (.getfield 20, 3) := by decide +kernel
theorem dX2_bringToWindow_29 : decode cX2_bringToWindow 29 = .ok (.getfield 56, 3) := by decide +kernel
theorem dX2_bringToWindow_32 : decode cX2_bringToWindow 32 = .ok (.aload_n 0, 1) := by decide +kernel
theorem dX2_bringToWindow_33 : decode cX2_bringToWindow 33 = .ok (.getfield 31, 3) := by decide +kernel
theorem dX2_bringToWindow_36 : decode cX2_bringToWindow 36 = .ok (.invokevirtual 59, 3) := by decide +kernel
theorem dX2_bringToWindow_39 : decode cX2_bringToWindow 39 = .ok (.aload_n 0, 1) := by decide +kernel
theorem dX2_bringToWindow_40 : decode cX2_bringToWindow 40 = .ok (.getfield 20, 3) := by decide +kernel
theorem dX2_bringToWindow_43 : decode cX2_bringToWindow 43 = .ok (.dup, 1) := by decide +kernel
theorem dX2_bringToWindow_44 : decode cX2_bringToWindow 44 = .ok (.getfield 50, 3) := by decide +kernel
theorem dX2_bringToWindow_47 : decode cX2_bringToWindow 47 = .ok (.iconst 1, 1) := by decide +kernel
theorem dX2_bringToWindow_48 : decode cX2_bringToWindow 48 = .ok (.iadd, 1) := by decide +kernel
theorem dX2_bringToWindow_49 : decode cX2_bringToWindow 49 = .ok (.putfield 50, 3) := by decide +kernel
theorem dX2_bringToWindow_52 : decode cX2_bringToWindow 52 = .ok (.aload_n 0, 1) := by decide +kernel
theorem dX2_bringToWindow_53 : decode cX2_bringToWindow 53 = .ok (.iconst 4, 1) := by decide +kernel
theorem dX2_bringToWindow_54 : decode cX2_bringToWindow 54 = .ok (.aload_n 0, 1) := by decide +kernel
theorem dX2_bringToWindow_55 : decode cX2_bringToWindow 55 = .ok (.getfield 20, 3) := by decide +kernel
theorem dX2_bringToWindow_58 : decode cX2_bringToWindow 58 = .ok (.invokevirtual 63, 3) := by decide +kernel
theorem dX2_bringToWindow_61 : decode cX2_bringToWindow 61 = .ok (.iload_n 1, 1) := by decide +kernel
theorem dX2_bringToWindow_62 : decode cX2_bringToWindow 62 = .ok (.iload_n 2, 1) := by decide +kernel
theorem dX2_bringToWindow_63 : decode cX2_bringToWindow 63 = .ok (.invokevirtual 67, 3) := by decide +kernel
theorem dX2_bringToWindow_66 : decode cX2_bringToWindow 66 = .ok (.return_, 1) := by decide +kernel
theorem dX2_noteEviction_0 : decode cX2_noteEviction 0 = .ok (.iload_n 2, 1) := by decide +kernel
theorem dX2_noteEviction_1 : decode cX2_noteEviction 1 = .ok (.iconst (-1), 1) := by decide +kernel
theorem dX2_noteEviction_2 : decode cX2_noteEviction 2 = .ok (.if_icmp .eq 30, 3) := by decide +kernel
theorem dX2_noteEviction_5 : decode cX2_noteEviction 5 = .ok (.aload_n 0, 1) := by decide +kernel
theorem dX2_noteEviction_6 : decode cX2_noteEviction 6 = .ok (.dup, 1) := by decide +kernel
theorem dX2_noteEviction_7 : decode cX2_noteEviction 7 = .ok (.getfield 35, 3) := by decide +kernel
theorem dX2_noteEviction_10 : decode cX2_noteEviction 10 = .ok (.iconst 1, 1) := by decide +kernel
theorem dX2_noteEviction_11 : decode cX2_noteEviction 11 = .ok (.iadd, 1) := by decide +kernel
theorem dX2_noteEviction_12 : decode cX2_noteEviction 12 = .ok (.putfield 35, 3) := by decide +kernel
theorem dX2_noteEviction_15 : decode cX2_noteEviction 15 = .ok (.aload_n 0, 1) := by decide +kernel
theorem dX2_noteEviction_16 : decode cX2_noteEviction 16 = .ok (.getfield 27, 3) := by decide +kernel
theorem dX2_noteEviction_19 : decode cX2_noteEviction 19 = .ok (.iconst 0, 1) := by decide +kernel
theorem dX2_noteEviction_20 : decode cX2_noteEviction 20 = .ok (.iload_n 1, 1) := by decide +kernel
theorem dX2_noteEviction_21 : decode cX2_noteEviction 21 = .ok (.iload_n 2, 1) := by decide +kernel
theorem dX2_noteEviction_22 : decode cX2_noteEviction 22 = .ok (.invokestatic 71, 3) := by decide +kernel
theorem dX2_noteEviction_25 : decode cX2_noteEviction 25 = .ok (.aload_n 0, 1) := by decide +kernel
theorem dX2_noteEviction_26 : decode cX2_noteEviction 26 = .ok (.getfield 31, 3) := by decide +kernel
theorem dX2_noteEviction_29 : decode cX2_noteEviction 29 = .ok (.invokevirtual 59, 3) := by decide +kernel
theorem dX2_noteEviction_32 : decode cX2_noteEviction 32 = .ok (.return_, 1) := by decide +kernel
theorem dX2_join_0 : decode cX2_join 0 = .ok (.aload_n 0, 1) := by decide +kernel
theorem dX2_join_1 : decode cX2_join 1 = .ok (.getfield 11, 3) := by decide +kernel
theorem dX2_join_4 : decode cX2_join 4 = .ok (.iload_n 1, 1) := by decide +kernel
theorem dX2_join_5 : decode cX2_join 5 = .ok (.aaload, 1) := by decide +kernel
theorem dX2_join_6 : decode cX2_join 6 = .ok (.aload_n 0, 1) := by decide +kernel
theorem dX2_join_7 : decode cX2_join 7 = .ok (.getfield 11, 3) := by decide +kernel
theorem dX2_join_10 : decode cX2_join 10 = .ok (.iload_n 2, 1) := by decide +kernel
theorem dX2_join_11 : decode cX2_join 11 = .ok (.aaload, 1) := by decide +kernel
theorem dX2_join_12 : decode cX2_join 12 = .ok (.aload_n 0, 1) := by decide +kernel
theorem dX2_join_13 : decode cX2_join 13 = .ok (.getfield 31, 3) := by decide +kernel
theorem dX2_join_16 : decode cX2_join 16 = .ok (.invokevirtual 75, 3) := by decide +kernel
theorem dX2_join_19 : decode cX2_join 19 = .ok (.istore_n 3, 1) := by decide +kernel
theorem dX2_join_20 : decode cX2_join 20 = .ok (.aload_n 0, 1) := by decide +kernel
theorem dX2_join_21 : decode cX2_join 21 = .ok (.getfield 11, 3) := by decide +kernel
theorem dX2_join_24 : decode cX2_join 24 = .ok (.iload_n 2, 1) := by decide +kernel
theorem dX2_join_25 : decode cX2_join 25 = .ok (.aaload, 1) := by decide +kernel
theorem dX2_join_26 : decode cX2_join 26 = .ok (.invokevirtual 79, 3) := by decide +kernel
theorem dX2_join_29 : decode cX2_join 29 = .ok (.aload_n 0, 1) := by decide +kernel
theorem dX2_join_30 : decode cX2_join 30 = .ok (.dup, 1) := by decide +kernel
theorem dX2_join_31 : decode cX2_join 31 = .ok (.getfield 38, 3) := by decide +kernel
theorem dX2_join_34 : decode cX2_join 34 = .ok (.iconst 1, 1) := by decide +kernel
theorem dX2_join_35 : decode cX2_join 35 = .ok (.iadd, 1) := by decide +kernel
theorem dX2_join_36 : decode cX2_join 36 = .ok (.putfield 38, 3) := by decide +kernel
theorem dX2_join_39 : decode cX2_join 39 = .ok (.aload_n 0, 1) := by decide +kernel
theorem dX2_join_40 : decode cX2_join 40 = .ok (.getfield 27, 3) := by decide +kernel
theorem dX2_join_43 : decode cX2_join 43 = .ok (.iconst 1, 1) := by decide +kernel
theorem dX2_join_44 : decode cX2_join 44 = .ok (.iload_n 1, 1) := by decide +kernel
theorem dX2_join_45 : decode cX2_join 45 = .ok (.iload_n 3, 1) := by decide +kernel
theorem dX2_join_46 : decode cX2_join 46 = .ok (.aload_n 0, 1) := by decide +kernel
theorem dX2_join_47 : decode cX2_join 47 = .ok (.getfield 31, 3) := by decide +kernel
theorem dX2_join_50 : decode cX2_join 50 = .ok (.invokevirtual 59, 3) := by decide +kernel
theorem dX2_join_53 : decode cX2_join 53 = .ok (.iload_n 3, 1) := by decide +kernel
theorem dX2_join_54 : decode cX2_join 54 = .ok (.ireturn, 1) := by decide +kernel
theorem dX2_resize_0 : decode cX2_resize 0 = .ok (.aload_n 0, 1) := by decide +kernel
theorem dX2_resize_1 : decode cX2_resize 1 = .ok (.getfield 11, 3) := by decide +kernel
theorem dX2_resize_4 : decode cX2_resize 4 = .ok (.iload_n 1, 1) := by decide +kernel
theorem dX2_resize_5 : decode cX2_resize 5 = .ok (.aaload, 1) := by decide +kernel
theorem dX2_resize_6 : decode cX2_resize 6 = .ok (.astore_n 3, 1) := by decide +kernel
theorem dX2_resize_7 : decode cX2_resize 7 = .ok (.iconst 0, 1) := by decide +kernel
theorem dX2_resize_8 : decode cX2_resize 8 = .ok (.istore 4, 2) := by decide +kernel
theorem dX2_resize_10 : decode cX2_resize 10 = .ok (.aload_n 3, 1) := by decide +kernel
theorem dX2_resize_11 : decode cX2_resize 11 = .ok (.iload_n 2, 1) := by decide +kernel
theorem dX2_resize_12 : decode cX2_resize 12 = .ok (.putfield 82, 3) := by decide +kernel
theorem dX2_resize_15 : decode cX2_resize 15 = .ok (.iconst 0, 1) := by decide +kernel
theorem dX2_resize_16 : decode cX2_resize 16 = .ok (.istore 5, 2) := by decide +kernel
theorem dX2_resize_18 : decode cX2_resize 18 = .ok (.iload 5, 2) := by decide +kernel
theorem dX2_resize_20 : decode cX2_resize 20 = .ok (.bipush 26, 2) := by decide +kernel
theorem dX2_resize_22 : decode cX2_resize 22 = .ok (.if_icmp .ge 29, 3) := by decide +kernel
theorem dX2_resize_25 : decode cX2_resize 25 = .ok (.aload_n 3, 1) := by decide +kernel
theorem dX2_resize_26 : decode cX2_resize 26 = .ok (.invokevirtual 85, 3) := by decide +kernel
theorem dX2_resize_29 : decode cX2_resize 29 = .ok (.iload_n 2, 1) := by decide +kernel
theorem dX2_resize_30 : decode cX2_resize 30 = .ok (.if_icmp .le 21, 3) := by decide +kernel
theorem dX2_resize_33 : decode cX2_resize 33 = .ok (.aload_n 0, 1) := by decide +kernel
theorem dX2_resize_34 : decode cX2_resize 34 = .ok (.iload_n 1, 1) := by decide +kernel
theorem dX2_resize_35 : decode cX2_resize 35 = .ok (.aload_n 3, 1) := by decide +kernel
theorem dX2_resize_36 : decode cX2_resize 36 = .ok (.invokevirtual 89, 3) := by decide +kernel
theorem dX2_resize_39 : decode cX2_resize 39 = .ok (.invokevirtual 46, 3) := by decide +kernel
theorem dX2_resize_42 : decode cX2_resize 42 = .ok (.iinc 4 1, 3) := by decide +kernel
theorem dX2_resize_45 : decode cX2_resize 45 = .ok (.iinc 5 1, 3) := by decide +kernel
theorem dX2_resize_48 : decode cX2_resize 48 = .ok (.goto (-30), 3) := by decide +kernel
theorem dX2_resize_51 : decode cX2_resize 51 = .ok (.iload 4, 2) := by decide +kernel
theorem dX2_resize_53 : decode cX2_resize 53 = .ok (.ireturn, 1) := by decide +kernel
theorem dX2_become_0 : decode cX2_become 0 = .ok (.iconst 0, 1) := by decide +kernel
theorem dX2_become_1 : decode cX2_become 1 = .ok (.istore_n 2, 1) := by decide +kernel
theorem dX2_become_2 : decode cX2_become 2 = .ok (.iload_n 2, 1) := by decide +kernel
theorem dX2_become_3 : decode cX2_become 3 = .ok (.iconst 4, 1) := by decide +kernel
theorem dX2_become_4 : decode cX2_become 4 = .ok (.if_icmp .ge 24, 3) := by decide +kernel
theorem dX2_become_7 : decode cX2_become 7 = .ok (.aload_n 0, 1) := by decide +kernel
theorem dX2_become_8 : decode cX2_become 8 = .ok (.getfield 11, 3) := by decide +kernel
theorem dX2_become_11 : decode cX2_become 11 = .ok (.iload_n 2, 1) := by decide +kernel
theorem dX2_become_12 : decode cX2_become 12 = .ok (.aaload, 1) := by decide +kernel
theorem dX2_become_13 : decode cX2_become 13 = .ok (.aload_n 1, 1) := by decide +kernel
theorem dX2_become_14 : decode cX2_become 14 = .ok (.getfield 11, 3) := by decide +kernel
theorem dX2_become_17 : decode cX2_become 17 = .ok (.iload_n 2, 1) := by decide +kernel
theorem dX2_become_18 : decode cX2_become 18 = .ok (.aaload, 1) := by decide +kernel
theorem dX2_become_19 : decode cX2_become 19 = .ok (.invokevirtual 92, 3) := by decide +kernel
theorem dX2_become_22 : decode cX2_become 22 = .ok (.iinc 2 1, 3) := by decide +kernel
theorem dX2_become_25 : decode cX2_become 25 = .ok (.goto (-23), 3) := by decide +kernel
theorem dX2_become_28 : decode cX2_become 28 = .ok (.aload_n 0, 1) := by decide +kernel
theorem dX2_become_29 : decode cX2_become 29 = .ok (.getfield 20, 3) := by decide +kernel
theorem dX2_become_32 : decode cX2_become 32 = .ok (.aload_n 1, 1) := by decide +kernel
theorem dX2_become_33 : decode cX2_become 33 = .ok (.getfield 20, 3) := by decide +kernel
theorem dX2_become_36 : decode cX2_become 36 = .ok (.invokevirtual 96, 3) := by decide +kernel
theorem dX2_become_39 : decode cX2_become 39 = .ok (.aload_n 0, 1) := by decide +kernel
theorem dX2_become_40 : decode cX2_become 40 = .ok (.getfield 27, 3) := by decide +kernel
theorem dX2_become_43 : decode cX2_become 43 = .ok (.aload_n 1, 1) := by decide +kernel
theorem dX2_become_44 : decode cX2_become 44 = .ok (.getfield 27, 3) := by decide +kernel
theorem dX2_become_47 : decode cX2_become 47 = .ok (.invokevirtual 99, 3) := by decide +kernel
theorem dX2_become_50 : decode cX2_become 50 = .ok (.aload_n 0, 1) := by decide +kernel
theorem dX2_become_51 : decode cX2_become 51 = .ok (.aload_n 1, 1) := by decide +kernel
theorem dX2_become_52 : decode cX2_become 52 = .ok (.getfield 31, 3) := by decide +kernel
theorem dX2_become_55 : decode cX2_become 55 = .ok (.putfield 31, 3) := by decide +kernel
theorem dX2_become_58 : decode cX2_become 58 = .ok (.aload_n 0, 1) := by decide +kernel
theorem dX2_become_59 : decode cX2_become 59 = .ok (.aload_n 1, 1) := by decide +kernel
theorem dX2_become_60 : decode cX2_become 60 = .ok (.getfield 35, 3) := by decide +kernel
theorem dX2_become_63 : decode cX2_become 63 = .ok (.putfield 35, 3) := by decide +kernel
theorem dX2_become_66 : decode cX2_become 66 = .ok (.aload_n 0, 1) := by decide +kernel
theorem dX2_become_67 : decode cX2_become 67 = .ok (.aload_n 1, 1) := by decide +kernel
theorem dX2_become_68 : decode cX2_become 68 = .ok (.getfield 38, 3) := by decide +kernel
theorem dX2_become_71 : decode cX2_become 71 = .ok (.putfield 38, 3) := by decide +kernel
theorem dX2_become_74 : decode cX2_become 74 = .ok (.return_, 1) := by decide +kernel
theorem dX3_init_0 : decode cX3_init 0 = .ok (.aload_n 0, 1) := by decide +kernel
theorem dX3_init_1 : decode cX3_init 1 = .ok (.invokespecial 3, 3) := by decide +kernel
theorem dX3_init_4 : decode cX3_init 4 = .ok (.aload_n 0, 1) := by decide +kernel
theorem dX3_init_5 : decode cX3_init 5 = .ok (.iconst 4, 1) := by decide +kernel
theorem dX3_init_6 : decode cX3_init 6 = .ok (.putfield 9, 3) := by decide +kernel
theorem dX3_init_9 : decode cX3_init 9 = .ok (.aload_n 0, 1) := by decide +kernel
theorem dX3_init_10 : decode cX3_init 10 = .ok (.iconst 0, 1) := by decide +kernel
theorem dX3_init_11 : decode cX3_init 11 = .ok (.putfield 15, 3) := by decide +kernel
theorem dX3_init_14 : decode cX3_init 14 = .ok (.aload_n 0, 1) := by decide +kernel
theorem dX3_init_15 : decode cX3_init 15 = .ok (.iconst 0, 1) := by decide +kernel
theorem dX3_init_16 : decode cX3_init 16 = .ok (.putfield 18, 3) := by decide +kernel
theorem dX3_init_19 : decode cX3_init 19 = .ok (.aload_n 0, 1) := by decide +kernel
theorem dX3_init_20 : decode cX3_init 20 = .ok (.iconst 0, 1) := by decide +kernel
theorem dX3_init_21 : decode cX3_init 21 = .ok (.putfield 21, 3) := by decide +kernel
theorem dX3_init_24 : decode cX3_init 24 = .ok (.aload_n 0, 1) := by decide +kernel
theorem dX3_init_25 : decode cX3_init 25 = .ok (.bipush 26, 2) := by decide +kernel
theorem dX3_init_27 : decode cX3_init 27 = .ok (.newarray .int, 2) := by decide +kernel
theorem dX3_init_29 : decode cX3_init 29 = .ok (.putfield 24, 3) := by decide +kernel
theorem dX3_init_32 : decode cX3_init 32 = .ok (.aload_n 0, 1) := by decide +kernel
theorem dX3_init_33 : decode cX3_init 33 = .ok (.bipush 26, 2) := by decide +kernel
theorem dX3_init_35 : decode cX3_init 35 = .ok (.newarray .int, 2) := by decide +kernel
theorem dX3_init_37 : decode cX3_init 37 = .ok (.putfield 28, 3) := by decide +kernel
theorem dX3_init_40 : decode cX3_init 40 = .ok (.aload_n 0, 1) := by decide +kernel
theorem dX3_init_41 : decode cX3_init 41 = .ok (.bipush 26, 2) := by decide +kernel
theorem dX3_init_43 : decode cX3_init 43 = .ok (.newarray .int, 2) := by decide +kernel
theorem dX3_init_45 : decode cX3_init 45 = .ok (.putfield 31, 3) := by decide +kernel
theorem dX3_init_48 : decode cX3_init 48 = .ok (.aload_n 0, 1) := by decide +kernel
theorem dX3_init_49 : decode cX3_init 49 = .ok (.bipush 26, 2) := by decide +kernel
theorem dX3_init_51 : decode cX3_init 51 = .ok (.newarray .int, 2) := by decide +kernel
theorem dX3_init_53 : decode cX3_init 53 = .ok (.putfield 34, 3) := by decide +kernel
theorem dX3_init_56 : decode cX3_init 56 = .ok (.return_, 1) := by decide +kernel
theorem dX3_has_0 : decode cX3_has 0 = .ok (.aload_n 0, 1) := by decide +kernel
theorem dX3_has_1 : decode cX3_has 1 = .ok (.getfield 21, 3) := by decide +kernel
theorem dX3_has_4 : decode cX3_has 4 = .ok (.iload_n 1, 1) := by decide +kernel
theorem dX3_has_5 : decode cX3_has 5 = .ok (.ishr, 1) := by decide +kernel
theorem dX3_has_6 : decode cX3_has 6 = .ok (.iconst 1, 1) := by decide +kernel
theorem dX3_has_7 : decode cX3_has 7 = .ok (.iand, 1) := by decide +kernel
theorem dX3_has_8 : decode cX3_has 8 = .ok (.ifCond .eq 7, 3) := by decide +kernel
theorem dX3_has_11 : decode cX3_has 11 = .ok (.iconst 1, 1) := by decide +kernel
theorem dX3_has_12 : decode cX3_has 12 = .ok (.goto 4, 3) := by decide +kernel
theorem dX3_has_15 : decode cX3_has 15 = .ok (.iconst 0, 1) := by decide +kernel
theorem dX3_has_16 : decode cX3_has 16 = .ok (.ireturn, 1) := by decide +kernel
theorem dX3_counters_0 : decode cX3_counters 0 = .ok (.aload_n 0, 1) := by decide +kernel
theorem dX3_counters_1 : decode cX3_counters 1 = .ok (.getfield 21, 3) := by decide +kernel
theorem dX3_counters_4 : decode cX3_counters 4 = .ok (.invokestatic 37, 3) := by decide +kernel
theorem dX3_counters_7 : decode cX3_counters 7 = .ok (.ireturn, 1) := by decide +kernel
theorem dX3_upper_0 : decode cX3_upper 0 = .ok (.aload_n 0, 1) := by decide +kernel
theorem dX3_upper_1 : decode cX3_upper 1 = .ok (.iload_n 1, 1) := by decide +kernel
theorem dX3_upper_2 : decode cX3_upper 2 = .ok (.invokevirtual 43, 3) := by decide +kernel
theorem dX3_upper_5 : decode cX3_upper 5 = .ok (.ifCond .eq 12, 3) := by decide +kernel
theorem dX3_upper_8 : decode cX3_upper 8 = .ok (.aload_n 0, 1) := by decide +kernel
theorem dX3_upper_9 : decode cX3_upper 9 = .ok (.getfield 24, 3) := by decide +kernel
theorem dX3_upper_12 : decode cX3_upper 12 = .ok (.iload_n 1, 1) := by decide +kernel
theorem dX3_upper_13 : decode cX3_upper 13 = .ok (.iaload, 1) := by decide +kernel
theorem dX3_upper_14 : decode cX3_upper 14 = .ok (.goto 7, 3) := by decide +kernel
theorem dX3_upper_17 : decode cX3_upper 17 = .ok (.aload_n 0, 1) := by decide +kernel
theorem dX3_upper_18 : decode cX3_upper 18 = .ok (.getfield 15, 3) := by decide +kernel
theorem dX3_upper_21 : decode cX3_upper 21 = .ok (.ireturn, 1) := by decide +kernel
theorem dX3_lower_0 : decode cX3_lower 0 = .ok (.aload_n 0, 1) := by decide +kernel
theorem dX3_lower_1 : decode cX3_lower 1 = .ok (.iload_n 1, 1) := by decide +kernel
theorem dX3_lower_2 : decode cX3_lower 2 = .ok (.invokevirtual 43, 3) := by decide +kernel
theorem dX3_lower_5 : decode cX3_lower 5 = .ok (.ifCond .eq 19, 3) := by decide +kernel
theorem dX3_lower_8 : decode cX3_lower 8 = .ok (.aload_n 0, 1) := by decide +kernel
theorem dX3_lower_9 : decode cX3_lower 9 = .ok (.getfield 24, 3) := by decide +kernel
theorem dX3_lower_12 : decode cX3_lower 12 = .ok (.iload_n 1, 1) := by decide +kernel
theorem dX3_lower_13 : decode cX3_lower 13 = .ok (.iaload, 1) := by decide +kernel
theorem dX3_lower_14 : decode cX3_lower 14 = .ok (.aload_n 0, 1) := by decide +kernel
theorem dX3_lower_15 : decode cX3_lower 15 = .ok (.getfield 28, 3) := by decide +kernel
theorem dX3_lower_18 : decode cX3_lower 18 = .ok (.iload_n 1, 1) := by decide +kernel
theorem dX3_lower_19 : decode cX3_lower 19 = .ok (.iaload, 1) := by decide +kernel
theorem dX3_lower_20 : decode cX3_lower 20 = .ok (.isub, 1) := by decide +kernel
theorem dX3_lower_21 : decode cX3_lower 21 = .ok (.goto 4, 3) := by decide +kernel
theorem dX3_lower_24 : decode cX3_lower 24 = .ok (.iconst 0, 1) := by decide +kernel
theorem dX3_lower_25 : decode cX3_lower 25 = .ok (.ireturn, 1) := by decide +kernel
theorem dX3_slackToMerge_0 : decode cX3_slackToMerge 0 = .ok (.aload_n 0, 1) := by decide +kernel
theorem dX3_slackToMerge_1 : decode cX3_slackToMerge 1 = .ok (.iload_n 1, 1) := by decide +kernel
theorem dX3_slackToMerge_2 : decode cX3_slackToMerge 2 = .ok (.invokevirtual 43, 3) := by decide +kernel
theorem dX3_slackToMerge_5 : decode cX3_slackToMerge 5 = .ok (.ifCond .eq 12, 3) := by decide +kernel
theorem dX3_slackToMerge_8 : decode cX3_slackToMerge 8 = .ok (.aload_n 0, 1) := by decide +kernel
theorem dX3_slackToMerge_9 : decode cX3_slackToMerge 9 = .ok (.getfield 28, 3) := by decide +kernel
theorem dX3_slackToMerge_12 : decode cX3_slackToMerge 12 = .ok (.iload_n 1, 1) := by decide +kernel
theorem dX3_slackToMerge_13 : decode cX3_slackToMerge 13 = .ok (.iaload, 1) := by decide +kernel
theorem dX3_slackToMerge_14 : decode cX3_slackToMerge 14 = .ok (.goto 7, 3) := by decide +kernel
theorem dX3_slackToMerge_17 : decode cX3_slackToMerge 17 = .ok (.aload_n 0, 1) := by decide +kernel
theorem dX3_slackToMerge_18 : decode cX3_slackToMerge 18 = .ok (.getfield 15, 3) := by decide +kernel
theorem dX3_slackToMerge_21 : decode cX3_slackToMerge 21 = .ok (.ireturn, 1) := by decide +kernel
theorem dX3_needsRoomFor_0 : decode cX3_needsRoomFor 0 = .ok (.aload_n 0, 1) := by decide +kernel
theorem dX3_needsRoomFor_1 : decode cX3_needsRoomFor 1 = .ok (.iload_n 1, 1) := by decide +kernel
theorem dX3_needsRoomFor_2 : decode cX3_needsRoomFor 2 = .ok (.invokevirtual 43, 3) := by decide +kernel
theorem dX3_needsRoomFor_5 : decode cX3_needsRoomFor 5 = .ok (.ifCond .ne 18, 3) := by decide +kernel
theorem dX3_needsRoomFor_8 : decode cX3_needsRoomFor 8 = .ok (.aload_n 0, 1) := by decide +kernel
theorem dX3_needsRoomFor_9 : decode cX3_needsRoomFor 9 = .ok (.invokevirtual 47, 3) := by decide +kernel
theorem dX3_needsRoomFor_12 : decode cX3_needsRoomFor 12 = .ok (.aload_n 0, 1) := by decide +kernel
theorem dX3_needsRoomFor_13 : decode cX3_needsRoomFor 13 = .ok (.getfield 9, 3) := by decide +kernel
theorem dX3_needsRoomFor_16 : decode cX3_needsRoomFor 16 = .ok (.if_icmp .lt 7, 3) := by decide +kernel
theorem dX3_needsRoomFor_19 : decode cX3_needsRoomFor 19 = .ok (.iconst 1, 1) := by decide +kernel
theorem dX3_needsRoomFor_20 : decode cX3_needsRoomFor 20 = .ok (.goto 4, 3) := by decide +kernel
theorem dX3_needsRoomFor_23 : decode cX3_needsRoomFor 23 = .ok (.iconst 0, 1) := by decide +kernel
theorem dX3_needsRoomFor_24 : decode cX3_needsRoomFor 24 = .ok (.ireturn, 1) := by decide +kernel
theorem dX3_receive_0 : decode cX3_receive 0 = .ok (.iconst (-1), 1) := by decide +kernel
theorem dX3_receive_1 : decode cX3_receive 1 = .ok (.istore 4, 2) := by decide +kernel
theorem dX3_receive_3 : decode cX3_receive 3 = .ok (.aload_n 0, 1) := by decide +kernel
theorem dX3_receive_4 : decode cX3_receive 4 = .ok (.dup, 1) := by decide +kernel
theorem dX3_receive_5 : decode cX3_receive 5 = .ok (.getfield 18, 3) := by decide +kernel
theorem dX3_receive_8 : decode cX3_receive 8 = .ok (.iload_n 2, 1) := by decide +kernel
theorem dX3_receive_9 : decode cX3_receive 9 = .ok (.iadd, 1) := by decide +kernel
theorem dX3_receive_10 : decode cX3_receive 10 = .ok (.putfield 18, 3) := by decide +kernel
theorem dX3_receive_13 : decode cX3_receive 13 = .ok (.aload_n 0, 1) := by decide +kernel
theorem dX3_receive_14 : decode cX3_receive 14 = .ok (.getfield 34, 3) := by decide +kernel
theorem dX3_receive_17 : decode cX3_receive 17 = .ok (.iload_n 1, 1) := by decide +kernel
theorem dX3_receive_18 : decode cX3_receive 18 = .ok (.dup2, 1) := by decide +kernel
theorem dX3_receive_19 : decode cX3_receive 19 = .ok (.iaload, 1) := by decide +kernel
theorem dX3_receive_20 : decode cX3_receive 20 = .ok (.iload_n 2, 1) := by decide +kernel
theorem dX3_receive_21 : decode cX3_receive 21 = .ok (.iadd, 1) := by decide +kernel
theorem dX3_receive_22 : decode cX3_receive 22 = .ok (.iastore, 1) := by decide +kernel
theorem dX3_receive_23 : decode cX3_receive 23 = .ok (.aload_n 0, 1) := by decide +kernel
theorem dX3_receive_24 : decode cX3_receive 24 = .ok (.iload_n 1, 1) := by decide +kernel
theorem dX3_receive_25 : decode cX3_receive 25 = .ok (.invokevirtual 43, 3) := by decide +kernel
theorem dX3_receive_28 : decode cX3_receive 28 = .ok (.ifCond .eq 16, 3) := by decide +kernel
theorem dX3_receive_31 : decode cX3_receive 31 = .ok (.aload_n 0, 1) := by decide +kernel
theorem dX3_receive_32 : decode cX3_receive 32 = .ok (.getfield 24, 3) := by decide +kernel
theorem dX3_receive_35 : decode cX3_receive 35 = .ok (.iload_n 1, 1) := by decide +kernel
theorem dX3_receive_36 : decode cX3_receive 36 = .ok (.dup2, 1) := by decide +kernel
theorem dX3_receive_37 : decode cX3_receive 37 = .ok (.iaload, 1) := by decide +kernel
theorem dX3_receive_38 : decode cX3_receive 38 = .ok (.iload_n 2, 1) := by decide +kernel
theorem dX3_receive_39 : decode cX3_receive 39 = .ok (.iadd, 1) := by decide +kernel
theorem dX3_receive_40 : decode cX3_receive 40 = .ok (.iastore, 1) := by decide +kernel
theorem dX3_receive_41 : decode cX3_receive 41 = .ok (.goto 51, 3) := by decide +kernel
theorem dX3_receive_44 : decode cX3_receive 44 = .ok (.aload_n 0, 1) := by decide +kernel
theorem dX3_receive_45 : decode cX3_receive 45 = .ok (.iload_n 1, 1) := by decide +kernel
theorem dX3_receive_46 : decode cX3_receive 46 = .ok (.invokevirtual 51, 3) := by decide +kernel
theorem dX3_receive_49 : decode cX3_receive 49 = .ok (.ifCond .eq 9, 3) := by decide +kernel
theorem dX3_receive_52 : decode cX3_receive 52 = .ok (.aload_n 0, 1) := by decide +kernel
theorem dX3_receive_53 : decode cX3_receive 53 = .ok (.invokevirtual 54, 3) := by decide +kernel
theorem dX3_receive_56 : decode cX3_receive 56 = .ok (.istore 4, 2) := by decide +kernel
theorem dX3_receive_58 : decode cX3_receive 58 = .ok (.aload_n 0, 1) := by decide +kernel
theorem dX3_receive_59 : decode cX3_receive 59 = .ok (.getfield 24, 3) := by decide +kernel
theorem dX3_receive_62 : decode cX3_receive 62 = .ok (.iload_n 1, 1) := by decide +kernel
theorem dX3_receive_63 : decode cX3_receive 63 = .ok (.aload_n 0, 1) := by decide +kernel
theorem dX3_receive_64 : decode cX3_receive 64 = .ok (.getfield 15, 3) := by decide +kernel
theorem dX3_receive_67 : decode cX3_receive 67 = .ok (.iload_n 2, 1) := by decide +kernel
theorem dX3_receive_68 : decode cX3_receive 68 = .ok (.iadd, 1) := by decide +kernel
theorem dX3_receive_69 : decode cX3_receive 69 = .ok (.iastore, 1) := by decide +kernel
theorem dX3_receive_70 : decode cX3_receive 70 = .ok (.aload_n 0, 1) := by decide +kernel
theorem dX3_receive_71 : decode cX3_receive 71 = .ok (.getfield 28, 3) := by decide +kernel
theorem dX3_receive_74 : decode cX3_receive 74 = .ok (.iload_n 1, 1) := by decide +kernel
theorem dX3_receive_75 : decode cX3_receive 75 = .ok (.aload_n 0, 1) := by decide +kernel
theorem dX3_receive_76 : decode cX3_receive 76 = .ok (.getfield 15, 3) := by decide +kernel
theorem dX3_receive_79 : decode cX3_receive 79 = .ok (.iastore, 1) := by decide +kernel
theorem dX3_receive_80 : decode cX3_receive 80 = .ok (.aload_n 0, 1) := by decide +kernel
theorem dX3_receive_81 : decode cX3_receive 81 = .ok (.dup, 1) := by decide +kernel
theorem dX3_receive_82 : decode cX3_receive 82 = .ok (.getfield 21, 3) := by decide +kernel
theorem dX3_receive_85 : decode cX3_receive 85 = .ok (.iconst 1, 1) := by decide +kernel
theorem dX3_receive_86 : decode cX3_receive 86 = .ok (.iload_n 1, 1) := by decide +kernel
theorem dX3_receive_87 : decode cX3_receive 87 = .ok (.ishl, 1) := by decide +kernel
theorem dX3_receive_88 : decode cX3_receive 88 = .ok (.ior, 1) := by decide +kernel
theorem dX3_receive_89 : decode cX3_receive 89 = .ok (.putfield 21, 3) := by decide +kernel
theorem dX3_receive_92 : decode cX3_receive 92 = .ok (.aload_n 0, 1) := by decide +kernel
theorem dX3_receive_93 : decode cX3_receive 93 = .ok (.getfield 31, 3) := by decide +kernel
theorem dX3_receive_96 : decode cX3_receive 96 = .ok (.iload_n 1, 1) := by decide +kernel
theorem dX3_receive_97 : decode cX3_receive 97 = .ok (.iload_n 3, 1) := by decide +kernel
theorem dX3_receive_98 : decode cX3_receive 98 = .ok (.iastore, 1) := by decide +kernel
theorem dX3_receive_99 : decode cX3_receive 99 = .ok (.iload 4, 2) := by decide +kernel
theorem dX3_receive_101 : decode cX3_receive 101 = .ok (.ireturn, 1) := by decide +kernel
theorem dX3_nextEvicted_0 : decode cX3_nextEvicted 0 = .ok (.iconst (-1), 1) := by decide +kernel
theorem dX3_nextEvicted_1 : decode cX3_nextEvicted 1 = .ok (.istore_n 1, 1) := by decide +kernel
theorem dX3_nextEvicted_2 : decode cX3_nextEvicted 2 = .ok (.iconst 0, 1) := by decide +kernel
theorem dX3_nextEvicted_3 : decode cX3_nextEvicted 3 = .ok (.istore_n 2, 1) := by decide +kernel
theorem dX3_nextEvicted_4 : decode cX3_nextEvicted 4 = .ok (.iload_n 2, 1) := by decide +kernel
theorem dX3_nextEvicted_5 : decode cX3_nextEvicted 5 = .ok (.bipush 26, 2) := by decide +kernel
theorem dX3_nextEvicted_7 : decode cX3_nextEvicted 7 = .ok (.if_icmp .ge 33, 3) := by decide +kernel
theorem dX3_nextEvicted_10 : decode cX3_nextEvicted 10 = .ok (.aload_n 0, 1) := by decide +kernel
theorem dX3_nextEvicted_11 : decode cX3_nextEvicted 11 = .ok (.iload_n 2, 1) := by decide +kernel
theorem dX3_nextEvicted_12 : decode cX3_nextEvicted 12 = .ok (.invokevirtual 43, 3) := by decide +kernel
theorem dX3_nextEvicted_15 : decode cX3_nextEvicted 15 = .ok (.ifCond .eq 19, 3) := by decide +kernel
theorem dX3_nextEvicted_18 : decode cX3_nextEvicted 18 = .ok (.iload_n 1, 1) := by decide +kernel
theorem dX3_nextEvicted_19 : decode cX3_nextEvicted 19 = .ok (.iconst (-1), 1) := by decide +kernel
theorem dX3_nextEvicted_20 : decode cX3_nextEvicted 20 = .ok (.if_icmp .eq 12, 3) := by decide +kernel
theorem dX3_nextEvicted_23 : decode cX3_nextEvicted 23 = .ok (.aload_n 0, 1) := by decide +kernel
theorem dX3_nextEvicted_24 : decode cX3_nextEvicted 24 = .ok (.iload_n 2, 1) := by decide +kernel
theorem dX3_nextEvicted_25 : decode cX3_nextEvicted 25 = .ok (.iload_n 1, 1) := by decide +kernel
theorem dX3_nextEvicted_26 : decode cX3_nextEvicted 26 = .ok (.invokevirtual 57, 3) := by decide +kernel
theorem dX3_nextEvicted_29 : decode cX3_nextEvicted 29 = .ok (.ifCond .eq 5, 3) := by decide +kernel
theorem dX3_nextEvicted_32 : decode cX3_nextEvicted 32 = .ok (.iload_n 2, 1) := by decide +kernel
theorem dX3_nextEvicted_33 : decode cX3_nextEvicted 33 = .ok (.istore_n 1, 1) := by decide +kernel
theorem dX3_nextEvicted_34 : decode cX3_nextEvicted 34 = .ok (.iinc 2 1, 3) := by decide +kernel
theorem dX3_nextEvicted_37 : decode cX3_nextEvicted 37 = .ok (.goto (-33), 3) := by decide +kernel
theorem dX3_nextEvicted_40 : decode cX3_nextEvicted 40 = .ok (.iload_n 1, 1) := by decide +kernel
theorem dX3_nextEvicted_41 : decode cX3_nextEvicted 41 = .ok (.ireturn, 1) := by decide +kernel
theorem dX3_goesBefore_0 : decode cX3_goesBefore 0 = .ok (.aload_n 0, 1) := by decide +kernel
theorem dX3_goesBefore_1 : decode cX3_goesBefore 1 = .ok (.getfield 24, 3) := by decide +kernel
theorem dX3_goesBefore_4 : decode cX3_goesBefore 4 = .ok (.iload_n 1, 1) := by decide +kernel
theorem dX3_goesBefore_5 : decode cX3_goesBefore 5 = .ok (.iaload, 1) := by decide +kernel
theorem dX3_goesBefore_6 : decode cX3_goesBefore 6 = .ok (.aload_n 0, 1) := by decide +kernel
theorem dX3_goesBefore_7 : decode cX3_goesBefore 7 = .ok (.getfield 24, 3) := by decide +kernel
theorem dX3_goesBefore_10 : decode cX3_goesBefore 10 = .ok (.iload_n 2, 1) := by decide +kernel
theorem dX3_goesBefore_11 : decode cX3_goesBefore 11 = .ok (.iaload, 1) := by decide +kernel
theorem dX3_goesBefore_12 : decode cX3_goesBefore 12 = .ok (.if_icmp .lt 33, 3) := by decide +kernel
theorem dX3_goesBefore_15 : decode cX3_goesBefore 15 = .ok (.aload_n 0, 1) := by decide +kernel
theorem dX3_goesBefore_16 : decode cX3_goesBefore 16 = .ok (.getfield 24, 3) := by decide +kernel
theorem dX3_goesBefore_19 : decode cX3_goesBefore 19 = .ok (.iload_n 1, 1) := by decide +kernel
theorem dX3_goesBefore_20 : decode cX3_goesBefore 20 = .ok (.iaload, 1) := by decide +kernel
theorem dX3_goesBefore_21 : decode cX3_goesBefore 21 = .ok (.aload_n 0, 1) := by decide +kernel
theorem dX3_goesBefore_22 : decode cX3_goesBefore 22 = .ok (.getfield 24, 3) := by decide +kernel
theorem dX3_goesBefore_25 : decode cX3_goesBefore 25 = .ok (.iload_n 2, 1) := by decide +kernel
theorem dX3_goesBefore_26 : decode cX3_goesBefore 26 = .ok (.iaload, 1) := by decide +kernel
theorem dX3_goesBefore_27 : decode cX3_goesBefore 27 = .ok (.if_icmp .ne 22, 3) := by decide +kernel
theorem dX3_goesBefore_30 : decode cX3_goesBefore 30 = .ok (.aload_n 0, 1) := by decide +kernel
theorem dX3_goesBefore_31 : decode cX3_goesBefore 31 = .ok (.getfield 31, 3) := by decide +kernel
theorem dX3_goesBefore_34 : decode cX3_goesBefore 34 = .ok (.iload_n 1, 1) := by decide +kernel
theorem dX3_goesBefore_35 : decode cX3_goesBefore 35 = .ok (.iaload, 1) := by decide +kernel
theorem dX3_goesBefore_36 : decode cX3_goesBefore 36 = .ok (.aload_n 0, 1) := by decide +kernel
theorem dX3_goesBefore_37 : decode cX3_goesBefore 37 = .ok (.getfield 31, 3) := by decide +kernel
theorem dX3_goesBefore_40 : decode cX3_goesBefore 40 = .ok (.iload_n 2, 1) := by decide +kernel
theorem dX3_goesBefore_41 : decode cX3_goesBefore 41 = .ok (.iaload, 1) := by decide +kernel
theorem dX3_goesBefore_42 : decode cX3_goesBefore 42 = .ok (.if_icmp .ge 7, 3) := by decide +kernel
theorem dX3_goesBefore_45 : decode cX3_goesBefore 45 = .ok (.iconst 1, 1) := by decide +kernel
theorem dX3_goesBefore_46 : decode cX3_goesBefore 46 = .ok (.goto 4, 3) := by decide +kernel
theorem dX3_goesBefore_49 : decode cX3_goesBefore 49 = .ok (.iconst 0, 1) := by decide +kernel
theorem dX3_goesBefore_50 : decode cX3_goesBefore 50 = .ok (.ireturn, 1) := by decide +kernel
theorem dX3_evictNext_0 : decode cX3_evictNext 0 = .ok (.aload_n 0, 1) := by decide +kernel
theorem dX3_evictNext_1 : decode cX3_evictNext 1 = .ok (.invokevirtual 61, 3) := by decide +kernel
theorem dX3_evictNext_4 : decode cX3_evictNext 4 = .ok (.istore_n 1, 1) := by decide +kernel
theorem dX3_evictNext_5 : decode cX3_evictNext 5 = .ok (.iload_n 1, 1) := by decide +kernel
theorem dX3_evictNext_6 : decode cX3_evictNext 6 = .ok (.iconst (-1), 1) := by decide +kernel
theorem dX3_evictNext_7 : decode cX3_evictNext 7 = .ok (.if_icmp .eq 8, 3) := by decide +kernel
theorem dX3_evictNext_10 : decode cX3_evictNext 10 = .ok (.aload_n 0, 1) := by decide +kernel
theorem dX3_evictNext_11 : decode cX3_evictNext 11 = .ok (.iload_n 1, 1) := by decide +kernel
theorem dX3_evictNext_12 : decode cX3_evictNext 12 = .ok (.invokevirtual 64, 3) := by decide +kernel
theorem dX3_evictNext_15 : decode cX3_evictNext 15 = .ok (.iload_n 1, 1) := by decide +kernel
theorem dX3_evictNext_16 : decode cX3_evictNext 16 = .ok (.ireturn, 1) := by decide +kernel
theorem dX3_takeCounter_0 : decode cX3_takeCounter 0 = .ok (.aload_n 0, 1) := by decide +kernel
theorem dX3_takeCounter_1 : decode cX3_takeCounter 1 = .ok (.aload_n 0, 1) := by decide +kernel
theorem dX3_takeCounter_2 : decode cX3_takeCounter 2 = .ok (.getfield 15, 3) := by decide +kernel
theorem dX3_takeCounter_5 : decode cX3_takeCounter 5 = .ok (.aload_n 0, 1) := by decide +kernel
theorem dX3_takeCounter_6 : decode cX3_takeCounter 6 = .ok (.getfield 24, 3) := by decide +kernel
theorem dX3_takeCounter_9 : decode cX3_takeCounter 9 = .ok (.iload_n 1, 1) := by decide +kernel
theorem dX3_takeCounter_10 : decode cX3_takeCounter 10 = .ok (.iaload, 1) := by decide +kernel
theorem dX3_takeCounter_11 : decode cX3_takeCounter 11 = .ok (.invokestatic 68, 3) := by decide +kernel
theorem dX3_takeCounter_14 : decode cX3_takeCounter 14 = .ok (.putfield 15, 3) := by decide +kernel
theorem dX3_takeCounter_17 : decode cX3_takeCounter 17 = .ok (.aload_n 0, 1) := by decide +kernel
theorem dX3_takeCounter_18 : decode cX3_takeCounter 18 = .ok (.dup, 1) := by decide +kernel
theorem dX3_takeCounter_19 : decode cX3_takeCounter 19 = .ok (.getfield 21, 3) := by decide +kernel
theorem dX3_takeCounter_22 : decode cX3_takeCounter 22 = .ok (.iconst 1, 1) := by decide +kernel
theorem dX3_takeCounter_23 : decode cX3_takeCounter 23 = .ok (.iload_n 1, 1) := by decide +kernel
theorem dX3_takeCounter_24 : decode cX3_takeCounter 24 = .ok (.ishl, 1) := by decide +kernel
theorem dX3_takeCounter_25 : decode cX3_takeCounter 25 = .ok (.iconst (-1), 1) := by decide +kernel
theorem dX3_takeCounter_26 : decode cX3_takeCounter 26 = .ok (.ixor, 1) := by decide +kernel
theorem dX3_takeCounter_27 : decode cX3_takeCounter 27 = .ok (.iand, 1) := by decide +kernel
theorem dX3_takeCounter_28 : decode cX3_takeCounter 28 = .ok (.putfield 21, 3) := by decide +kernel
theorem dX3_takeCounter_31 : decode cX3_takeCounter 31 = .ok (.return_, 1) := by decide +kernel
theorem dX3_absorb_0 : decode cX3_absorb 0 = .ok (.aload_n 0, 1) := by decide +kernel
theorem dX3_absorb_1 : decode cX3_absorb 1 = .ok (.getfield 21, 3) := by decide +kernel
theorem dX3_absorb_4 : decode cX3_absorb 4 = .ok (.aload_n 1, 1) := by decide +kernel
theorem dX3_absorb_5 : decode cX3_absorb 5 = .ok (.getfield 21, 3) := by decide +kernel
theorem dX3_absorb_8 : decode cX3_absorb 8 = .ok (.ior, 1) := by decide +kernel
theorem dX3_absorb_9 : decode cX3_absorb 9 = .ok (.istore_n 3, 1) := by decide +kernel
theorem dX3_absorb_10 : decode cX3_absorb 10 = .ok (.iconst 0, 1) := by decide +kernel
theorem dX3_absorb_11 : decode cX3_absorb 11 = .ok (.istore 4, 2) := by decide +kernel
theorem dX3_absorb_13 : decode cX3_absorb 13 = .ok (.iload 4, 2) := by decide +kernel
theorem dX3_absorb_15 : decode cX3_absorb 15 = .ok (.bipush 26, 2) := by decide +kernel
theorem dX3_absorb_17 : decode cX3_absorb 17 = .ok (.if_icmp .ge 91, 3) := by decide +kernel
theorem dX3_absorb_20 : decode cX3_absorb 20 = .ok (.iload_n 3, 1) := by decide +kernel
theorem dX3_absorb_21 : decode cX3_absorb 21 = .ok (.iload 4, 2) := by decide +kernel
theorem dX3_absorb_23 : decode cX3_absorb 23 = .ok (.ishr, 1) := by decide +kernel
theorem dX3_absorb_24 : decode cX3_absorb 24 = .ok (.iconst 1, 1) := by decide +kernel
theorem dX3_absorb_25 : decode cX3_absorb 25 = .ok (.iand, 1) := by decide +kernel
theorem dX3_absorb_26 : decode cX3_absorb 26 = .ok (.ifCond .eq 59, 3) := by decide +kernel
theorem dX3_absorb_29 : decode cX3_absorb 29 = .ok (.aload_n 0, 1) := by decide +kernel
theorem dX3_absorb_30 : decode cX3_absorb 30 = .ok (.iload 4, 2) := by decide +kernel
theorem dX3_absorb_32 : decode cX3_absorb 32 = .ok (.invokevirtual 74, 3) := by decide +kernel
theorem dX3_absorb_35 : decode cX3_absorb 35 = .ok (.aload_n 1, 1) := by decide +kernel
theorem dX3_absorb_36 : decode cX3_absorb 36 = .ok (.iload 4, 2) := by decide +kernel
theorem dX3_absorb_38 : decode cX3_absorb 38 = .ok (.invokevirtual 74, 3) := by decide +kernel
theorem dX3_absorb_41 : decode cX3_absorb 41 = .ok (.iadd, 1) := by decide +kernel
theorem dX3_absorb_42 : decode cX3_absorb 42 = .ok (.istore 5, 2) := by decide +kernel
theorem dX3_absorb_44 : decode cX3_absorb 44 = .ok (.aload_n 0, 1) := by decide +kernel
theorem dX3_absorb_45 : decode cX3_absorb 45 = .ok (.iload 4, 2) := by decide +kernel
theorem dX3_absorb_47 : decode cX3_absorb 47 = .ok (.invokevirtual 77, 3) := by decide +kernel
theorem dX3_absorb_50 : decode cX3_absorb 50 = .ok (.aload_n 1, 1) := by decide +kernel
theorem dX3_absorb_51 : decode cX3_absorb 51 = .ok (.iload 4, 2) := by decide +kernel
theorem dX3_absorb_53 : decode cX3_absorb 53 = .ok (.invokevirtual 77, 3) := by decide +kernel
theorem dX3_absorb_56 : decode cX3_absorb 56 = .ok (.iadd, 1) := by decide +kernel
theorem dX3_absorb_57 : decode cX3_absorb 57 = .ok (.istore 6, 2) := by decide +kernel
theorem dX3_absorb_59 : decode cX3_absorb 59 = .ok (.aload_n 0, 1) := by decide +kernel
theorem dX3_absorb_60 : decode cX3_absorb 60 = .ok (.getfield 24, 3) := by decide +kernel
theorem dX3_absorb_63 : decode cX3_absorb 63 = .ok (.iload 4, 2) := by decide +kernel
theorem dX3_absorb_65 : decode cX3_absorb 65 = .ok (.iload 5, 2) := by decide +kernel
theorem dX3_absorb_67 : decode cX3_absorb 67 = .ok (.iastore, 1) := by decide +kernel
theorem dX3_absorb_68 : decode cX3_absorb 68 = .ok (.aload_n 0, 1) := by decide +kernel
theorem dX3_absorb_69 : decode cX3_absorb 69 = .ok (.getfield 28, 3) := by decide +kernel
theorem dX3_absorb_72 : decode cX3_absorb 72 = .ok (.iload 4, 2) := by decide +kernel
theorem dX3_absorb_74 : decode cX3_absorb 74 = .ok (.iload 6, 2) := by decide +kernel
theorem dX3_absorb_76 : decode cX3_absorb 76 = .ok (.iastore, 1) := by decide +kernel
theorem dX3_absorb_77 : decode cX3_absorb 77 = .ok (.aload_n 0, 1) := by decide +kernel
theorem dX3_absorb_78 : decode cX3_absorb 78 = .ok (.getfield 31, 3) := by decide +kernel
theorem dX3_absorb_81 : decode cX3_absorb 81 = .ok (.iload 4, 2) := by decide +kernel
theorem dX3_absorb_83 : decode cX3_absorb 83 = .ok (.iload_n 2, 1) := by decide +kernel
theorem dX3_absorb_84 : decode cX3_absorb 84 = .ok (.iastore, 1) := by decide +kernel
theorem dX3_absorb_85 : decode cX3_absorb 85 = .ok (.aload_n 0, 1) := by decide +kernel
theorem dX3_absorb_86 : decode cX3_absorb 86 = .ok (.getfield 34, 3) := by decide +kernel
theorem dX3_absorb_89 : decode cX3_absorb 89 = .ok (.iload 4, 2) := by decide +kernel
theorem dX3_absorb_91 : decode cX3_absorb 91 = .ok (.dup2, 1) := by decide +kernel
theorem dX3_absorb_92 : decode cX3_absorb 92 = .ok (.iaload, 1) := by decide +kernel
theorem dX3_absorb_93 : decode cX3_absorb 93 = .ok (.aload_n 1, 1) := by decide +kernel
theorem dX3_absorb_94 : decode cX3_absorb 94 = .ok (.getfield 34, 3) := by decide +kernel
theorem dX3_absorb_97 : decode cX3_absorb 97 = .ok (.iload 4, 2) := by decide +kernel
theorem dX3_absorb_99 : decode cX3_absorb 99 = .ok (.iaload, 1) := by decide +kernel
theorem dX3_absorb_100 : decode cX3_absorb 100 = .ok (.iadd, 1) := by decide +kernel
theorem dX3_absorb_101 : decode cX3_absorb 101 = .ok (.iastore, 1) := by decide +kernel
theorem dX3_absorb_102 : decode cX3_absorb 102 = .ok (.iinc 4 1, 3) := by decide +kernel
theorem dX3_absorb_105 : decode cX3_absorb 105 = .ok (.goto (-92), 3) := by decide +kernel
theorem dX3_absorb_108 : decode cX3_absorb 108 = .ok (.aload_n 0, 1) := by decide +kernel
theorem dX3_absorb_109 : decode cX3_absorb 109 = .ok (.iload_n 3, 1) := by decide +kernel
theorem dX3_absorb_110 : decode cX3_absorb 110 = .ok (.putfield 21, 3) := by decide +kernel
theorem dX3_absorb_113 : decode cX3_absorb 113 = .ok (.aload_n 0, 1) := by decide +kernel
theorem dX3_absorb_114 : decode cX3_absorb 114 = .ok (.dup, 1) := by decide +kernel
theorem dX3_absorb_115 : decode cX3_absorb 115 = .ok (.getfield 15, 3) := by decide +kernel
theorem dX3_absorb_118 : decode cX3_absorb 118 = .ok (.aload_n 1, 1) := by decide +kernel
theorem dX3_absorb_119 : decode cX3_absorb 119 = .ok (.getfield 15, 3) := by decide +kernel
theorem dX3_absorb_122 : decode cX3_absorb 122 = .ok (.iadd, 1) := by decide +kernel
theorem dX3_absorb_123 : decode cX3_absorb 123 = .ok (.putfield 15, 3) := by decide +kernel
theorem dX3_absorb_126 : decode cX3_absorb 126 = .ok (.aload_n 0, 1) := by decide +kernel
theorem dX3_absorb_127 : decode cX3_absorb 127 = .ok (.dup, 1) := by decide +kernel
theorem dX3_absorb_128 : decode cX3_absorb 128 = .ok (.getfield 18, 3) := by decide +kernel
theorem dX3_absorb_131 : decode cX3_absorb 131 = .ok (.aload_n 1, 1) := by decide +kernel
theorem dX3_absorb_132 : decode cX3_absorb 132 = .ok (.getfield 18, 3) := by decide +kernel
theorem dX3_absorb_135 : decode cX3_absorb 135 = .ok (.iadd, 1) := by decide +kernel
theorem dX3_absorb_136 : decode cX3_absorb 136 = .ok (.putfield 18, 3) := by decide +kernel
theorem dX3_absorb_139 : decode cX3_absorb 139 = .ok (.aload_n 0, 1) := by decide +kernel
theorem dX3_absorb_140 : decode cX3_absorb 140 = .ok (.invokevirtual 80, 3) := by decide +kernel
theorem dX3_absorb_143 : decode cX3_absorb 143 = .ok (.ireturn, 1) := by decide +kernel
theorem dX3_leaveOut_0 : decode cX3_leaveOut 0 = .ok (.iconst 0, 1) := by decide +kernel
theorem dX3_leaveOut_1 : decode cX3_leaveOut 1 = .ok (.istore_n 1, 1) := by decide +kernel
theorem dX3_leaveOut_2 : decode cX3_leaveOut 2 = .ok (.iconst 0, 1) := by decide +kernel
theorem dX3_leaveOut_3 : decode cX3_leaveOut 3 = .ok (.istore_n 2, 1) := by decide +kernel
theorem dX3_leaveOut_4 : decode cX3_leaveOut 4 = .ok (.iload_n 2, 1) := by decide +kernel
theorem dX3_leaveOut_5 : decode cX3_leaveOut 5 = .ok (.bipush 26, 2) := by decide +kernel
theorem dX3_leaveOut_7 : decode cX3_leaveOut 7 = .ok (.if_icmp .ge 38, 3) := by decide +kernel
theorem dX3_leaveOut_10 : decode cX3_leaveOut 10 = .ok (.aload_n 0, 1) := by decide +kernel
theorem dX3_leaveOut_11 : decode cX3_leaveOut 11 = .ok (.invokevirtual 47, 3) := by decide +kernel
theorem dX3_leaveOut_14 : decode cX3_leaveOut 14 = .ok (.aload_n 0, 1) := by decide +kernel
theorem dX3_leaveOut_15 : decode cX3_leaveOut 15 = .ok (.getfield 9, 3) := by decide +kernel
theorem dX3_leaveOut_18 : decode cX3_leaveOut 18 = .ok (.if_icmp .le 27, 3) := by decide +kernel
theorem dX3_leaveOut_21 : decode cX3_leaveOut 21 = .ok (.aload_n 0, 1) := by decide +kernel
theorem dX3_leaveOut_22 : decode cX3_leaveOut 22 = .ok (.invokevirtual 83, 3) := by decide +kernel
theorem dX3_leaveOut_25 : decode cX3_leaveOut 25 = .ok (.istore_n 3, 1) := by decide +kernel
theorem dX3_leaveOut_26 : decode cX3_leaveOut 26 = .ok (.iload_n 3, 1) := by decide +kernel
theorem dX3_leaveOut_27 : decode cX3_leaveOut 27 = .ok (.iconst (-1), 1) := by decide +kernel
theorem dX3_leaveOut_28 : decode cX3_leaveOut 28 = .ok (.if_icmp .eq 11, 3) := by decide +kernel
theorem dX3_leaveOut_31 : decode cX3_leaveOut 31 = .ok (.aload_n 0, 1) := by decide +kernel
theorem dX3_leaveOut_32 : decode cX3_leaveOut 32 = .ok (.iload_n 3, 1) := by decide +kernel
theorem dX3_leaveOut_33 : decode cX3_leaveOut 33 = .ok (.invokevirtual 64, 3) := by decide +kernel
theorem dX3_leaveOut_36 : decode cX3_leaveOut 36 = .ok (.iinc 1 1, 3) := by decide +kernel
theorem dX3_leaveOut_39 : decode cX3_leaveOut 39 = .ok (.iinc 2 1, 3) := by decide +kernel
theorem dX3_leaveOut_42 : decode cX3_leaveOut 42 = .ok (.goto (-38), 3) := by decide +kernel
theorem dX3_leaveOut_45 : decode cX3_leaveOut 45 = .ok (.iload_n 1, 1) := by decide +kernel
theorem dX3_leaveOut_46 : decode cX3_leaveOut 46 = .ok (.ireturn, 1) := by decide +kernel
theorem dX3_nextLeftOut_0 : decode cX3_nextLeftOut 0 = .ok (.iconst (-1), 1) := by decide +kernel
theorem dX3_nextLeftOut_1 : decode cX3_nextLeftOut 1 = .ok (.istore_n 1, 1) := by decide +kernel
theorem dX3_nextLeftOut_2 : decode cX3_nextLeftOut 2 = .ok (.iconst 0, 1) := by decide +kernel
theorem dX3_nextLeftOut_3 : decode cX3_nextLeftOut 3 = .ok (.istore_n 2, 1) := by decide +kernel
theorem dX3_nextLeftOut_4 : decode cX3_nextLeftOut 4 = .ok (.iload_n 2, 1) := by decide +kernel
theorem dX3_nextLeftOut_5 : decode cX3_nextLeftOut 5 = .ok (.bipush 26, 2) := by decide +kernel
theorem dX3_nextLeftOut_7 : decode cX3_nextLeftOut 7 = .ok (.if_icmp .ge 39, 3) := by decide +kernel
theorem dX3_nextLeftOut_10 : decode cX3_nextLeftOut 10 = .ok (.aload_n 0, 1) := by decide +kernel
theorem dX3_nextLeftOut_11 : decode cX3_nextLeftOut 11 = .ok (.iload_n 2, 1) := by decide +kernel
theorem dX3_nextLeftOut_12 : decode cX3_nextLeftOut 12 = .ok (.invokevirtual 43, 3) := by decide +kernel
theorem dX3_nextLeftOut_15 : decode cX3_nextLeftOut 15 = .ok (.ifCond .eq 25, 3) := by decide +kernel
theorem dX3_nextLeftOut_18 : decode cX3_nextLeftOut 18 = .ok (.iload_n 1, 1) := by decide +kernel
theorem dX3_nextLeftOut_19 : decode cX3_nextLeftOut 19 = .ok (.iconst (-1), 1) := by decide +kernel
theorem dX3_nextLeftOut_20 : decode cX3_nextLeftOut 20 = .ok (.if_icmp .eq 18, 3) := by decide +kernel
theorem dX3_nextLeftOut_23 : decode cX3_nextLeftOut 23 = .ok (.aload_n 0, 1) := by decide +kernel
theorem dX3_nextLeftOut_24 : decode cX3_nextLeftOut 24 = .ok (.getfield 24, 3) := by decide +kernel
theorem dX3_nextLeftOut_27 : decode cX3_nextLeftOut 27 = .ok (.iload_n 2, 1) := by decide +kernel
theorem dX3_nextLeftOut_28 : decode cX3_nextLeftOut 28 = .ok (.iaload, 1) := by decide +kernel
theorem dX3_nextLeftOut_29 : decode cX3_nextLeftOut 29 = .ok (.aload_n 0, 1) := by decide +kernel
theorem dX3_nextLeftOut_30 : decode cX3_nextLeftOut 30 = .ok (.getfield 24, 3) := by decide +kernel
theorem dX3_nextLeftOut_33 : decode cX3_nextLeftOut 33 = .ok (.iload_n 1, 1) := by decide +kernel
theorem dX3_nextLeftOut_34 : decode cX3_nextLeftOut 34 = .ok (.iaload, 1) := by decide +kernel
theorem dX3_nextLeftOut_35 : decode cX3_nextLeftOut 35 = .ok (.if_icmp .gt 5, 3) := by decide +kernel
theorem dX3_nextLeftOut_38 : decode cX3_nextLeftOut 38 = .ok (.iload_n 2, 1) := by decide +kernel
theorem dX3_nextLeftOut_39 : decode cX3_nextLeftOut 39 = .ok (.istore_n 1, 1) := by decide +kernel
theorem dX3_nextLeftOut_40 : decode cX3_nextLeftOut 40 = .ok (.iinc 2 1, 3) := by decide +kernel
theorem dX3_nextLeftOut_43 : decode cX3_nextLeftOut 43 = .ok (.goto (-39), 3) := by decide +kernel
theorem dX3_nextLeftOut_46 : decode cX3_nextLeftOut 46 = .ok (.iload_n 1, 1) := by decide +kernel
theorem dX3_nextLeftOut_47 : decode cX3_nextLeftOut 47 = .ok (.ireturn, 1) := by decide +kernel
theorem dX3_become_0 : decode cX3_become 0 = .ok (.aload_n 0, 1) := by decide +kernel
theorem dX3_become_1 : decode cX3_become 1 = .ok (.aload_n 1, 1) := by decide +kernel
theorem dX3_become_2 : decode cX3_become 2 = .ok (.getfield 9, 3) := by decide +kernel
theorem dX3_become_5 : decode cX3_become 5 = .ok (.putfield 9, 3) := by decide +kernel
theorem dX3_become_8 : decode cX3_become 8 = .ok (.aload_n 0, 1) := by decide +kernel
theorem dX3_become_9 : decode cX3_become 9 = .ok (.aload_n 1, 1) := by decide +kernel
theorem dX3_become_10 : decode cX3_become 10 = .ok (.getfield 15, 3) := by decide +kernel
theorem dX3_become_13 : decode cX3_become 13 = .ok (.putfield 15, 3) := by decide +kernel
theorem dX3_become_16 : decode cX3_become 16 = .ok (.aload_n 0, 1) := by decide +kernel
theorem dX3_become_17 : decode cX3_become 17 = .ok (.aload_n 1, 1) := by decide +kernel
theorem dX3_become_18 : decode cX3_become 18 = .ok (.getfield 18, 3) := by decide +kernel
theorem dX3_become_21 : decode cX3_become 21 = .ok (.putfield 18, 3) := by decide +kernel
theorem dX3_become_24 : decode cX3_become 24 = .ok (.aload_n 0, 1) := by decide +kernel
theorem dX3_become_25 : decode cX3_become 25 = .ok (.aload_n 1, 1) := by decide +kernel
theorem dX3_become_26 : decode cX3_become 26 = .ok (.getfield 21, 3) := by decide +kernel
theorem dX3_become_29 : decode cX3_become 29 = .ok (.putfield 21, 3) := by decide +kernel
theorem dX3_become_32 : decode cX3_become 32 = .ok (.aload_n 1, 1) := by decide +kernel
theorem dX3_become_33 : decode cX3_become 33 = .ok (.getfield 24, 3) := by decide +kernel
theorem dX3_become_36 : decode cX3_become 36 = .ok (.iconst 0, 1) := by decide +kernel
theorem dX3_become_37 : decode cX3_become 37 = .ok (.aload_n 0, 1) := by decide +kernel
theorem dX3_become_38 : decode cX3_become 38 = .ok (.getfield 24, 3) := by decide +kernel
theorem dX3_become_41 : decode cX3_become 41 = .ok (.iconst 0, 1) := by decide +kernel
theorem dX3_become_42 : decode cX3_become 42 = .ok (.bipush 26, 2) := by decide +kernel
theorem dX3_become_44 : decode cX3_become 44 = .ok (.invokestatic 86, 3) := by decide +kernel
theorem dX3_become_47 : decode cX3_become 47 = .ok (.aload_n 1, 1) := by decide +kernel
theorem dX3_become_48 : decode cX3_become 48 = .ok (.getfield 28, 3) := by decide +kernel
theorem dX3_become_51 : decode cX3_become 51 = .ok (.iconst 0, 1) := by decide +kernel
theorem dX3_become_52 : decode cX3_become 52 = .ok (.aload_n 0, 1) := by decide +kernel
theorem dX3_become_53 : decode cX3_become 53 = .ok (.getfield 28, 3) := by decide +kernel
theorem dX3_become_56 : decode cX3_become 56 = .ok (.iconst 0, 1) := by decide +kernel
theorem dX3_become_57 : decode cX3_become 57 = .ok (.bipush 26, 2) := by decide +kernel
theorem dX3_become_59 : decode cX3_become 59 = .ok (.invokestatic 86, 3) := by decide +kernel
theorem dX3_become_62 : decode cX3_become 62 = .ok (.aload_n 1, 1) := by decide +kernel
theorem dX3_become_63 : decode cX3_become 63 = .ok (.getfield 31, 3) := by decide +kernel
theorem dX3_become_66 : decode cX3_become 66 = .ok (.iconst 0, 1) := by decide +kernel
theorem dX3_become_67 : decode cX3_become 67 = .ok (.aload_n 0, 1) := by decide +kernel
theorem dX3_become_68 : decode cX3_become 68 = .ok (.getfield 31, 3) := by decide +kernel
theorem dX3_become_71 : decode cX3_become 71 = .ok (.iconst 0, 1) := by decide +kernel
theorem dX3_become_72 : decode cX3_become 72 = .ok (.bipush 26, 2) := by decide +kernel
theorem dX3_become_74 : decode cX3_become 74 = .ok (.invokestatic 86, 3) := by decide +kernel
theorem dX3_become_77 : decode cX3_become 77 = .ok (.aload_n 1, 1) := by decide +kernel
theorem dX3_become_78 : decode cX3_become 78 = .ok (.getfield 34, 3) := by decide +kernel
theorem dX3_become_81 : decode cX3_become 81 = .ok (.iconst 0, 1) := by decide +kernel
theorem dX3_become_82 : decode cX3_become 82 = .ok (.aload_n 0, 1) := by decide +kernel
theorem dX3_become_83 : decode cX3_become 83 = .ok (.getfield 34, 3) := by decide +kernel
theorem dX3_become_86 : decode cX3_become 86 = .ok (.iconst 0, 1) := by decide +kernel
theorem dX3_become_87 : decode cX3_become 87 = .ok (.bipush 26, 2) := by decide +kernel
theorem dX3_become_89 : decode cX3_become 89 = .ok (.invokestatic 86, 3) := by decide +kernel
theorem dX3_become_92 : decode cX3_become 92 = .ok (.return_, 1) := by decide +kernel
theorem dX3_wipe_0 : decode cX3_wipe 0 = .ok (.aload_n 0, 1) := by decide +kernel
theorem dX3_wipe_1 : decode cX3_wipe 1 = .ok (.iconst 0, 1) := by decide +kernel
theorem dX3_wipe_2 : decode cX3_wipe 2 = .ok (.putfield 15, 3) := by decide +kernel
theorem dX3_wipe_5 : decode cX3_wipe 5 = .ok (.aload_n 0, 1) := by decide +kernel
theorem dX3_wipe_6 : decode cX3_wipe 6 = .ok (.iconst 0, 1) := by decide +kernel
theorem dX3_wipe_7 : decode cX3_wipe 7 = .ok (.putfield 18, 3) := by decide +kernel
theorem dX3_wipe_10 : decode cX3_wipe 10 = .ok (.aload_n 0, 1) := by decide +kernel
theorem dX3_wipe_11 : decode cX3_wipe 11 = .ok (.iconst 0, 1) := by decide +kernel
theorem dX3_wipe_12 : decode cX3_wipe 12 = .ok (.putfield 21, 3) := by decide +kernel
theorem dX3_wipe_15 : decode cX3_wipe 15 = .ok (.iconst 0, 1) := by decide +kernel
theorem dX3_wipe_16 : decode cX3_wipe 16 = .ok (.istore_n 1, 1) := by decide +kernel
theorem dX3_wipe_17 : decode cX3_wipe 17 = .ok (.iload_n 1, 1) := by decide +kernel
theorem dX3_wipe_18 : decode cX3_wipe 18 = .ok (.bipush 26, 2) := by decide +kernel
theorem dX3_wipe_20 : decode cX3_wipe 20 = .ok (.if_icmp .ge 16, 3) := by decide +kernel
theorem dX3_wipe_23 : decode cX3_wipe 23 = .ok (.aload_n 0, 1) := by decide +kernel
theorem dX3_wipe_24 : decode cX3_wipe 24 = .ok (.getfield 34, 3) := by decide +kernel
theorem dX3_wipe_27 : decode cX3_wipe 27 = .ok (.iload_n 1, 1) := by decide +kernel
theorem dX3_wipe_28 : decode cX3_wipe 28 = .ok (.iconst 0, 1) := by decide +kernel
theorem dX3_wipe_29 : decode cX3_wipe 29 = .ok (.iastore, 1) := by decide +kernel
theorem dX3_wipe_30 : decode cX3_wipe 30 = .ok (.iinc 1 1, 3) := by decide +kernel
theorem dX3_wipe_33 : decode cX3_wipe 33 = .ok (.goto (-16), 3) := by decide +kernel
theorem dX3_wipe_36 : decode cX3_wipe 36 = .ok (.return_, 1) := by decide +kernel
theorem dX3_greatestSlack_0 : decode cX3_greatestSlack 0 = .ok (.iconst 0, 1) := by decide +kernel
theorem dX3_greatestSlack_1 : decode cX3_greatestSlack 1 = .ok (.istore_n 1, 1) := by decide +kernel
theorem dX3_greatestSlack_2 : decode cX3_greatestSlack 2 = .ok (.iconst 0, 1) := by decide +kernel
theorem dX3_greatestSlack_3 : decode cX3_greatestSlack 3 = .ok (.istore_n 2, 1) := by decide +kernel
theorem dX3_greatestSlack_4 : decode cX3_greatestSlack 4 = .ok (.iload_n 2, 1) := by decide +kernel
theorem dX3_greatestSlack_5 : decode cX3_greatestSlack 5 = .ok (.bipush 26, 2) := by decide +kernel
theorem dX3_greatestSlack_7 : decode cX3_greatestSlack 7 = .ok (.if_icmp .ge 28, 3) := by decide +kernel
theorem dX3_greatestSlack_10 : decode cX3_greatestSlack 10 = .ok (.aload_n 0, 1) := by decide +kernel
theorem dX3_greatestSlack_11 : decode cX3_greatestSlack 11 = .ok (.iload_n 2, 1) := by decide +kernel
theorem dX3_greatestSlack_12 : decode cX3_greatestSlack 12 = .ok (.invokevirtual 43, 3) := by decide +kernel
theorem dX3_greatestSlack_15 : decode cX3_greatestSlack 15 = .ok (.ifCond .eq 14, 3) := by decide +kernel
theorem dX3_greatestSlack_18 : decode cX3_greatestSlack 18 = .ok (.iload_n 1, 1) := by decide +kernel
theorem dX3_greatestSlack_19 : decode cX3_greatestSlack 19 = .ok (.aload_n 0, 1) := by decide +kernel
theorem dX3_greatestSlack_20 : decode cX3_greatestSlack 20 = .ok (.getfield 28, 3) := by decide +kernel
theorem dX3_greatestSlack_23 : decode cX3_greatestSlack 23 = .ok (.iload_n 2, 1) := by decide +kernel
theorem dX3_greatestSlack_24 : decode cX3_greatestSlack 24 = .ok (.iaload, 1) := by decide +kernel
theorem dX3_greatestSlack_25 : decode cX3_greatestSlack 25 = .ok (.invokestatic 68, 3) := by decide +kernel
theorem dX3_greatestSlack_28 : decode cX3_greatestSlack 28 = .ok (.istore_n 1, 1) := by decide +kernel
theorem dX3_greatestSlack_29 : decode cX3_greatestSlack 29 = .ok (.iinc 2 1, 3) := by decide +kernel
theorem dX3_greatestSlack_32 : decode cX3_greatestSlack 32 = .ok (.goto (-28), 3) := by decide +kernel
theorem dX3_greatestSlack_35 : decode cX3_greatestSlack 35 = .ok (.iload_n 1, 1) := by decide +kernel
theorem dX3_greatestSlack_36 : decode cX3_greatestSlack 36 = .ok (.ireturn, 1) := by decide +kernel
theorem dX3_lettersThatCame_0 : decode cX3_lettersThatCame 0 = .ok (.iconst 0, 1) := by decide +kernel
theorem dX3_lettersThatCame_1 : decode cX3_lettersThatCame 1 = .ok (.istore_n 1, 1) := by decide +kernel
theorem dX3_lettersThatCame_2 : decode cX3_lettersThatCame 2 = .ok (.iconst 0, 1) := by decide +kernel
theorem dX3_lettersThatCame_3 : decode cX3_lettersThatCame 3 = .ok (.istore_n 2, 1) := by decide +kernel
theorem dX3_lettersThatCame_4 : decode cX3_lettersThatCame 4 = .ok (.iload_n 2, 1) := by decide +kernel
theorem dX3_lettersThatCame_5 : decode cX3_lettersThatCame 5 = .ok (.bipush 26, 2) := by decide +kernel
theorem dX3_lettersThatCame_7 : decode cX3_lettersThatCame 7 = .ok (.if_icmp .ge 24, 3) := by decide +kernel
theorem dX3_lettersThatCame_10 : decode cX3_lettersThatCame 10 = .ok (.aload_n 0, 1) := by decide +kernel
theorem dX3_lettersThatCame_11 : decode cX3_lettersThatCame 11 = .ok (.getfield 34, 3) := by decide +kernel
theorem dX3_lettersThatCame_14 : decode cX3_lettersThatCame 14 = .ok (.iload_n 2, 1) := by decide +kernel
theorem dX3_lettersThatCame_15 : decode cX3_lettersThatCame 15 = .ok (.iaload, 1) := by decide +kernel
theorem dX3_lettersThatCame_16 : decode cX3_lettersThatCame 16 = .ok (.ifCond .le 9, 3) := by decide +kernel
theorem dX3_lettersThatCame_19 : decode cX3_lettersThatCame 19 = .ok (.iload_n 1, 1) := by decide +kernel
theorem dX3_lettersThatCame_20 : decode cX3_lettersThatCame 20 = .ok (.iconst 1, 1) := by decide +kernel
theorem dX3_lettersThatCame_21 : decode cX3_lettersThatCame 21 = .ok (.iload_n 2, 1) := by decide +kernel
theorem dX3_lettersThatCame_22 : decode cX3_lettersThatCame 22 = .ok (.ishl, 1) := by decide +kernel
theorem dX3_lettersThatCame_23 : decode cX3_lettersThatCame 23 = .ok (.ior, 1) := by decide +kernel
theorem dX3_lettersThatCame_24 : decode cX3_lettersThatCame 24 = .ok (.istore_n 1, 1) := by decide +kernel
theorem dX3_lettersThatCame_25 : decode cX3_lettersThatCame 25 = .ok (.iinc 2 1, 3) := by decide +kernel
theorem dX3_lettersThatCame_28 : decode cX3_lettersThatCame 28 = .ok (.goto (-24), 3) := by decide +kernel
theorem dX3_lettersThatCame_31 : decode cX3_lettersThatCame 31 = .ok (.iload_n 1, 1) := by decide +kernel
theorem dX3_lettersThatCame_32 : decode cX3_lettersThatCame 32 = .ok (.ireturn, 1) := by decide +kernel
theorem dX3_letterAt_0 : decode cX3_letterAt 0 = .ok (.iconst 0, 1) := by decide +kernel
theorem dX3_letterAt_1 : decode cX3_letterAt 1 = .ok (.istore_n 2, 1) := by decide +kernel
theorem dX3_letterAt_2 : decode cX3_letterAt 2 = .ok (.iload_n 2, 1) := by decide +kernel
theorem dX3_letterAt_3 : decode cX3_letterAt 3 = .ok (.bipush 26, 2) := by decide +kernel
theorem dX3_letterAt_5 : decode cX3_letterAt 5 = .ok (.if_icmp .ge 28, 3) := by decide +kernel
theorem dX3_letterAt_8 : decode cX3_letterAt 8 = .ok (.aload_n 0, 1) := by decide +kernel
theorem dX3_letterAt_9 : decode cX3_letterAt 9 = .ok (.iload_n 2, 1) := by decide +kernel
theorem dX3_letterAt_10 : decode cX3_letterAt 10 = .ok (.invokevirtual 43, 3) := by decide +kernel
theorem dX3_letterAt_13 : decode cX3_letterAt 13 = .ok (.ifCond .eq 14, 3) := by decide +kernel
theorem dX3_letterAt_16 : decode cX3_letterAt 16 = .ok (.aload_n 0, 1) := by decide +kernel
theorem dX3_letterAt_17 : decode cX3_letterAt 17 = .ok (.iload_n 2, 1) := by decide +kernel
theorem dX3_letterAt_18 : decode cX3_letterAt 18 = .ok (.invokevirtual 92, 3) := by decide +kernel
theorem dX3_letterAt_21 : decode cX3_letterAt 21 = .ok (.iload_n 1, 1) := by decide +kernel
theorem dX3_letterAt_22 : decode cX3_letterAt 22 = .ok (.if_icmp .ne 5, 3) := by decide +kernel
theorem dX3_letterAt_25 : decode cX3_letterAt 25 = .ok (.iload_n 2, 1) := by decide +kernel
theorem dX3_letterAt_26 : decode cX3_letterAt 26 = .ok (.ireturn, 1) := by decide +kernel
theorem dX3_letterAt_27 : decode cX3_letterAt 27 = .ok (.iinc 2 1, 3) := by decide +kernel
theorem dX3_letterAt_30 : decode cX3_letterAt 30 = .ok (.goto (-28), 3) := by decide +kernel
theorem dX3_letterAt_33 : decode cX3_letterAt 33 = .ok (.iconst (-1), 1) := by decide +kernel
theorem dX3_letterAt_34 : decode cX3_letterAt 34 = .ok (.ireturn, 1) := by decide +kernel
theorem dX3_placeOf_0 : decode cX3_placeOf 0 = .ok (.iconst 0, 1) := by decide +kernel
theorem dX3_placeOf_1 : decode cX3_placeOf 1 = .ok (.istore_n 2, 1) := by decide +kernel
theorem dX3_placeOf_2 : decode cX3_placeOf 2 = .ok (.iconst 0, 1) := by decide +kernel
theorem dX3_placeOf_3 : decode cX3_placeOf 3 = .ok (.istore_n 3, 1) := by decide +kernel
theorem dX3_placeOf_4 : decode cX3_placeOf 4 = .ok (.iload_n 3, 1) := by decide +kernel
theorem dX3_placeOf_5 : decode cX3_placeOf 5 = .ok (.bipush 26, 2) := by decide +kernel
theorem dX3_placeOf_7 : decode cX3_placeOf 7 = .ok (.if_icmp .ge 55, 3) := by decide +kernel
theorem dX3_placeOf_10 : decode cX3_placeOf 10 = .ok (.aload_n 0, 1) := by decide +kernel
theorem dX3_placeOf_11 : decode cX3_placeOf 11 = .ok (.iload_n 3, 1) := by decide +kernel
theorem dX3_placeOf_12 : decode cX3_placeOf 12 = .ok (.invokevirtual 43, 3) := by decide +kernel
theorem dX3_placeOf_15 : decode cX3_placeOf 15 = .ok (.ifCond .eq 41, 3) := by decide +kernel
theorem dX3_placeOf_18 : decode cX3_placeOf 18 = .ok (.aload_n 0, 1) := by decide +kernel
theorem dX3_placeOf_19 : decode cX3_placeOf 19 = .ok (.getfield 24, 3) := by decide +kernel
theorem dX3_placeOf_22 : decode cX3_placeOf 22 = .ok (.iload_n 3, 1) := by decide +kernel
theorem dX3_placeOf_23 : decode cX3_placeOf 23 = .ok (.iaload, 1) := by decide +kernel
theorem dX3_placeOf_24 : decode cX3_placeOf 24 = .ok (.aload_n 0, 1) := by decide +kernel
theorem dX3_placeOf_25 : decode cX3_placeOf 25 = .ok (.getfield 24, 3) := by decide +kernel
theorem dX3_placeOf_28 : decode cX3_placeOf 28 = .ok (.iload_n 1, 1) := by decide +kernel
theorem dX3_placeOf_29 : decode cX3_placeOf 29 = .ok (.iaload, 1) := by decide +kernel
theorem dX3_placeOf_30 : decode cX3_placeOf 30 = .ok (.if_icmp .gt 23, 3) := by decide +kernel
theorem dX3_placeOf_33 : decode cX3_placeOf 33 = .ok (.aload_n 0, 1) := by decide +kernel
theorem dX3_placeOf_34 : decode cX3_placeOf 34 = .ok (.getfield 24, 3) := by decide +kernel
theorem dX3_placeOf_37 : decode cX3_placeOf 37 = .ok (.iload_n 3, 1) := by decide +kernel
theorem dX3_placeOf_38 : decode cX3_placeOf 38 = .ok (.iaload, 1) := by decide +kernel
theorem dX3_placeOf_39 : decode cX3_placeOf 39 = .ok (.aload_n 0, 1) := by decide +kernel
theorem dX3_placeOf_40 : decode cX3_placeOf 40 = .ok (.getfield 24, 3) := by decide +kernel
theorem dX3_placeOf_43 : decode cX3_placeOf 43 = .ok (.iload_n 1, 1) := by decide +kernel
theorem dX3_placeOf_44 : decode cX3_placeOf 44 = .ok (.iaload, 1) := by decide +kernel
theorem dX3_placeOf_45 : decode cX3_placeOf 45 = .ok (.if_icmp .ne 11, 3) := by decide +kernel
theorem dX3_placeOf_48 : decode cX3_placeOf 48 = .ok (.iload_n 3, 1) := by decide +kernel
theorem dX3_placeOf_49 : decode cX3_placeOf 49 = .ok (.iload_n 1, 1) := by decide +kernel
theorem dX3_placeOf_50 : decode cX3_placeOf 50 = .ok (.if_icmp .ge 6, 3) := by decide +kernel
theorem dX3_placeOf_53 : decode cX3_placeOf 53 = .ok (.iinc 2 1, 3) := by decide +kernel
theorem dX3_placeOf_56 : decode cX3_placeOf 56 = .ok (.iinc 3 1, 3) := by decide +kernel
theorem dX3_placeOf_59 : decode cX3_placeOf 59 = .ok (.goto (-55), 3) := by decide +kernel
theorem dX3_placeOf_62 : decode cX3_placeOf 62 = .ok (.iload_n 2, 1) := by decide +kernel
theorem dX3_placeOf_63 : decode cX3_placeOf 63 = .ok (.ireturn, 1) := by decide +kernel
theorem dX3_lettersAhead_0 : decode cX3_lettersAhead 0 = .ok (.iload_n 2, 1) := by decide +kernel
theorem dX3_lettersAhead_1 : decode cX3_lettersAhead 1 = .ok (.ifCond .eq 11, 3) := by decide +kernel
theorem dX3_lettersAhead_4 : decode cX3_lettersAhead 4 = .ok (.aload_n 0, 1) := by decide +kernel
theorem dX3_lettersAhead_5 : decode cX3_lettersAhead 5 = .ok (.iload_n 1, 1) := by decide +kernel
theorem dX3_lettersAhead_6 : decode cX3_lettersAhead 6 = .ok (.invokevirtual 95, 3) := by decide +kernel
theorem dX3_lettersAhead_9 : decode cX3_lettersAhead 9 = .ok (.goto 8, 3) := by decide +kernel
theorem dX3_lettersAhead_12 : decode cX3_lettersAhead 12 = .ok (.aload_n 0, 1) := by decide +kernel
theorem dX3_lettersAhead_13 : decode cX3_lettersAhead 13 = .ok (.iload_n 1, 1) := by decide +kernel
theorem dX3_lettersAhead_14 : decode cX3_lettersAhead 14 = .ok (.invokevirtual 74, 3) := by decide +kernel
theorem dX3_lettersAhead_17 : decode cX3_lettersAhead 17 = .ok (.istore_n 3, 1) := by decide +kernel
theorem dX3_lettersAhead_18 : decode cX3_lettersAhead 18 = .ok (.iconst 0, 1) := by decide +kernel
theorem dX3_lettersAhead_19 : decode cX3_lettersAhead 19 = .ok (.istore 4, 2) := by decide +kernel
theorem dX3_lettersAhead_21 : decode cX3_lettersAhead 21 = .ok (.iconst 0, 1) := by decide +kernel
theorem dX3_lettersAhead_22 : decode cX3_lettersAhead 22 = .ok (.istore 5, 2) := by decide +kernel
theorem dX3_lettersAhead_24 : decode cX3_lettersAhead 24 = .ok (.iload 5, 2) := by decide +kernel
theorem dX3_lettersAhead_26 : decode cX3_lettersAhead 26 = .ok (.bipush 26, 2) := by decide +kernel
theorem dX3_lettersAhead_28 : decode cX3_lettersAhead 28 = .ok (.if_icmp .ge 45, 3) := by decide +kernel
theorem dX3_lettersAhead_31 : decode cX3_lettersAhead 31 = .ok (.iload_n 2, 1) := by decide +kernel
theorem dX3_lettersAhead_32 : decode cX3_lettersAhead 32 = .ok (.ifCond .eq 12, 3) := by decide +kernel
theorem dX3_lettersAhead_35 : decode cX3_lettersAhead 35 = .ok (.aload_n 0, 1) := by decide +kernel
theorem dX3_lettersAhead_36 : decode cX3_lettersAhead 36 = .ok (.iload 5, 2) := by decide +kernel
theorem dX3_lettersAhead_38 : decode cX3_lettersAhead 38 = .ok (.invokevirtual 74, 3) := by decide +kernel
theorem dX3_lettersAhead_41 : decode cX3_lettersAhead 41 = .ok (.goto 9, 3) := by decide +kernel
theorem dX3_lettersAhead_44 : decode cX3_lettersAhead 44 = .ok (.aload_n 0, 1) := by decide +kernel
theorem dX3_lettersAhead_45 : decode cX3_lettersAhead 45 = .ok (.iload 5, 2) := by decide +kernel
theorem dX3_lettersAhead_47 : decode cX3_lettersAhead 47 = .ok (.invokevirtual 95, 3) := by decide +kernel
theorem dX3_lettersAhead_50 : decode cX3_lettersAhead 50 = .ok (.istore 6, 2) := by decide +kernel
theorem dX3_lettersAhead_52 : decode cX3_lettersAhead 52 = .ok (.iload 5, 2) := by decide +kernel
theorem dX3_lettersAhead_54 : decode cX3_lettersAhead 54 = .ok (.iload_n 1, 1) := by decide +kernel
theorem dX3_lettersAhead_55 : decode cX3_lettersAhead 55 = .ok (.if_icmp .eq 12, 3) := by decide +kernel
theorem dX3_lettersAhead_58 : decode cX3_lettersAhead 58 = .ok (.iload 6, 2) := by decide +kernel
theorem dX3_lettersAhead_60 : decode cX3_lettersAhead 60 = .ok (.iload_n 3, 1) := by decide +kernel
theorem dX3_lettersAhead_61 : decode cX3_lettersAhead 61 = .ok (.if_icmp .le 6, 3) := by decide +kernel
theorem dX3_lettersAhead_64 : decode cX3_lettersAhead 64 = .ok (.iinc 4 1, 3) := by decide +kernel
theorem dX3_lettersAhead_67 : decode cX3_lettersAhead 67 = .ok (.iinc 5 1, 3) := by decide +kernel
theorem dX3_lettersAhead_70 : decode cX3_lettersAhead 70 = .ok (.goto (-46), 3) := by decide +kernel
theorem dX3_lettersAhead_73 : decode cX3_lettersAhead 73 = .ok (.iload 4, 2) := by decide +kernel
theorem dX3_lettersAhead_75 : decode cX3_lettersAhead 75 = .ok (.ireturn, 1) := by decide +kernel
theorem dX4_init_0 : decode cX4_init 0 = .ok (.aload_n 0, 1) := by decide +kernel
theorem dX4_init_1 : decode cX4_init 1 = .ok (.invokespecial 3, 3) := by decide +kernel
theorem dX4_init_4 : decode cX4_init 4 = .ok (.aload_n 0, 1) := by decide +kernel
theorem dX4_init_5 : decode cX4_init 5 = .ok (.bipush 60, 2) := by decide +kernel
theorem dX4_init_7 : decode cX4_init 7 = .ok (.newarray .char, 2) := by decide +kernel
theorem dX4_init_9 : decode cX4_init 9 = .ok (.putfield 9, 3) := by decide +kernel
theorem dX4_init_12 : decode cX4_init 12 = .ok (.aload_n 0, 1) := by decide +kernel
theorem dX4_init_13 : decode cX4_init 13 = .ok (.iconst 0, 1) := by decide +kernel
theorem dX4_init_14 : decode cX4_init 14 = .ok (.putfield 15, 3) := by decide +kernel
theorem dX4_init_17 : decode cX4_init 17 = .ok (.aload_n 0, 1) := by decide +kernel
theorem dX4_init_18 : decode cX4_init 18 = .ok (.bipush 60, 2) := by decide +kernel
theorem dX4_init_20 : decode cX4_init 20 = .ok (.newarray .int, 2) := by decide +kernel
theorem dX4_init_22 : decode cX4_init 22 = .ok (.putfield 19, 3) := by decide +kernel
theorem dX4_init_25 : decode cX4_init 25 = .ok (.aload_n 0, 1) := by decide +kernel
theorem dX4_init_26 : decode cX4_init 26 = .ok (.bipush 60, 2) := by decide +kernel
theorem dX4_init_28 : decode cX4_init 28 = .ok (.newarray .int, 2) := by decide +kernel
theorem dX4_init_30 : decode cX4_init 30 = .ok (.putfield 23, 3) := by decide +kernel
theorem dX4_init_33 : decode cX4_init 33 = .ok (.aload_n 0, 1) := by decide +kernel
theorem dX4_init_34 : decode cX4_init 34 = .ok (.iconst 0, 1) := by decide +kernel
theorem dX4_init_35 : decode cX4_init 35 = .ok (.putfield 26, 3) := by decide +kernel
theorem dX4_init_38 : decode cX4_init 38 = .ok (.aload_n 0, 1) := by decide +kernel
theorem dX4_init_39 : decode cX4_init 39 = .ok (.iconst 0, 1) := by decide +kernel
theorem dX4_init_40 : decode cX4_init 40 = .ok (.putfield 29, 3) := by decide +kernel
theorem dX4_init_43 : decode cX4_init 43 = .ok (.aload_n 0, 1) := by decide +kernel
theorem dX4_init_44 : decode cX4_init 44 = .ok (.iconst (-1), 1) := by decide +kernel
theorem dX4_init_45 : decode cX4_init 45 = .ok (.putfield 32, 3) := by decide +kernel
theorem dX4_init_48 : decode cX4_init 48 = .ok (.aload_n 0, 1) := by decide +kernel
theorem dX4_init_49 : decode cX4_init 49 = .ok (.iconst (-1), 1) := by decide +kernel
theorem dX4_init_50 : decode cX4_init 50 = .ok (.putfield 35, 3) := by decide +kernel
theorem dX4_init_53 : decode cX4_init 53 = .ok (.aload_n 0, 1) := by decide +kernel
theorem dX4_init_54 : decode cX4_init 54 = .ok (.iconst 0, 1) := by decide +kernel
theorem dX4_init_55 : decode cX4_init 55 = .ok (.putfield 38, 3) := by decide +kernel
theorem dX4_init_58 : decode cX4_init 58 = .ok (.return_, 1) := by decide +kernel
theorem dX4_put_0 : decode cX4_put 0 = .ok (.aload_n 0, 1) := by decide +kernel
theorem dX4_put_1 : decode cX4_put 1 = .ok (.getfield 15, 3) := by decide +kernel
theorem dX4_put_4 : decode cX4_put 4 = .ok (.bipush 60, 2) := by decide +kernel
theorem dX4_put_6 : decode cX4_put 6 = .ok (.if_icmp .ge 23, 3) := by decide +kernel
theorem dX4_put_9 : decode cX4_put 9 = .ok (.aload_n 0, 1) := by decide +kernel
theorem dX4_put_10 : decode cX4_put 10 = .ok (.getfield 9, 3) := by decide +kernel
theorem dX4_put_13 : decode cX4_put 13 = .ok (.aload_n 0, 1) := by decide +kernel
theorem dX4_put_14 : decode cX4_put 14 = .ok (.getfield 15, 3) := by decide +kernel
theorem dX4_put_17 : decode cX4_put 17 = .ok (.iload_n 1, 1) := by decide +kernel
theorem dX4_put_18 : decode cX4_put 18 = .ok (.castore, 1) := by decide +kernel
theorem dX4_put_19 : decode cX4_put 19 = .ok (.aload_n 0, 1) := by decide +kernel
theorem dX4_put_20 : decode cX4_put 20 = .ok (.dup, 1) := by decide +kernel
theorem dX4_put_21 : decode cX4_put 21 = .ok (.getfield 15, 3) := by decide +kernel
theorem dX4_put_24 : decode cX4_put 24 = .ok (.iconst 1, 1) := by decide +kernel
theorem dX4_put_25 : decode cX4_put 25 = .ok (.iadd, 1) := by decide +kernel
theorem dX4_put_26 : decode cX4_put 26 = .ok (.putfield 15, 3) := by decide +kernel
theorem dX4_put_29 : decode cX4_put 29 = .ok (.return_, 1) := by decide +kernel
theorem dX4_sign_0 : decode cX4_sign 0 = .ok (.aload_n 0, 1) := by decide +kernel
theorem dX4_sign_1 : decode cX4_sign 1 = .ok (.getfield 38, 3) := by decide +kernel
theorem dX4_sign_4 : decode cX4_sign 4 = .ok (.aload_n 0, 1) := by decide +kernel
theorem dX4_sign_5 : decode cX4_sign 5 = .ok (.getfield 15, 3) := by decide +kernel
theorem dX4_sign_8 : decode cX4_sign 8 = .ok (.if_icmp .ge 15, 3) := by decide +kernel
theorem dX4_sign_11 : decode cX4_sign 11 = .ok (.aload_n 0, 1) := by decide +kernel
theorem dX4_sign_12 : decode cX4_sign 12 = .ok (.getfield 9, 3) := by decide +kernel
theorem dX4_sign_15 : decode cX4_sign 15 = .ok (.aload_n 0, 1) := by decide +kernel
theorem dX4_sign_16 : decode cX4_sign 16 = .ok (.getfield 38, 3) := by decide +kernel
theorem dX4_sign_19 : decode cX4_sign 19 = .ok (.caload, 1) := by decide +kernel
theorem dX4_sign_20 : decode cX4_sign 20 = .ok (.goto 4, 3) := by decide +kernel
theorem dX4_sign_23 : decode cX4_sign 23 = .ok (.iconst 0, 1) := by decide +kernel
theorem dX4_sign_24 : decode cX4_sign 24 = .ok (.ireturn, 1) := by decide +kernel
theorem dX4_isDigit_0 : decode cX4_isDigit 0 = .ok (.aload_n 0, 1) := by decide +kernel
theorem dX4_isDigit_1 : decode cX4_isDigit 1 = .ok (.invokevirtual 41, 3) := by decide +kernel
theorem dX4_isDigit_4 : decode cX4_isDigit 4 = .ok (.bipush 48, 2) := by decide +kernel
theorem dX4_isDigit_6 : decode cX4_isDigit 6 = .ok (.if_icmp .lt 16, 3) := by decide +kernel
theorem dX4_isDigit_9 : decode cX4_isDigit 9 = .ok (.aload_n 0, 1) := by decide +kernel
theorem dX4_isDigit_10 : decode cX4_isDigit 10 = .ok (.invokevirtual 41, 3) := by decide +kernel
theorem dX4_isDigit_13 : decode cX4_isDigit 13 = .ok (.bipush 57, 2) := by decide +kernel
theorem dX4_isDigit_15 : decode cX4_isDigit 15 = .ok (.if_icmp .gt 7, 3) := by decide +kernel
theorem dX4_isDigit_18 : decode cX4_isDigit 18 = .ok (.iconst 1, 1) := by decide +kernel
theorem dX4_isDigit_19 : decode cX4_isDigit 19 = .ok (.goto 4, 3) := by decide +kernel
theorem dX4_isDigit_22 : decode cX4_isDigit 22 = .ok (.iconst 0, 1) := by decide +kernel
theorem dX4_isDigit_23 : decode cX4_isDigit 23 = .ok (.ireturn, 1) := by decide +kernel
theorem dX4_takeDigit_0 : decode cX4_takeDigit 0 = .ok (.aload_n 0, 1) := by decide +kernel
theorem dX4_takeDigit_1 : decode cX4_takeDigit 1 = .ok (.invokevirtual 41, 3) := by decide +kernel
theorem dX4_takeDigit_4 : decode cX4_takeDigit 4 = .ok (.bipush 48, 2) := by decide +kernel
theorem dX4_takeDigit_6 : decode cX4_takeDigit 6 = .ok (.isub, 1) := by decide +kernel
theorem dX4_takeDigit_7 : decode cX4_takeDigit 7 = .ok (.istore_n 1, 1) := by decide +kernel
theorem dX4_takeDigit_8 : decode cX4_takeDigit 8 = .ok (.aload_n 0, 1) := by decide +kernel
theorem dX4_takeDigit_9 : decode cX4_takeDigit 9 = .ok (.dup, 1) := by decide +kernel
theorem dX4_takeDigit_10 : decode cX4_takeDigit 10 = .ok (.getfield 38, 3) := by decide +kernel
theorem dX4_takeDigit_13 : decode cX4_takeDigit 13 = .ok (.iconst 1, 1) := by decide +kernel
theorem dX4_takeDigit_14 : decode cX4_takeDigit 14 = .ok (.iadd, 1) := by decide +kernel
theorem dX4_takeDigit_15 : decode cX4_takeDigit 15 = .ok (.putfield 38, 3) := by decide +kernel
theorem dX4_takeDigit_18 : decode cX4_takeDigit 18 = .ok (.iload_n 1, 1) := by decide +kernel
theorem dX4_takeDigit_19 : decode cX4_takeDigit 19 = .ok (.ireturn, 1) := by decide +kernel
theorem dX4_readArrivals_0 : decode cX4_readArrivals 0 = .ok (.aload_n 0, 1) := by decide +kernel
theorem dX4_readArrivals_1 : decode cX4_readArrivals 1 = .ok (.iconst 0, 1) := by decide +kernel
theorem dX4_readArrivals_2 : decode cX4_readArrivals 2 = .ok (.putfield 38, 3) := by decide +kernel
theorem dX4_readArrivals_5 : decode cX4_readArrivals 5 = .ok (.aload_n 0, 1) := by decide +kernel
theorem dX4_readArrivals_6 : decode cX4_readArrivals 6 = .ok (.iconst 0, 1) := by decide +kernel
theorem dX4_readArrivals_7 : decode cX4_readArrivals 7 = .ok (.putfield 26, 3) := by decide +kernel
theorem dX4_readArrivals_10 : decode cX4_readArrivals 10 = .ok (.iconst 1, 1) := by decide +kernel
theorem dX4_readArrivals_11 : decode cX4_readArrivals 11 = .ok (.istore_n 1, 1) := by decide +kernel
theorem dX4_readArrivals_12 : decode cX4_readArrivals 12 = .ok (.iconst 0, 1) := by decide +kernel
theorem dX4_readArrivals_13 : decode cX4_readArrivals 13 = .ok (.istore_n 2, 1) := by decide +kernel
theorem dX4_readArrivals_14 : decode cX4_readArrivals 14 = .ok (.iload_n 2, 1) := by decide +kernel
theorem dX4_readArrivals_15 : decode cX4_readArrivals 15 = .ok (.bipush 60, 2) := by decide +kernel
theorem dX4_readArrivals_17 : decode cX4_readArrivals 17 = .ok (.if_icmp .ge 113, 3) := by decide +kernel
theorem dX4_readArrivals_20 : decode cX4_readArrivals 20 = .ok (.iload_n 1, 1) := by decide +kernel
theorem dX4_readArrivals_21 : decode cX4_readArrivals 21 = .ok (.ifCond .eq 109, 3) := by decide +kernel
theorem dX4_readArrivals_24 : decode cX4_readArrivals 24 = .ok (.aload_n 0, 1) := by decide +kernel
theorem dX4_readArrivals_25 : decode cX4_readArrivals 25 = .ok (.invokevirtual 41, 3) := by decide +kernel
theorem dX4_readArrivals_28 : decode cX4_readArrivals 28 = .ok (.invokestatic 45, 3) := by decide +kernel
theorem dX4_readArrivals_31 : decode cX4_readArrivals 31 = .ok (.istore_n 3, 1) := by decide +kernel
theorem dX4_readArrivals_32 : decode cX4_readArrivals 32 = .ok (.iload_n 3, 1) := by decide +kernel
theorem dX4_readArrivals_33 : decode cX4_readArrivals 33 = .ok (.iconst (-1), 1) := by decide +kernel
theorem dX4_readArrivals_34 : decode cX4_readArrivals 34 = .ok (.if_icmp .ne 8, 3) := by decide +kernel
theorem dX4_readArrivals_37 : decode cX4_readArrivals 37 = .ok (.aload_n 0, 1) := by decide +kernel
theorem dX4_readArrivals_38 : decode cX4_readArrivals 38 = .ok (.getfield 38, 3) := by decide +kernel
theorem dX4_readArrivals_41 : decode cX4_readArrivals 41 = .ok (.ireturn, 1) := by decide +kernel
theorem dX4_readArrivals_42 : decode cX4_readArrivals 42 = .ok (.aload_n 0, 1) := by decide +kernel
theorem dX4_readArrivals_43 : decode cX4_readArrivals 43 = .ok (.dup, 1) := by decide +kernel
theorem dX4_readArrivals_44 : decode cX4_readArrivals 44 = .ok (.getfield 38, 3) := by decide +kernel
theorem dX4_readArrivals_47 : decode cX4_readArrivals 47 = .ok (.iconst 1, 1) := by decide +kernel
theorem dX4_readArrivals_48 : decode cX4_readArrivals 48 = .ok (.iadd, 1) := by decide +kernel
theorem dX4_readArrivals_49 : decode cX4_readArrivals 49 = .ok (.putfield 38, 3) := by decide +kernel
theorem dX4_readArrivals_52 : decode cX4_readArrivals 52 = .ok (.aload_n 0, 1) := by decide +kernel
theorem dX4_readArrivals_53 : decode cX4_readArrivals 53 = .ok (.getfield 19, 3) := by decide +kernel
theorem dX4_readArrivals_56 : decode cX4_readArrivals 56 = .ok (.iload_n 2, 1) := by decide +kernel
theorem dX4_readArrivals_57 : decode cX4_readArrivals 57 = .ok (.iload_n 3, 1) := by decide +kernel
theorem dX4_readArrivals_58 : decode cX4_readArrivals 58 = .ok (.iastore, 1) := by decide +kernel
theorem dX4_readArrivals_59 : decode cX4_readArrivals 59 = .ok (.aload_n 0, 1) := by decide +kernel
theorem dX4_readArrivals_60 : decode cX4_readArrivals 60 = .ok (.getfield 23, 3) := by decide +kernel
theorem dX4_readArrivals_63 : decode cX4_readArrivals 63 = .ok (.iload_n 2, 1) := by decide +kernel
theorem dX4_readArrivals_64 : decode cX4_readArrivals 64 = .ok (.aload_n 0, 1) := by decide +kernel
theorem dX4_readArrivals_65 : decode cX4_readArrivals 65 = .ok (.invokevirtual 49, 3) := by decide +kernel
theorem dX4_readArrivals_68 : decode cX4_readArrivals 68 = .ok (.iastore, 1) := by decide +kernel
theorem dX4_readArrivals_69 : decode cX4_readArrivals 69 = .ok (.aload_n 0, 1) := by decide +kernel
theorem dX4_readArrivals_70 : decode cX4_readArrivals 70 = .ok (.dup, 1) := by decide +kernel
theorem dX4_readArrivals_71 : decode cX4_readArrivals 71 = .ok (.getfield 26, 3) := by decide +kernel
theorem dX4_readArrivals_74 : decode cX4_readArrivals 74 = .ok (.iconst 1, 1) := by decide +kernel
theorem dX4_readArrivals_75 : decode cX4_readArrivals 75 = .ok (.iadd, 1) := by decide +kernel
theorem dX4_readArrivals_76 : decode cX4_readArrivals 76 = .ok (.putfield 26, 3) := by decide +kernel
theorem dX4_readArrivals_79 : decode cX4_readArrivals 79 = .ok (.aload_n 0, 1) := by decide +kernel
theorem dX4_readArrivals_80 : decode cX4_readArrivals 80 = .ok (.getfield 38, 3) := by decide +kernel
theorem dX4_readArrivals_83 : decode cX4_readArrivals 83 = .ok (.aload_n 0, 1) := by decide +kernel
theorem dX4_readArrivals_84 : decode cX4_readArrivals 84 = .ok (.getfield 15, 3) := by decide +kernel
theorem dX4_readArrivals_87 : decode cX4_readArrivals 87 = .ok (.if_icmp .ge 7, 3) := by decide +kernel
theorem dX4_readArrivals_90 : decode cX4_readArrivals 90 = .ok (.iconst 1, 1) := by decide +kernel
theorem dX4_readArrivals_91 : decode cX4_readArrivals 91 = .ok (.goto 4, 3) := by decide +kernel
theorem dX4_readArrivals_94 : decode cX4_readArrivals 94 = .ok (.iconst 0, 1) := by decide +kernel
theorem dX4_readArrivals_95 : decode cX4_readArrivals 95 = .ok (.istore_n 1, 1) := by decide +kernel
theorem dX4_readArrivals_96 : decode cX4_readArrivals 96 = .ok (.iload_n 1, 1) := by decide +kernel
theorem dX4_readArrivals_97 : decode cX4_readArrivals 97 = .ok (.ifCond .eq 27, 3) := by decide +kernel
theorem dX4_readArrivals_100 : decode cX4_readArrivals 100 = .ok (.aload_n 0, 1) := by decide +kernel
theorem dX4_readArrivals_101 : decode cX4_readArrivals 101 = .ok (.invokevirtual 41, 3) := by decide +kernel
theorem dX4_readArrivals_104 : decode cX4_readArrivals 104 = .ok (.bipush 44, 2) := by decide +kernel
theorem dX4_readArrivals_106 : decode cX4_readArrivals 106 = .ok (.if_icmp .eq 8, 3) := by decide +kernel
theorem dX4_readArrivals_109 : decode cX4_readArrivals 109 = .ok (.aload_n 0, 1) := by decide +kernel
theorem dX4_readArrivals_110 : decode cX4_readArrivals 110 = .ok (.getfield 38, 3) := by decide +kernel
theorem dX4_readArrivals_113 : decode cX4_readArrivals 113 = .ok (.ireturn, 1) := by decide +kernel
theorem dX4_readArrivals_114 : decode cX4_readArrivals 114 = .ok (.aload_n 0, 1) := by decide +kernel
theorem dX4_readArrivals_115 : decode cX4_readArrivals 115 = .ok (.dup, 1) := by decide +kernel
theorem dX4_readArrivals_116 : decode cX4_readArrivals 116 = .ok (.getfield 38, 3) := by decide +kernel
theorem dX4_readArrivals_119 : decode cX4_readArrivals 119 = .ok (.iconst 1, 1) := by decide +kernel
theorem dX4_readArrivals_120 : decode cX4_readArrivals 120 = .ok (.iadd, 1) := by decide +kernel
theorem dX4_readArrivals_121 : decode cX4_readArrivals 121 = .ok (.putfield 38, 3) := by decide +kernel
theorem dX4_readArrivals_124 : decode cX4_readArrivals 124 = .ok (.iinc 2 1, 3) := by decide +kernel
theorem dX4_readArrivals_127 : decode cX4_readArrivals 127 = .ok (.goto (-113), 3) := by decide +kernel
theorem dX4_readArrivals_130 : decode cX4_readArrivals 130 = .ok (.iconst (-1), 1) := by decide +kernel
theorem dX4_readArrivals_131 : decode cX4_readArrivals 131 = .ok (.ireturn, 1) := by decide +kernel
theorem dX4_readWeight_0 : decode cX4_readWeight 0 = .ok (.aload_n 0, 1) := by decide +kernel
theorem dX4_readWeight_1 : decode cX4_readWeight 1 = .ok (.invokevirtual 53, 3) := by decide +kernel
theorem dX4_readWeight_4 : decode cX4_readWeight 4 = .ok (.ifCond .eq 19, 3) := by decide +kernel
theorem dX4_readWeight_7 : decode cX4_readWeight 7 = .ok (.aload_n 0, 1) := by decide +kernel
theorem dX4_readWeight_8 : decode cX4_readWeight 8 = .ok (.invokevirtual 41, 3) := by decide +kernel
theorem dX4_readWeight_11 : decode cX4_readWeight 11 = .ok (.bipush 48, 2) := by decide +kernel
theorem dX4_readWeight_13 : decode cX4_readWeight 13 = .ok (.if_icmp .eq 10, 3) := by decide +kernel
theorem dX4_readWeight_16 : decode cX4_readWeight 16 = .ok (.aload_n 0, 1) := by decide +kernel
theorem dX4_readWeight_17 : decode cX4_readWeight 17 = .ok (.invokevirtual 57, 3) := by decide +kernel
theorem dX4_readWeight_20 : decode cX4_readWeight 20 = .ok (.goto 4, 3) := by decide +kernel
theorem dX4_readWeight_23 : decode cX4_readWeight 23 = .ok (.iconst 1, 1) := by decide +kernel
theorem dX4_readWeight_24 : decode cX4_readWeight 24 = .ok (.ireturn, 1) := by decide +kernel
theorem dX4_readNumber_0 : decode cX4_readNumber 0 = .ok (.aload_n 0, 1) := by decide +kernel
theorem dX4_readNumber_1 : decode cX4_readNumber 1 = .ok (.invokevirtual 60, 3) := by decide +kernel
theorem dX4_readNumber_4 : decode cX4_readNumber 4 = .ok (.istore_n 1, 1) := by decide +kernel
theorem dX4_readNumber_5 : decode cX4_readNumber 5 = .ok (.iload_n 1, 1) := by decide +kernel
theorem dX4_readNumber_6 : decode cX4_readNumber 6 = .ok (.ifCond .eq 20, 3) := by decide +kernel
theorem dX4_readNumber_9 : decode cX4_readNumber 9 = .ok (.aload_n 0, 1) := by decide +kernel
theorem dX4_readNumber_10 : decode cX4_readNumber 10 = .ok (.invokevirtual 53, 3) := by decide +kernel
theorem dX4_readNumber_13 : decode cX4_readNumber 13 = .ok (.ifCond .eq 13, 3) := by decide +kernel
theorem dX4_readNumber_16 : decode cX4_readNumber 16 = .ok (.iload_n 1, 1) := by decide +kernel
theorem dX4_readNumber_17 : decode cX4_readNumber 17 = .ok (.bipush 10, 2) := by decide +kernel
theorem dX4_readNumber_19 : decode cX4_readNumber 19 = .ok (.imul, 1) := by decide +kernel
theorem dX4_readNumber_20 : decode cX4_readNumber 20 = .ok (.aload_n 0, 1) := by decide +kernel
theorem dX4_readNumber_21 : decode cX4_readNumber 21 = .ok (.invokevirtual 60, 3) := by decide +kernel
theorem dX4_readNumber_24 : decode cX4_readNumber 24 = .ok (.iadd, 1) := by decide +kernel
theorem dX4_readNumber_25 : decode cX4_readNumber 25 = .ok (.istore_n 1, 1) := by decide +kernel
theorem dX4_readNumber_26 : decode cX4_readNumber 26 = .ok (.iload_n 1, 1) := by decide +kernel
theorem dX4_readNumber_27 : decode cX4_readNumber 27 = .ok (.ireturn, 1) := by decide +kernel
theorem dX4_totalWeight_0 : decode cX4_totalWeight 0 = .ok (.iconst 0, 1) := by decide +kernel
theorem dX4_totalWeight_1 : decode cX4_totalWeight 1 = .ok (.istore_n 1, 1) := by decide +kernel
theorem dX4_totalWeight_2 : decode cX4_totalWeight 2 = .ok (.iconst 0, 1) := by decide +kernel
theorem dX4_totalWeight_3 : decode cX4_totalWeight 3 = .ok (.istore_n 2, 1) := by decide +kernel
theorem dX4_totalWeight_4 : decode cX4_totalWeight 4 = .ok (.iload_n 2, 1) := by decide +kernel
theorem dX4_totalWeight_5 : decode cX4_totalWeight 5 = .ok (.aload_n 0, 1) := by decide +kernel
theorem dX4_totalWeight_6 : decode cX4_totalWeight 6 = .ok (.getfield 26, 3) := by decide +kernel
theorem dX4_totalWeight_9 : decode cX4_totalWeight 9 = .ok (.if_icmp .ge 18, 3) := by decide +kernel
theorem dX4_totalWeight_12 : decode cX4_totalWeight 12 = .ok (.iload_n 1, 1) := by decide +kernel
theorem dX4_totalWeight_13 : decode cX4_totalWeight 13 = .ok (.aload_n 0, 1) := by decide +kernel
theorem dX4_totalWeight_14 : decode cX4_totalWeight 14 = .ok (.getfield 23, 3) := by decide +kernel
theorem dX4_totalWeight_17 : decode cX4_totalWeight 17 = .ok (.iload_n 2, 1) := by decide +kernel
theorem dX4_totalWeight_18 : decode cX4_totalWeight 18 = .ok (.iaload, 1) := by decide +kernel
theorem dX4_totalWeight_19 : decode cX4_totalWeight 19 = .ok (.iadd, 1) := by decide +kernel
theorem dX4_totalWeight_20 : decode cX4_totalWeight 20 = .ok (.istore_n 1, 1) := by decide +kernel
theorem dX4_totalWeight_21 : decode cX4_totalWeight 21 = .ok (.iinc 2 1, 3) := by decide +kernel
theorem dX4_totalWeight_24 : decode cX4_totalWeight 24 = .ok (.goto (-20), 3) := by decide +kernel
theorem dX4_totalWeight_27 : decode cX4_totalWeight 27 = .ok (.iload_n 1, 1) := by decide +kernel
theorem dX4_totalWeight_28 : decode cX4_totalWeight 28 = .ok (.ireturn, 1) := by decide +kernel
theorem dX4_readCommand_0 : decode cX4_readCommand 0 = .ok (.aload_n 0, 1) := by decide +kernel
theorem dX4_readCommand_1 : decode cX4_readCommand 1 = .ok (.iconst 0, 1) := by decide +kernel
theorem dX4_readCommand_2 : decode cX4_readCommand 2 = .ok (.putfield 38, 3) := by decide +kernel
theorem dX4_readCommand_5 : decode cX4_readCommand 5 = .ok (.iconst 0, 1) := by decide +kernel
theorem dX4_readCommand_6 : decode cX4_readCommand 6 = .ok (.istore_n 1, 1) := by decide +kernel
theorem dX4_readCommand_7 : decode cX4_readCommand 7 = .ok (.iload_n 1, 1) := by decide +kernel
theorem dX4_readCommand_8 : decode cX4_readCommand 8 = .ok (.bipush 60, 2) := by decide +kernel
theorem dX4_readCommand_10 : decode cX4_readCommand 10 = .ok (.if_icmp .ge 30, 3) := by decide +kernel
theorem dX4_readCommand_13 : decode cX4_readCommand 13 = .ok (.aload_n 0, 1) := by decide +kernel
theorem dX4_readCommand_14 : decode cX4_readCommand 14 = .ok (.invokevirtual 41, 3) := by decide +kernel
theorem dX4_readCommand_17 : decode cX4_readCommand 17 = .ok (.invokestatic 45, 3) := by decide +kernel
theorem dX4_readCommand_20 : decode cX4_readCommand 20 = .ok (.iconst (-1), 1) := by decide +kernel
theorem dX4_readCommand_21 : decode cX4_readCommand 21 = .ok (.if_icmp .eq 19, 3) := by decide +kernel
theorem dX4_readCommand_24 : decode cX4_readCommand 24 = .ok (.aload_n 0, 1) := by decide +kernel
theorem dX4_readCommand_25 : decode cX4_readCommand 25 = .ok (.dup, 1) := by decide +kernel
theorem dX4_readCommand_26 : decode cX4_readCommand 26 = .ok (.getfield 38, 3) := by decide +kernel
theorem dX4_readCommand_29 : decode cX4_readCommand 29 = .ok (.iconst 1, 1) := by decide +kernel
theorem dX4_readCommand_30 : decode cX4_readCommand 30 = .ok (.iadd, 1) := by decide +kernel
theorem dX4_readCommand_31 : decode cX4_readCommand 31 = .ok (.putfield 38, 3) := by decide +kernel
theorem dX4_readCommand_34 : decode cX4_readCommand 34 = .ok (.iinc 1 1, 3) := by decide +kernel
theorem dX4_readCommand_37 : decode cX4_readCommand 37 = .ok (.goto (-30), 3) := by decide +kernel
theorem dX4_readCommand_40 : decode cX4_readCommand 40 = .ok (.aload_n 0, 1) := by decide +kernel
theorem dX4_readCommand_41 : decode cX4_readCommand 41 = .ok (.aload_n 0, 1) := by decide +kernel
theorem dX4_readCommand_42 : decode cX4_readCommand 42 = .ok (.aload_n 0, 1) := by decide +kernel
theorem dX4_readCommand_43 : decode cX4_readCommand 43 = .ok (.getfield 38, 3) := by decide +kernel
theorem dX4_readCommand_46 : decode cX4_readCommand 46 = .ok (.invokevirtual 63, 3) := by decide +kernel
theorem dX4_readCommand_49 : decode cX4_readCommand 49 = .ok (.putfield 29, 3) := by decide +kernel
theorem dX4_readCommand_52 : decode cX4_readCommand 52 = .ok (.aload_n 0, 1) := by decide +kernel
theorem dX4_readCommand_53 : decode cX4_readCommand 53 = .ok (.getfield 29, 3) := by decide +kernel
theorem dX4_readCommand_56 : decode cX4_readCommand 56 = .ok (.ifCond .ne 5, 3) := by decide +kernel
theorem dX4_readCommand_59 : decode cX4_readCommand 59 = .ok (.iconst 0, 1) := by decide +kernel
theorem dX4_readCommand_60 : decode cX4_readCommand 60 = .ok (.ireturn, 1) := by decide +kernel
theorem dX4_readCommand_61 : decode cX4_readCommand 61 = .ok (.aload_n 0, 1) := by decide +kernel
theorem dX4_readCommand_62 : decode cX4_readCommand 62 = .ok (.aload_n 0, 1) := by decide +kernel
theorem dX4_readCommand_63 : decode cX4_readCommand 63 = .ok (.invokevirtual 67, 3) := by decide +kernel
theorem dX4_readCommand_66 : decode cX4_readCommand 66 = .ok (.putfield 32, 3) := by decide +kernel
theorem dX4_readCommand_69 : decode cX4_readCommand 69 = .ok (.aload_n 0, 1) := by decide +kernel
theorem dX4_readCommand_70 : decode cX4_readCommand 70 = .ok (.getfield 32, 3) := by decide +kernel
theorem dX4_readCommand_73 : decode cX4_readCommand 73 = .ok (.iconst (-1), 1) := by decide +kernel
theorem dX4_readCommand_74 : decode cX4_readCommand 74 = .ok (.if_icmp .ne 8, 3) := by decide +kernel
theorem dX4_readCommand_77 : decode cX4_readCommand 77 = .ok (.aload_n 0, 1) := by decide +kernel
theorem dX4_readCommand_78 : decode cX4_readCommand 78 = .ok (.getfield 38, 3) := by decide +kernel
theorem dX4_readCommand_81 : decode cX4_readCommand 81 = .ok (.ireturn, 1) := by decide +kernel
theorem dX4_readCommand_82 : decode cX4_readCommand 82 = .ok (.aload_n 0, 1) := by decide +kernel
theorem dX4_readCommand_83 : decode cX4_readCommand 83 = .ok (.getfield 29, 3) := by decide +kernel
theorem dX4_readCommand_86 : decode cX4_readCommand 86 = .ok (.iconst 4, 1) := by decide +kernel
theorem dX4_readCommand_87 : decode cX4_readCommand 87 = .ok (.if_icmp .eq 24, 3) := by decide +kernel
theorem dX4_readCommand_90 : decode cX4_readCommand 90 = .ok (.aload_n 0, 1) := by decide +kernel
theorem dX4_readCommand_91 : decode cX4_readCommand 91 = .ok (.aload_n 0, 1) := by decide +kernel
theorem dX4_readCommand_92 : decode cX4_readCommand 92 = .ok (.invokevirtual 67, 3) := by decide +kernel
theorem dX4_readCommand_95 : decode cX4_readCommand 95 = .ok (.putfield 35, 3) := by decide +kernel
theorem dX4_readCommand_98 : decode cX4_readCommand 98 = .ok (.aload_n 0, 1) := by decide +kernel
theorem dX4_readCommand_99 : decode cX4_readCommand 99 = .ok (.getfield 35, 3) := by decide +kernel
theorem dX4_readCommand_102 : decode cX4_readCommand 102 = .ok (.iconst (-1), 1) := by decide +kernel
theorem dX4_readCommand_103 : decode cX4_readCommand 103 = .ok (.if_icmp .ne 8, 3) := by decide +kernel
theorem dX4_readCommand_106 : decode cX4_readCommand 106 = .ok (.aload_n 0, 1) := by decide +kernel
theorem dX4_readCommand_107 : decode cX4_readCommand 107 = .ok (.getfield 38, 3) := by decide +kernel
theorem dX4_readCommand_110 : decode cX4_readCommand 110 = .ok (.ireturn, 1) := by decide +kernel
theorem dX4_readCommand_111 : decode cX4_readCommand 111 = .ok (.aload_n 0, 1) := by decide +kernel
theorem dX4_readCommand_112 : decode cX4_readCommand 112 = .ok (.getfield 38, 3) := by decide +kernel
theorem dX4_readCommand_115 : decode cX4_readCommand 115 = .ok (.aload_n 0, 1) := by decide +kernel
theorem dX4_readCommand_116 : decode cX4_readCommand 116 = .ok (.getfield 15, 3) := by decide +kernel
theorem dX4_readCommand_119 : decode cX4_readCommand 119 = .ok (.if_icmp .ge 10, 3) := by decide +kernel
theorem dX4_readCommand_122 : decode cX4_readCommand 122 = .ok (.aload_n 0, 1) := by decide +kernel
theorem dX4_readCommand_123 : decode cX4_readCommand 123 = .ok (.getfield 38, 3) := by decide +kernel
theorem dX4_readCommand_126 : decode cX4_readCommand 126 = .ok (.goto 4, 3) := by decide +kernel
theorem dX4_readCommand_129 : decode cX4_readCommand 129 = .ok (.iconst (-1), 1) := by decide +kernel
theorem dX4_readCommand_130 : decode cX4_readCommand 130 = .ok (.ireturn, 1) := by decide +kernel
theorem dX4_readArgument_0 : decode cX4_readArgument 0 = .ok (.aload_n 0, 1) := by decide +kernel
theorem dX4_readArgument_1 : decode cX4_readArgument 1 = .ok (.invokevirtual 41, 3) := by decide +kernel
theorem dX4_readArgument_4 : decode cX4_readArgument 4 = .ok (.bipush 32, 2) := by decide +kernel
theorem dX4_readArgument_6 : decode cX4_readArgument 6 = .ok (.if_icmp .eq 5, 3) := by decide +kernel
theorem dX4_readArgument_9 : decode cX4_readArgument 9 = .ok (.iconst (-1), 1) := by decide +kernel
theorem dX4_readArgument_10 : decode cX4_readArgument 10 = .ok (.ireturn, 1) := by decide +kernel
theorem dX4_readArgument_11 : decode cX4_readArgument 11 = .ok (.aload_n 0, 1) := by decide +kernel
theorem dX4_readArgument_12 : decode cX4_readArgument 12 = .ok (.dup, 1) := by decide +kernel
theorem dX4_readArgument_13 : decode cX4_readArgument 13 = .ok (.getfield 38, 3) := by decide +kernel
theorem dX4_readArgument_16 : decode cX4_readArgument 16 = .ok (.iconst 1, 1) := by decide +kernel
theorem dX4_readArgument_17 : decode cX4_readArgument 17 = .ok (.iadd, 1) := by decide +kernel
theorem dX4_readArgument_18 : decode cX4_readArgument 18 = .ok (.putfield 38, 3) := by decide +kernel
theorem dX4_readArgument_21 : decode cX4_readArgument 21 = .ok (.aload_n 0, 1) := by decide +kernel
theorem dX4_readArgument_22 : decode cX4_readArgument 22 = .ok (.invokevirtual 53, 3) := by decide +kernel
theorem dX4_readArgument_25 : decode cX4_readArgument 25 = .ok (.ifCond .eq 10, 3) := by decide +kernel
theorem dX4_readArgument_28 : decode cX4_readArgument 28 = .ok (.aload_n 0, 1) := by decide +kernel
theorem dX4_readArgument_29 : decode cX4_readArgument 29 = .ok (.invokevirtual 57, 3) := by decide +kernel
theorem dX4_readArgument_32 : decode cX4_readArgument 32 = .ok (.goto 4, 3) := by decide +kernel
theorem dX4_readArgument_35 : decode cX4_readArgument 35 = .ok (.iconst (-1), 1) := by decide +kernel
theorem dX4_readArgument_36 : decode cX4_readArgument 36 = .ok (.ireturn, 1) := by decide +kernel
theorem dX4_wordBefore_0 : decode cX4_wordBefore 0 = .ok (.aload_n 0, 1) := by decide +kernel
theorem dX4_wordBefore_1 : decode cX4_wordBefore 1 = .ok (.ldc 70, 2) := by decide +kernel
theorem dX4_wordBefore_3 : decode cX4_wordBefore 3 = .ok (.iload_n 1, 1) := by decide +kernel
theorem dX4_wordBefore_4 : decode cX4_wordBefore 4 = .ok (.invokevirtual 72, 3) := by decide +kernel
theorem dX4_wordBefore_7 : decode cX4_wordBefore 7 = .ok (.ifCond .eq 5, 3) := by decide +kernel
theorem dX4_wordBefore_10 : decode cX4_wordBefore 10 = .ok (.iconst 1, 1) := by decide +kernel
theorem dX4_wordBefore_11 : decode cX4_wordBefore 11 = .ok (.ireturn, 1) := by decide +kernel
theorem dX4_wordBefore_12 : decode cX4_wordBefore 12 = .ok (.aload_n 0, 1) := by decide +kernel
theorem dX4_wordBefore_13 : decode cX4_wordBefore 13 = .ok (.ldc 76, 2) := by decide +kernel
theorem dX4_wordBefore_15 : decode cX4_wordBefore 15 = .ok (.iload_n 1, 1) := by decide +kernel
theorem dX4_wordBefore_16 : decode cX4_wordBefore 16 = .ok (.invokevirtual 72, 3) := by decide +kernel
theorem dX4_wordBefore_19 : decode cX4_wordBefore 19 = .ok (.ifCond .eq 5, 3) := by decide +kernel
theorem dX4_wordBefore_22 : decode cX4_wordBefore 22 = .ok (.iconst 2, 1) := by decide +kernel
theorem dX4_wordBefore_23 : decode cX4_wordBefore 23 = .ok (.ireturn, 1) := by decide +kernel
theorem dX4_wordBefore_24 : decode cX4_wordBefore 24 = .ok (.aload_n 0, 1) := by decide +kernel
theorem dX4_wordBefore_25 : decode cX4_wordBefore 25 = .ok (.ldc 78, 2) := by decide +kernel
theorem dX4_wordBefore_27 : decode cX4_wordBefore 27 = .ok (.iload_n 1, 1) := by decide +kernel
theorem dX4_wordBefore_28 : decode cX4_wordBefore 28 = .ok (.invokevirtual 72, 3) := by decide +kernel
theorem dX4_wordBefore_31 : decode cX4_wordBefore 31 = .ok (.ifCond .eq 5, 3) := by decide +kernel
theorem dX4_wordBefore_34 : decode cX4_wordBefore 34 = .ok (.iconst 3, 1) := by decide +kernel
theorem dX4_wordBefore_35 : decode cX4_wordBefore 35 = .ok (.ireturn, 1) := by decide +kernel
theorem dX4_wordBefore_36 : decode cX4_wordBefore 36 = .ok (.aload_n 0, 1) := by decide +kernel
theorem dX4_wordBefore_37 : decode cX4_wordBefore 37 = .ok (.ldc 80, 2) := by decide +kernel
theorem dX4_wordBefore_39 : decode cX4_wordBefore 39 = .ok (.iload_n 1, 1) := by decide +kernel
theorem dX4_wordBefore_40 : decode cX4_wordBefore 40 = .ok (.invokevirtual 72, 3) := by decide +kernel
theorem dX4_wordBefore_43 : decode cX4_wordBefore 43 = .ok (.ifCond .eq 7, 3) := by decide +kernel
theorem dX4_wordBefore_46 : decode cX4_wordBefore 46 = .ok (.iconst 4, 1) := by decide +kernel
theorem dX4_wordBefore_47 : decode cX4_wordBefore 47 = .ok (.goto 4, 3) := by decide +kernel
theorem dX4_wordBefore_50 : decode cX4_wordBefore 50 = .ok (.iconst 0, 1) := by decide +kernel
theorem dX4_wordBefore_51 : decode cX4_wordBefore 51 = .ok (.ireturn, 1) := by decide +kernel
theorem dX4_beginsWith_0 : decode cX4_beginsWith 0 = .ok (.aload_n 1, 1) := by decide +kernel
theorem dX4_beginsWith_1 : decode cX4_beginsWith 1 = .ok (.invokevirtual 82, 3) := by decide +kernel
theorem dX4_beginsWith_4 : decode cX4_beginsWith 4 = .ok (.iload_n 2, 1) := by decide +kernel
theorem dX4_beginsWith_5 : decode cX4_beginsWith 5 = .ok (.if_icmp .ne 15, 3) := by decide +kernel
theorem dX4_beginsWith_8 : decode cX4_beginsWith 8 = .ok (.iload_n 2, 1) := by decide +kernel
theorem dX4_beginsWith_9 : decode cX4_beginsWith 9 = .ok (.aload_n 0, 1) := by decide +kernel
theorem dX4_beginsWith_10 : decode cX4_beginsWith 10 = .ok (.getfield 15, 3) := by decide +kernel
theorem dX4_beginsWith_13 : decode cX4_beginsWith 13 = .ok (.if_icmp .gt 7, 3) := by decide +kernel
theorem dX4_beginsWith_16 : decode cX4_beginsWith 16 = .ok (.iconst 1, 1) := by decide +kernel
theorem dX4_beginsWith_17 : decode cX4_beginsWith 17 = .ok (.goto 4, 3) := by decide +kernel
theorem dX4_beginsWith_20 : decode cX4_beginsWith 20 = .ok (.iconst 0, 1) := by decide +kernel
theorem dX4_beginsWith_21 : decode cX4_beginsWith 21 = .ok (.istore_n 3, 1) := by decide +kernel
theorem dX4_beginsWith_22 : decode cX4_beginsWith 22 = .ok (.iconst 0, 1) := by decide +kernel
theorem dX4_beginsWith_23 : decode cX4_beginsWith 23 = .ok (.istore 4, 2) := by decide +kernel
theorem dX4_beginsWith_25 : decode cX4_beginsWith 25 = .ok (.iload 4, 2) := by decide +kernel
theorem dX4_beginsWith_27 : decode cX4_beginsWith 27 = .ok (.iload_n 2, 1) := by decide +kernel
theorem dX4_beginsWith_28 : decode cX4_beginsWith 28 = .ok (.if_icmp .ge 35, 3) := by decide +kernel
theorem dX4_beginsWith_31 : decode cX4_beginsWith 31 = .ok (.iload_n 3, 1) := by decide +kernel
theorem dX4_beginsWith_32 : decode cX4_beginsWith 32 = .ok (.ifCond .eq 31, 3) := by decide +kernel
theorem dX4_beginsWith_35 : decode cX4_beginsWith 35 = .ok (.aload_n 0, 1) := by decide +kernel
theorem dX4_beginsWith_36 : decode cX4_beginsWith 36 = .ok (.getfield 9, 3) := by decide +kernel
theorem dX4_beginsWith_39 : decode cX4_beginsWith 39 = .ok (.iload 4, 2) := by decide +kernel
theorem dX4_beginsWith_41 : decode cX4_beginsWith 41 = .ok (.caload, 1) := by decide +kernel
theorem dX4_beginsWith_42 : decode cX4_beginsWith 42 = .ok (.aload_n 1, 1) := by decide +kernel
theorem dX4_beginsWith_43 : decode cX4_beginsWith 43 = .ok (.iload 4, 2) := by decide +kernel
theorem dX4_beginsWith_45 : decode cX4_beginsWith 45 = .ok (.invokevirtual 86, 3) := by decide +kernel
theorem dX4_beginsWith_48 : decode cX4_beginsWith 48 = .ok (.if_icmp .ne 7, 3) := by decide +kernel
theorem dX4_beginsWith_51 : decode cX4_beginsWith 51 = .ok (.iconst 1, 1) := by decide +kernel
theorem dX4_beginsWith_52 : decode cX4_beginsWith 52 = .ok (.goto 4, 3) := by decide +kernel
theorem dX4_beginsWith_55 : decode cX4_beginsWith 55 = .ok (.iconst 0, 1) := by decide +kernel
theorem dX4_beginsWith_56 : decode cX4_beginsWith 56 = .ok (.istore_n 3, 1) := by decide +kernel
theorem dX4_beginsWith_57 : decode cX4_beginsWith 57 = .ok (.iinc 4 1, 3) := by decide +kernel
theorem dX4_beginsWith_60 : decode cX4_beginsWith 60 = .ok (.goto (-35), 3) := by decide +kernel
theorem dX4_beginsWith_63 : decode cX4_beginsWith 63 = .ok (.iload_n 3, 1) := by decide +kernel
theorem dX4_beginsWith_64 : decode cX4_beginsWith 64 = .ok (.ireturn, 1) := by decide +kernel
theorem dX5_init_0 : decode cX5_init 0 = .ok (.aload_n 0, 1) := by decide +kernel
theorem dX5_init_1 : decode cX5_init 1 = .ok (.invokespecial 3, 3) := by decide +kernel
theorem dX5_init_4 : decode cX5_init 4 = .ok (.aload_n 0, 1) := by decide +kernel
theorem dX5_init_5 : decode cX5_init 5 = .ok (.iconst 4, 1) := by decide +kernel
theorem dX5_init_6 : decode cX5_init 6 = .ok (.anewarray 9, 3) := by decide +kernel
theorem dX5_init_9 : decode cX5_init 9 = .ok (.putfield 11, 3) := by decide +kernel
theorem dX5_init_12 : decode cX5_init 12 = .ok (.aload_n 0, 1) := by decide +kernel
theorem dX5_init_13 : decode cX5_init 13 = .ok (.iconst 0, 1) := by decide +kernel
theorem dX5_init_14 : decode cX5_init 14 = .ok (.putfield 17, 3) := by decide +kernel
theorem dX5_init_17 : decode cX5_init 17 = .ok (.aload_n 0, 1) := by decide +kernel
theorem dX5_init_18 : decode cX5_init 18 = .ok (.iconst 1, 1) := by decide +kernel
theorem dX5_init_19 : decode cX5_init 19 = .ok (.putfield 21, 3) := by decide +kernel
theorem dX5_init_22 : decode cX5_init 22 = .ok (.aload_n 0, 1) := by decide +kernel
theorem dX5_init_23 : decode cX5_init 23 = .ok (.iconst 1, 1) := by decide +kernel
theorem dX5_init_24 : decode cX5_init 24 = .ok (.putfield 24, 3) := by decide +kernel
theorem dX5_init_27 : decode cX5_init 27 = .ok (.aload_n 0, 1) := by decide +kernel
theorem dX5_init_28 : decode cX5_init 28 = .ok (.iconst 0, 1) := by decide +kernel
theorem dX5_init_29 : decode cX5_init 29 = .ok (.putfield 27, 3) := by decide +kernel
theorem dX5_init_32 : decode cX5_init 32 = .ok (.iconst 0, 1) := by decide +kernel
theorem dX5_init_33 : decode cX5_init 33 = .ok (.istore_n 1, 1) := by decide +kernel
theorem dX5_init_34 : decode cX5_init 34 = .ok (.iload_n 1, 1) := by decide +kernel
theorem dX5_init_35 : decode cX5_init 35 = .ok (.iconst 4, 1) := by decide +kernel
theorem dX5_init_36 : decode cX5_init 36 = .ok (.if_icmp .ge 22, 3) := by decide +kernel
theorem dX5_init_39 : decode cX5_init 39 = .ok (.aload_n 0, 1) := by decide +kernel
theorem dX5_init_40 : decode cX5_init 40 = .ok (.getfield 11, 3) := by decide +kernel
theorem dX5_init_43 : decode cX5_init 43 = .ok (.iload_n 1, 1) := by decide +kernel
theorem dX5_init_44 : decode cX5_init 44 = .ok (.new 9, 3) := by decide +kernel
theorem dX5_init_47 : decode cX5_init 47 = .ok (.dup, 1) := by decide +kernel
theorem dX5_init_48 : decode cX5_init 48 = .ok (.invokespecial 30, 3) := by decide +kernel
theorem dX5_init_51 : decode cX5_init 51 = .ok (.aastore, 1) := by decide +kernel
theorem dX5_init_52 : decode cX5_init 52 = .ok (.iinc 1 1, 3) := by decide +kernel
theorem dX5_init_55 : decode cX5_init 55 = .ok (.goto (-21), 3) := by decide +kernel
theorem dX5_init_58 : decode cX5_init 58 = .ok (.return_, 1) := by decide +kernel
theorem dX5_presentBlock_0 : decode cX5_presentBlock 0 = .ok (.aload_n 0, 1) := by decide +kernel
theorem dX5_presentBlock_1 : decode cX5_presentBlock 1 = .ok (.getfield 11, 3) := by decide +kernel
theorem dX5_presentBlock_4 : decode cX5_presentBlock 4 = .ok (.aload_n 0, 1) := by decide +kernel
theorem dX5_presentBlock_5 : decode cX5_presentBlock 5 = .ok (.getfield 17, 3) := by decide +kernel
theorem dX5_presentBlock_8 : decode cX5_presentBlock 8 = .ok (.iconst 3, 1) := by decide +kernel
theorem dX5_presentBlock_9 : decode cX5_presentBlock 9 = .ok (.iand, 1) := by decide +kernel
theorem dX5_presentBlock_10 : decode cX5_presentBlock 10 = .ok (.aaload, 1) := by decide +kernel
theorem dX5_presentBlock_11 : decode cX5_presentBlock 11 = .ok (.areturn, 1) := by decide +kernel
theorem dX5_blockAt_0 : decode cX5_blockAt 0 = .ok (.aload_n 0, 1) := by decide +kernel
theorem dX5_blockAt_1 : decode cX5_blockAt 1 = .ok (.getfield 11, 3) := by decide +kernel
theorem dX5_blockAt_4 : decode cX5_blockAt 4 = .ok (.aload_n 0, 1) := by decide +kernel
theorem dX5_blockAt_5 : decode cX5_blockAt 5 = .ok (.getfield 17, 3) := by decide +kernel
theorem dX5_blockAt_8 : decode cX5_blockAt 8 = .ok (.aload_n 0, 1) := by decide +kernel
theorem dX5_blockAt_9 : decode cX5_blockAt 9 = .ok (.getfield 21, 3) := by decide +kernel
theorem dX5_blockAt_12 : decode cX5_blockAt 12 = .ok (.isub, 1) := by decide +kernel
theorem dX5_blockAt_13 : decode cX5_blockAt 13 = .ok (.iconst 1, 1) := by decide +kernel
theorem dX5_blockAt_14 : decode cX5_blockAt 14 = .ok (.iadd, 1) := by decide +kernel
theorem dX5_blockAt_15 : decode cX5_blockAt 15 = .ok (.iload_n 1, 1) := by decide +kernel
theorem dX5_blockAt_16 : decode cX5_blockAt 16 = .ok (.iadd, 1) := by decide +kernel
theorem dX5_blockAt_17 : decode cX5_blockAt 17 = .ok (.iconst 3, 1) := by decide +kernel
theorem dX5_blockAt_18 : decode cX5_blockAt 18 = .ok (.iand, 1) := by decide +kernel
theorem dX5_blockAt_19 : decode cX5_blockAt 19 = .ok (.aaload, 1) := by decide +kernel
theorem dX5_blockAt_20 : decode cX5_blockAt 20 = .ok (.areturn, 1) := by decide +kernel
theorem dX5_arrivalsOf_0 : decode cX5_arrivalsOf 0 = .ok (.iload_n 1, 1) := by decide +kernel
theorem dX5_arrivalsOf_1 : decode cX5_arrivalsOf 1 = .ok (.aload_n 0, 1) := by decide +kernel
theorem dX5_arrivalsOf_2 : decode cX5_arrivalsOf 2 = .ok (.getfield 21, 3) := by decide +kernel
theorem dX5_arrivalsOf_5 : decode cX5_arrivalsOf 5 = .ok (.iconst 1, 1) := by decide +kernel
theorem dX5_arrivalsOf_6 : decode cX5_arrivalsOf 6 = .ok (.isub, 1) := by decide +kernel
theorem dX5_arrivalsOf_7 : decode cX5_arrivalsOf 7 = .ok (.if_icmp .ne 10, 3) := by decide +kernel
theorem dX5_arrivalsOf_10 : decode cX5_arrivalsOf 10 = .ok (.aload_n 0, 1) := by decide +kernel
theorem dX5_arrivalsOf_11 : decode cX5_arrivalsOf 11 = .ok (.getfield 27, 3) := by decide +kernel
theorem dX5_arrivalsOf_14 : decode cX5_arrivalsOf 14 = .ok (.goto 5, 3) := by decide +kernel
theorem dX5_arrivalsOf_17 : decode cX5_arrivalsOf 17 = .ok (.bipush 8, 2) := by decide +kernel
theorem dX5_arrivalsOf_19 : decode cX5_arrivalsOf 19 = .ok (.ireturn, 1) := by decide +kernel
theorem dX5_beginBlock_0 : decode cX5_beginBlock 0 = .ok (.aload_n 0, 1) := by decide +kernel
theorem dX5_beginBlock_1 : decode cX5_beginBlock 1 = .ok (.aload_n 0, 1) := by decide +kernel
theorem dX5_beginBlock_2 : decode cX5_beginBlock 2 = .ok (.getfield 17, 3) := by decide +kernel
theorem dX5_beginBlock_5 : decode cX5_beginBlock 5 = .ok (.iconst 1, 1) := by decide +kernel
theorem dX5_beginBlock_6 : decode cX5_beginBlock 6 = .ok (.iadd, 1) := by decide +kernel
theorem dX5_beginBlock_7 : decode cX5_beginBlock 7 = .ok (.iconst 3, 1) := by decide +kernel
theorem dX5_beginBlock_8 : decode cX5_beginBlock 8 = .ok (.iand, 1) := by decide +kernel
theorem dX5_beginBlock_9 : decode cX5_beginBlock 9 = .ok (.putfield 17, 3) := by decide +kernel
theorem dX5_beginBlock_12 : decode cX5_beginBlock 12 = .ok (.aload_n 0, 1) := by decide +kernel
theorem dX5_beginBlock_13 : decode cX5_beginBlock 13 = .ok (.aload_n 0, 1) := by decide +kernel
theorem dX5_beginBlock_14 : decode cX5_beginBlock 14 = .ok (.getfield 21, 3) := by decide +kernel
theorem dX5_beginBlock_17 : decode cX5_beginBlock 17 = .ok (.iconst 1, 1) := by decide +kernel
theorem dX5_beginBlock_18 : decode cX5_beginBlock 18 = .ok (.iadd, 1) := by decide +kernel
theorem dX5_beginBlock_19 : decode cX5_beginBlock 19 = .ok (.iconst 4, 1) := by decide +kernel
theorem dX5_beginBlock_20 : decode cX5_beginBlock 20 = .ok (.invokestatic 31, 3) := by decide +kernel
theorem dX5_beginBlock_23 : decode cX5_beginBlock 23 = .ok (.putfield 21, 3) := by decide +kernel
theorem dX5_beginBlock_26 : decode cX5_beginBlock 26 = .ok (.aload_n 0, 1) := by decide +kernel
theorem dX5_beginBlock_27 : decode cX5_beginBlock 27 = .ok (.dup, 1) := by decide +kernel
theorem dX5_beginBlock_28 : decode cX5_beginBlock 28 = .ok (.getfield 24, 3) := by decide +kernel
theorem dX5_beginBlock_31 : decode cX5_beginBlock 31 = .ok (.iconst 1, 1) := by decide +kernel
theorem dX5_beginBlock_32 : decode cX5_beginBlock 32 = .ok (.iadd, 1) := by decide +kernel
theorem dX5_beginBlock_33 : decode cX5_beginBlock 33 = .ok (.putfield 24, 3) := by decide +kernel
theorem dX5_beginBlock_36 : decode cX5_beginBlock 36 = .ok (.aload_n 0, 1) := by decide +kernel
theorem dX5_beginBlock_37 : decode cX5_beginBlock 37 = .ok (.iconst 0, 1) := by decide +kernel
theorem dX5_beginBlock_38 : decode cX5_beginBlock 38 = .ok (.putfield 27, 3) := by decide +kernel
theorem dX5_beginBlock_41 : decode cX5_beginBlock 41 = .ok (.aload_n 0, 1) := by decide +kernel
theorem dX5_beginBlock_42 : decode cX5_beginBlock 42 = .ok (.invokevirtual 37, 3) := by decide +kernel
theorem dX5_beginBlock_45 : decode cX5_beginBlock 45 = .ok (.invokevirtual 41, 3) := by decide +kernel
theorem dX5_beginBlock_48 : decode cX5_beginBlock 48 = .ok (.return_, 1) := by decide +kernel
theorem dX5_look_0 : decode cX5_look 0 = .ok (.aload_n 1, 1) := by decide +kernel
theorem dX5_look_1 : decode cX5_look 1 = .ok (.aload_n 0, 1) := by decide +kernel
theorem dX5_look_2 : decode cX5_look 2 = .ok (.iconst 0, 1) := by decide +kernel
theorem dX5_look_3 : decode cX5_look 3 = .ok (.invokevirtual 44, 3) := by decide +kernel
theorem dX5_look_6 : decode cX5_look 6 = .ok (.invokevirtual 48, 3) := by decide +kernel
theorem dX5_look_9 : decode cX5_look 9 = .ok (.iconst 1, 1) := by decide +kernel
theorem dX5_look_10 : decode cX5_look 10 = .ok (.istore_n 3, 1) := by decide +kernel
theorem dX5_look_11 : decode cX5_look 11 = .ok (.iload_n 3, 1) := by decide +kernel
theorem dX5_look_12 : decode cX5_look 12 = .ok (.aload_n 0, 1) := by decide +kernel
theorem dX5_look_13 : decode cX5_look 13 = .ok (.getfield 21, 3) := by decide +kernel
theorem dX5_look_16 : decode cX5_look 16 = .ok (.if_icmp .ge 20, 3) := by decide +kernel
theorem dX5_look_19 : decode cX5_look 19 = .ok (.aload_n 1, 1) := by decide +kernel
theorem dX5_look_20 : decode cX5_look 20 = .ok (.aload_n 0, 1) := by decide +kernel
theorem dX5_look_21 : decode cX5_look 21 = .ok (.iload_n 3, 1) := by decide +kernel
theorem dX5_look_22 : decode cX5_look 22 = .ok (.invokevirtual 44, 3) := by decide +kernel
theorem dX5_look_25 : decode cX5_look 25 = .ok (.iload_n 2, 1) := by decide +kernel
theorem dX5_look_26 : decode cX5_look 26 = .ok (.invokevirtual 52, 3) := by decide +kernel
theorem dX5_look_29 : decode cX5_look 29 = .ok (.pop, 1) := by decide +kernel
theorem dX5_look_30 : decode cX5_look 30 = .ok (.iinc 3 1, 3) := by decide +kernel
theorem dX5_look_33 : decode cX5_look 33 = .ok (.goto (-22), 3) := by decide +kernel
theorem dX5_look_36 : decode cX5_look 36 = .ok (.return_, 1) := by decide +kernel
theorem dX5_become_0 : decode cX5_become 0 = .ok (.aload_n 0, 1) := by decide +kernel
theorem dX5_become_1 : decode cX5_become 1 = .ok (.aload_n 1, 1) := by decide +kernel
theorem dX5_become_2 : decode cX5_become 2 = .ok (.getfield 17, 3) := by decide +kernel
theorem dX5_become_5 : decode cX5_become 5 = .ok (.putfield 17, 3) := by decide +kernel
theorem dX5_become_8 : decode cX5_become 8 = .ok (.aload_n 0, 1) := by decide +kernel
theorem dX5_become_9 : decode cX5_become 9 = .ok (.aload_n 1, 1) := by decide +kernel
theorem dX5_become_10 : decode cX5_become 10 = .ok (.getfield 21, 3) := by decide +kernel
theorem dX5_become_13 : decode cX5_become 13 = .ok (.putfield 21, 3) := by decide +kernel
theorem dX5_become_16 : decode cX5_become 16 = .ok (.aload_n 0, 1) := by decide +kernel
theorem dX5_become_17 : decode cX5_become 17 = .ok (.aload_n 1, 1) := by decide +kernel
theorem dX5_become_18 : decode cX5_become 18 = .ok (.getfield 24, 3) := by decide +kernel
theorem dX5_become_21 : decode cX5_become 21 = .ok (.putfield 24, 3) := by decide +kernel
theorem dX5_become_24 : decode cX5_become 24 = .ok (.aload_n 0, 1) := by decide +kernel
theorem dX5_become_25 : decode cX5_become 25 = .ok (.aload_n 1, 1) := by decide +kernel
theorem dX5_become_26 : decode cX5_become 26 = .ok (.getfield 27, 3) := by decide +kernel
theorem dX5_become_29 : decode cX5_become 29 = .ok (.putfield 27, 3) := by decide +kernel
theorem dX5_become_32 : decode cX5_become 32 = .ok (.iconst 0, 1) := by decide +kernel
theorem dX5_become_33 : decode cX5_become 33 = .ok (.istore_n 2, 1) := by decide +kernel
theorem dX5_become_34 : decode cX5_become 34 = .ok (.iload_n 2, 1) := by decide +kernel
theorem dX5_become_35 : decode cX5_become 35 = .ok (.iconst 4, 1) := by decide +kernel
theorem dX5_become_36 : decode cX5_become 36 = .ok (.if_icmp .ge 24, 3) := by decide +kernel
theorem dX5_become_39 : decode cX5_become 39 = .ok (.aload_n 0, 1) := by decide +kernel
theorem dX5_become_40 : decode cX5_become 40 = .ok (.getfield 11, 3) := by decide +kernel
theorem dX5_become_43 : decode cX5_become 43 = .ok (.iload_n 2, 1) := by decide +kernel
theorem dX5_become_44 : decode cX5_become 44 = .ok (.aaload, 1) := by decide +kernel
theorem dX5_become_45 : decode cX5_become 45 = .ok (.aload_n 1, 1) := by decide +kernel
theorem dX5_become_46 : decode cX5_become 46 = .ok (.getfield 11, 3) := by decide +kernel
theorem dX5_become_49 : decode cX5_become 49 = .ok (.iload_n 2, 1) := by decide +kernel
theorem dX5_become_50 : decode cX5_become 50 = .ok (.aaload, 1) := by decide +kernel
theorem dX5_become_51 : decode cX5_become 51 = .ok (.invokevirtual 48, 3) := by decide +kernel
theorem dX5_become_54 : decode cX5_become 54 = .ok (.iinc 2 1, 3) := by decide +kernel
theorem dX5_become_57 : decode cX5_become 57 = .ok (.goto (-23), 3) := by decide +kernel
theorem dX5_become_60 : decode cX5_become 60 = .ok (.return_, 1) := by decide +kernel
theorem dX6_init_0 : decode cX6_init 0 = .ok (.aload_n 0, 1) := by decide +kernel
theorem dX6_init_1 : decode cX6_init 1 = .ok (.invokespecial 1, 3) := by decide +kernel
theorem dX6_init_4 : decode cX6_init 4 = .ok (.aload_n 0, 1) := by decide +kernel
theorem dX6_init_5 : decode cX6_init 5 = .ok (.new 7, 3) := by decide +kernel
theorem dX6_init_8 : decode cX6_init 8 = .ok (.dup, 1) := by decide +kernel
theorem dX6_init_9 : decode cX6_init 9 = .ok (.invokespecial 9, 3) := by decide +kernel
theorem dX6_init_12 : decode cX6_init 12 = .ok (.putfield 10, 3) := by decide +kernel
theorem dX6_init_15 : decode cX6_init 15 = .ok (.aload_n 0, 1) := by decide +kernel
theorem dX6_init_16 : decode cX6_init 16 = .ok (.new 16, 3) := by decide +kernel
theorem dX6_init_19 : decode cX6_init 19 = .ok (.dup, 1) := by decide +kernel
theorem dX6_init_20 : decode cX6_init 20 = .ok (.invokespecial 18, 3) := by decide +kernel
theorem dX6_init_23 : decode cX6_init 23 = .ok (.putfield 19, 3) := by decide +kernel
theorem dX6_init_26 : decode cX6_init 26 = .ok (.aload_n 0, 1) := by decide +kernel
theorem dX6_init_27 : decode cX6_init 27 = .ok (.new 7, 3) := by decide +kernel
theorem dX6_init_30 : decode cX6_init 30 = .ok (.dup, 1) := by decide +kernel
theorem dX6_init_31 : decode cX6_init 31 = .ok (.invokespecial 9, 3) := by decide +kernel
theorem dX6_init_34 : decode cX6_init 34 = .ok (.putfield 23, 3) := by decide +kernel
theorem dX6_init_37 : decode cX6_init 37 = .ok (.aload_n 0, 1) := by decide +kernel
theorem dX6_init_38 : decode cX6_init 38 = .ok (.iconst 0, 1) := by decide +kernel
theorem dX6_init_39 : decode cX6_init 39 = .ok (.putfield 26, 3) := by decide +kernel
theorem dX6_init_42 : decode cX6_init 42 = .ok (.aload_n 0, 1) := by decide +kernel
theorem dX6_init_43 : decode cX6_init 43 = .ok (.new 30, 3) := by decide +kernel
theorem dX6_init_46 : decode cX6_init 46 = .ok (.dup, 1) := by decide +kernel
theorem dX6_init_47 : decode cX6_init 47 = .ok (.invokespecial 32, 3) := by decide +kernel
theorem dX6_init_50 : decode cX6_init 50 = .ok (.putfield 33, 3) := by decide +kernel
theorem dX6_init_53 : decode cX6_init 53 = .ok (.aload_n 0, 1) := by decide +kernel
theorem dX6_init_54 : decode cX6_init 54 = .ok (.new 37, 3) := by decide +kernel
theorem dX6_init_57 : decode cX6_init 57 = .ok (.dup, 1) := by decide +kernel
theorem dX6_init_58 : decode cX6_init 58 = .ok (.invokespecial 39, 3) := by decide +kernel
theorem dX6_init_61 : decode cX6_init 61 = .ok (.putfield 40, 3) := by decide +kernel
theorem dX6_init_64 : decode cX6_init 64 = .ok (.return_, 1) := by decide +kernel
theorem dX6_arrive_0 : decode cX6_arrive 0 = .ok (.iload_n 2, 1) := by decide +kernel
theorem dX6_arrive_1 : decode cX6_arrive 1 = .ok (.invokestatic 44, 3) := by decide +kernel
theorem dX6_arrive_4 : decode cX6_arrive 4 = .ok (.istore 4, 2) := by decide +kernel
theorem dX6_arrive_6 : decode cX6_arrive 6 = .ok (.iload_n 1, 1) := by decide +kernel
theorem dX6_arrive_7 : decode cX6_arrive 7 = .ok (.invokestatic 48, 3) := by decide +kernel
theorem dX6_arrive_10 : decode cX6_arrive 10 = .ok (.ifCond .eq 9, 3) := by decide +kernel
theorem dX6_arrive_13 : decode cX6_arrive 13 = .ok (.iload 4, 2) := by decide +kernel
theorem dX6_arrive_15 : decode cX6_arrive 15 = .ok (.iconst (-1), 1) := by decide +kernel
theorem dX6_arrive_16 : decode cX6_arrive 16 = .ok (.if_icmp .ne 5, 3) := by decide +kernel
theorem dX6_arrive_19 : decode cX6_arrive 19 = .ok (.iconst (-1), 1) := by decide +kernel
theorem dX6_arrive_20 : decode cX6_arrive 20 = .ok (.ireturn, 1) := by decide +kernel
theorem dX6_arrive_21 : decode cX6_arrive 21 = .ok (.iload_n 3, 1) := by decide +kernel
theorem dX6_arrive_22 : decode cX6_arrive 22 = .ok (.invokestatic 52, 3) := by decide +kernel
theorem dX6_arrive_25 : decode cX6_arrive 25 = .ok (.ifCond .ne 6, 3) := by decide +kernel
theorem dX6_arrive_28 : decode cX6_arrive 28 = .ok (.bipush (-2), 2) := by decide +kernel
theorem dX6_arrive_30 : decode cX6_arrive 30 = .ok (.ireturn, 1) := by decide +kernel
theorem dX6_arrive_31 : decode cX6_arrive 31 = .ok (.aload_n 0, 1) := by decide +kernel
theorem dX6_arrive_32 : decode cX6_arrive 32 = .ok (.getfield 10, 3) := by decide +kernel
theorem dX6_arrive_35 : decode cX6_arrive 35 = .ok (.getfield 55, 3) := by decide +kernel
theorem dX6_arrive_38 : decode cX6_arrive 38 = .ok (.iload_n 1, 1) := by decide +kernel
theorem dX6_arrive_39 : decode cX6_arrive 39 = .ok (.aaload, 1) := by decide +kernel
theorem dX6_arrive_40 : decode cX6_arrive 40 = .ok (.astore 5, 2) := by decide +kernel
theorem dX6_arrive_42 : decode cX6_arrive 42 = .ok (.aload 5, 2) := by decide +kernel
theorem dX6_arrive_44 : decode cX6_arrive 44 = .ok (.getfield 59, 3) := by decide +kernel
theorem dX6_arrive_47 : decode cX6_arrive 47 = .ok (.iload_n 3, 1) := by decide +kernel
theorem dX6_arrive_48 : decode cX6_arrive 48 = .ok (.iadd, 1) := by decide +kernel
theorem dX6_arrive_49 : decode cX6_arrive 49 = .ok (.ldc 63, 2) := by decide +kernel
theorem dX6_arrive_51 : decode cX6_arrive 51 = .ok (.if_icmp .le 6, 3) := by decide +kernel
theorem dX6_arrive_54 : decode cX6_arrive 54 = .ok (.bipush (-3), 2) := by decide +kernel
theorem dX6_arrive_56 : decode cX6_arrive 56 = .ok (.ireturn, 1) := by decide +kernel
theorem dX6_arrive_57 : decode cX6_arrive 57 = .ok (.aload_n 0, 1) := by decide +kernel
theorem dX6_arrive_58 : decode cX6_arrive 58 = .ok (.getfield 19, 3) := by decide +kernel
theorem dX6_arrive_61 : decode cX6_arrive 61 = .ok (.aload_n 0, 1) := by decide +kernel
theorem dX6_arrive_62 : decode cX6_arrive 62 = .ok (.getfield 10, 3) := by decide +kernel
theorem dX6_arrive_65 : decode cX6_arrive 65 = .ok (.invokevirtual 64, 3) := by decide +kernel
theorem dX6_arrive_68 : decode cX6_arrive 68 = .ok (.aload_n 0, 1) := by decide +kernel
theorem dX6_arrive_69 : decode cX6_arrive 69 = .ok (.getfield 10, 3) := by decide +kernel
theorem dX6_arrive_72 : decode cX6_arrive 72 = .ok (.iload_n 1, 1) := by decide +kernel
theorem dX6_arrive_73 : decode cX6_arrive 73 = .ok (.aload 5, 2) := by decide +kernel
theorem dX6_arrive_75 : decode cX6_arrive 75 = .ok (.iload 4, 2) := by decide +kernel
theorem dX6_arrive_77 : decode cX6_arrive 77 = .ok (.iload_n 3, 1) := by decide +kernel
theorem dX6_arrive_78 : decode cX6_arrive 78 = .ok (.invokevirtual 68, 3) := by decide +kernel
theorem dX6_arrive_81 : decode cX6_arrive 81 = .ok (.aload 5, 2) := by decide +kernel
theorem dX6_arrive_83 : decode cX6_arrive 83 = .ok (.iload 4, 2) := by decide +kernel
theorem dX6_arrive_85 : decode cX6_arrive 85 = .ok (.invokevirtual 72, 3) := by decide +kernel
theorem dX6_arrive_88 : decode cX6_arrive 88 = .ok (.ireturn, 1) := by decide +kernel
theorem dX6_feed_0 : decode cX6_feed 0 = .ok (.iload_n 1, 1) := by decide +kernel
theorem dX6_feed_1 : decode cX6_feed 1 = .ok (.invokestatic 48, 3) := by decide +kernel
theorem dX6_feed_4 : decode cX6_feed 4 = .ok (.ifCond .ne 5, 3) := by decide +kernel
theorem dX6_feed_7 : decode cX6_feed 7 = .ok (.iconst (-1), 1) := by decide +kernel
theorem dX6_feed_8 : decode cX6_feed 8 = .ok (.ireturn, 1) := by decide +kernel
theorem dX6_feed_9 : decode cX6_feed 9 = .ok (.aload_n 0, 1) := by decide +kernel
theorem dX6_feed_10 : decode cX6_feed 10 = .ok (.getfield 33, 3) := by decide +kernel
theorem dX6_feed_13 : decode cX6_feed 13 = .ok (.invokevirtual 76, 3) := by decide +kernel
theorem dX6_feed_16 : decode cX6_feed 16 = .ok (.istore_n 2, 1) := by decide +kernel
theorem dX6_feed_17 : decode cX6_feed 17 = .ok (.iload_n 2, 1) := by decide +kernel
theorem dX6_feed_18 : decode cX6_feed 18 = .ok (.iconst (-1), 1) := by decide +kernel
theorem dX6_feed_19 : decode cX6_feed 19 = .ok (.if_icmp .eq 8, 3) := by decide +kernel
theorem dX6_feed_22 : decode cX6_feed 22 = .ok (.bipush (-100), 2) := by decide +kernel
theorem dX6_feed_24 : decode cX6_feed 24 = .ok (.iload_n 2, 1) := by decide +kernel
theorem dX6_feed_25 : decode cX6_feed 25 = .ok (.isub, 1) := by decide +kernel
theorem dX6_feed_26 : decode cX6_feed 26 = .ok (.ireturn, 1) := by decide +kernel
theorem dX6_feed_27 : decode cX6_feed 27 = .ok (.aload_n 0, 1) := by decide +kernel
theorem dX6_feed_28 : decode cX6_feed 28 = .ok (.getfield 10, 3) := by decide +kernel
theorem dX6_feed_31 : decode cX6_feed 31 = .ok (.getfield 55, 3) := by decide +kernel
theorem dX6_feed_34 : decode cX6_feed 34 = .ok (.iload_n 1, 1) := by decide +kernel
theorem dX6_feed_35 : decode cX6_feed 35 = .ok (.aaload, 1) := by decide +kernel
theorem dX6_feed_36 : decode cX6_feed 36 = .ok (.astore_n 3, 1) := by decide +kernel
theorem dX6_feed_37 : decode cX6_feed 37 = .ok (.aload_n 3, 1) := by decide +kernel
theorem dX6_feed_38 : decode cX6_feed 38 = .ok (.getfield 59, 3) := by decide +kernel
theorem dX6_feed_41 : decode cX6_feed 41 = .ok (.aload_n 0, 1) := by decide +kernel
theorem dX6_feed_42 : decode cX6_feed 42 = .ok (.getfield 33, 3) := by decide +kernel
theorem dX6_feed_45 : decode cX6_feed 45 = .ok (.invokevirtual 80, 3) := by decide +kernel
theorem dX6_feed_48 : decode cX6_feed 48 = .ok (.iadd, 1) := by decide +kernel
theorem dX6_feed_49 : decode cX6_feed 49 = .ok (.ldc 63, 2) := by decide +kernel
theorem dX6_feed_51 : decode cX6_feed 51 = .ok (.if_icmp .le 6, 3) := by decide +kernel
theorem dX6_feed_54 : decode cX6_feed 54 = .ok (.bipush (-3), 2) := by decide +kernel
theorem dX6_feed_56 : decode cX6_feed 56 = .ok (.ireturn, 1) := by decide +kernel
theorem dX6_feed_57 : decode cX6_feed 57 = .ok (.aload_n 0, 1) := by decide +kernel
theorem dX6_feed_58 : decode cX6_feed 58 = .ok (.getfield 19, 3) := by decide +kernel
theorem dX6_feed_61 : decode cX6_feed 61 = .ok (.aload_n 0, 1) := by decide +kernel
theorem dX6_feed_62 : decode cX6_feed 62 = .ok (.getfield 10, 3) := by decide +kernel
theorem dX6_feed_65 : decode cX6_feed 65 = .ok (.invokevirtual 64, 3) := by decide +kernel
theorem dX6_feed_68 : decode cX6_feed 68 = .ok (.iconst 0, 1) := by decide +kernel
theorem dX6_feed_69 : decode cX6_feed 69 = .ok (.istore 4, 2) := by decide +kernel
theorem dX6_feed_71 : decode cX6_feed 71 = .ok (.iload 4, 2) := by decide +kernel
theorem dX6_feed_73 : decode cX6_feed 73 = .ok (.aload_n 0, 1) := by decide +kernel
theorem dX6_feed_74 : decode cX6_feed 74 = .ok (.getfield 33, 3) := by decide +kernel
theorem dX6_feed_77 : decode cX6_feed 77 = .ok (.getfield 83, 3) := by decide +kernel
theorem dX6_feed_80 : decode cX6_feed 80 = .ok (.if_icmp .ge 38, 3) := by decide +kernel
theorem dX6_feed_83 : decode cX6_feed 83 = .ok (.aload_n 0, 1) := by decide +kernel
theorem dX6_feed_84 : decode cX6_feed 84 = .ok (.getfield 10, 3) := by decide +kernel
theorem dX6_feed_87 : decode cX6_feed 87 = .ok (.iload_n 1, 1) := by decide +kernel
theorem dX6_feed_88 : decode cX6_feed 88 = .ok (.aload_n 3, 1) := by decide +kernel
theorem dX6_feed_89 : decode cX6_feed 89 = .ok (.aload_n 0, 1) := by decide +kernel
theorem dX6_feed_90 : decode cX6_feed 90 = .ok (.getfield 33, 3) := by decide +kernel
theorem dX6_feed_93 : decode cX6_feed 93 = .ok (.getfield 86, 3) := by decide +kernel
theorem dX6_feed_96 : decode cX6_feed 96 = .ok (.iload 4, 2) := by decide +kernel
theorem dX6_feed_98 : decode cX6_feed 98 = .ok (.iaload, 1) := by decide +kernel
theorem dX6_feed_99 : decode cX6_feed 99 = .ok (.aload_n 0, 1) := by decide +kernel
theorem dX6_feed_100 : decode cX6_feed 100 = .ok (.getfield 33, 3) := by decide +kernel
theorem dX6_feed_103 : decode cX6_feed 103 = .ok (.getfield 90, 3) := by decide +kernel
theorem dX6_feed_106 : decode cX6_feed 106 = .ok (.iload 4, 2) := by decide +kernel
theorem dX6_feed_108 : decode cX6_feed 108 = .ok (.iaload, 1) := by decide +kernel
theorem dX6_feed_109 : decode cX6_feed 109 = .ok (.invokevirtual 68, 3) := by decide +kernel
theorem dX6_feed_112 : decode cX6_feed 112 = .ok (.iinc 4 1, 3) := by decide +kernel
theorem dX6_feed_115 : decode cX6_feed 115 = .ok (.goto (-44), 3) := by decide +kernel
theorem dX6_feed_118 : decode cX6_feed 118 = .ok (.aload_n 0, 1) := by decide +kernel
theorem dX6_feed_119 : decode cX6_feed 119 = .ok (.getfield 33, 3) := by decide +kernel
theorem dX6_feed_122 : decode cX6_feed 122 = .ok (.getfield 83, 3) := by decide +kernel
theorem dX6_feed_125 : decode cX6_feed 125 = .ok (.ireturn, 1) := by decide +kernel
theorem dX6_flow_0 : decode cX6_flow 0 = .ok (.iload_n 1, 1) := by decide +kernel
theorem dX6_flow_1 : decode cX6_flow 1 = .ok (.invokestatic 44, 3) := by decide +kernel
theorem dX6_flow_4 : decode cX6_flow 4 = .ok (.istore_n 3, 1) := by decide +kernel
theorem dX6_flow_5 : decode cX6_flow 5 = .ok (.iload_n 3, 1) := by decide +kernel
theorem dX6_flow_6 : decode cX6_flow 6 = .ok (.iconst (-1), 1) := by decide +kernel
theorem dX6_flow_7 : decode cX6_flow 7 = .ok (.if_icmp .ne 5, 3) := by decide +kernel
theorem dX6_flow_10 : decode cX6_flow 10 = .ok (.iconst (-1), 1) := by decide +kernel
theorem dX6_flow_11 : decode cX6_flow 11 = .ok (.ireturn, 1) := by decide +kernel
theorem dX6_flow_12 : decode cX6_flow 12 = .ok (.iload_n 2, 1) := by decide +kernel
theorem dX6_flow_13 : decode cX6_flow 13 = .ok (.invokestatic 52, 3) := by decide +kernel
theorem dX6_flow_16 : decode cX6_flow 16 = .ok (.ifCond .ne 6, 3) := by decide +kernel
theorem dX6_flow_19 : decode cX6_flow 19 = .ok (.bipush (-2), 2) := by decide +kernel
theorem dX6_flow_21 : decode cX6_flow 21 = .ok (.ireturn, 1) := by decide +kernel
theorem dX6_flow_22 : decode cX6_flow 22 = .ok (.aload_n 0, 1) := by decide +kernel
theorem dX6_flow_23 : decode cX6_flow 23 = .ok (.getfield 19, 3) := by decide +kernel
theorem dX6_flow_26 : decode cX6_flow 26 = .ok (.aload_n 0, 1) := by decide +kernel
theorem dX6_flow_27 : decode cX6_flow 27 = .ok (.getfield 10, 3) := by decide +kernel
theorem dX6_flow_30 : decode cX6_flow 30 = .ok (.invokevirtual 64, 3) := by decide +kernel
theorem dX6_flow_33 : decode cX6_flow 33 = .ok (.aload_n 0, 1) := by decide +kernel
theorem dX6_flow_34 : decode cX6_flow 34 = .ok (.getfield 10, 3) := by decide +kernel
theorem dX6_flow_37 : decode cX6_flow 37 = .ok (.iload_n 3, 1) := by decide +kernel
theorem dX6_flow_38 : decode cX6_flow 38 = .ok (.iload_n 2, 1) := by decide +kernel
theorem dX6_flow_39 : decode cX6_flow 39 = .ok (.invokevirtual 93, 3) := by decide +kernel
theorem dX6_flow_42 : decode cX6_flow 42 = .ok (.aload_n 0, 1) := by decide +kernel
theorem dX6_flow_43 : decode cX6_flow 43 = .ok (.getfield 10, 3) := by decide +kernel
theorem dX6_flow_46 : decode cX6_flow 46 = .ok (.getfield 97, 3) := by decide +kernel
theorem dX6_flow_49 : decode cX6_flow 49 = .ok (.getfield 101, 3) := by decide +kernel
theorem dX6_flow_52 : decode cX6_flow 52 = .ok (.ireturn, 1) := by decide +kernel
theorem dX6_flowAll_0 : decode cX6_flowAll 0 = .ok (.aload_n 0, 1) := by decide +kernel
theorem dX6_flowAll_1 : decode cX6_flowAll 1 = .ok (.getfield 33, 3) := by decide +kernel
theorem dX6_flowAll_4 : decode cX6_flowAll 4 = .ok (.invokevirtual 76, 3) := by decide +kernel
theorem dX6_flowAll_7 : decode cX6_flowAll 7 = .ok (.istore_n 1, 1) := by decide +kernel
theorem dX6_flowAll_8 : decode cX6_flowAll 8 = .ok (.iload_n 1, 1) := by decide +kernel
theorem dX6_flowAll_9 : decode cX6_flowAll 9 = .ok (.iconst (-1), 1) := by decide +kernel
theorem dX6_flowAll_10 : decode cX6_flowAll 10 = .ok (.if_icmp .eq 8, 3) := by decide +kernel
theorem dX6_flowAll_13 : decode cX6_flowAll 13 = .ok (.bipush (-100), 2) := by decide +kernel
theorem dX6_flowAll_15 : decode cX6_flowAll 15 = .ok (.iload_n 1, 1) := by decide +kernel
theorem dX6_flowAll_16 : decode cX6_flowAll 16 = .ok (.isub, 1) := by decide +kernel
theorem dX6_flowAll_17 : decode cX6_flowAll 17 = .ok (.ireturn, 1) := by decide +kernel
theorem dX6_flowAll_18 : decode cX6_flowAll 18 = .ok (.aload_n 0, 1) := by decide +kernel
theorem dX6_flowAll_19 : decode cX6_flowAll 19 = .ok (.getfield 19, 3) := by decide +kernel
theorem dX6_flowAll_22 : decode cX6_flowAll 22 = .ok (.aload_n 0, 1) := by decide +kernel
theorem dX6_flowAll_23 : decode cX6_flowAll 23 = .ok (.getfield 10, 3) := by decide +kernel
theorem dX6_flowAll_26 : decode cX6_flowAll 26 = .ok (.invokevirtual 64, 3) := by decide +kernel
theorem dX6_flowAll_29 : decode cX6_flowAll 29 = .ok (.iconst 0, 1) := by decide +kernel
theorem dX6_flowAll_30 : decode cX6_flowAll 30 = .ok (.istore_n 2, 1) := by decide +kernel
theorem dX6_flowAll_31 : decode cX6_flowAll 31 = .ok (.iload_n 2, 1) := by decide +kernel
theorem dX6_flowAll_32 : decode cX6_flowAll 32 = .ok (.aload_n 0, 1) := by decide +kernel
theorem dX6_flowAll_33 : decode cX6_flowAll 33 = .ok (.getfield 33, 3) := by decide +kernel
theorem dX6_flowAll_36 : decode cX6_flowAll 36 = .ok (.getfield 83, 3) := by decide +kernel
theorem dX6_flowAll_39 : decode cX6_flowAll 39 = .ok (.if_icmp .ge 34, 3) := by decide +kernel
theorem dX6_flowAll_42 : decode cX6_flowAll 42 = .ok (.aload_n 0, 1) := by decide +kernel
theorem dX6_flowAll_43 : decode cX6_flowAll 43 = .ok (.getfield 10, 3) := by decide +kernel
theorem dX6_flowAll_46 : decode cX6_flowAll 46 = .ok (.aload_n 0, 1) := by decide +kernel
theorem dX6_flowAll_47 : decode cX6_flowAll 47 = .ok (.getfield 33, 3) := by decide +kernel
theorem dX6_flowAll_50 : decode cX6_flowAll 50 = .ok (.getfield 86, 3) := by decide +kernel
theorem dX6_flowAll_53 : decode cX6_flowAll 53 = .ok (.iload_n 2, 1) := by decide +kernel
theorem dX6_flowAll_54 : decode cX6_flowAll 54 = .ok (.iaload, 1) := by decide +kernel
theorem dX6_flowAll_55 : decode cX6_flowAll 55 = .ok (.aload_n 0, 1) := by decide +kernel
theorem dX6_flowAll_56 : decode cX6_flowAll 56 = .ok (.getfield 33, 3) := by decide +kernel
theorem dX6_flowAll_59 : decode cX6_flowAll 59 = .ok (.getfield 90, 3) := by decide +kernel
theorem dX6_flowAll_62 : decode cX6_flowAll 62 = .ok (.iload_n 2, 1) := by decide +kernel
theorem dX6_flowAll_63 : decode cX6_flowAll 63 = .ok (.iaload, 1) := by decide +kernel
theorem dX6_flowAll_64 : decode cX6_flowAll 64 = .ok (.invokevirtual 93, 3) := by decide +kernel
theorem dX6_flowAll_67 : decode cX6_flowAll 67 = .ok (.iinc 2 1, 3) := by decide +kernel
theorem dX6_flowAll_70 : decode cX6_flowAll 70 = .ok (.goto (-39), 3) := by decide +kernel
theorem dX6_flowAll_73 : decode cX6_flowAll 73 = .ok (.aload_n 0, 1) := by decide +kernel
theorem dX6_flowAll_74 : decode cX6_flowAll 74 = .ok (.getfield 33, 3) := by decide +kernel
theorem dX6_flowAll_77 : decode cX6_flowAll 77 = .ok (.getfield 83, 3) := by decide +kernel
theorem dX6_flowAll_80 : decode cX6_flowAll 80 = .ok (.ireturn, 1) := by decide +kernel
theorem dX6_merge_0 : decode cX6_merge 0 = .ok (.iload_n 1, 1) := by decide +kernel
theorem dX6_merge_1 : decode cX6_merge 1 = .ok (.invokestatic 48, 3) := by decide +kernel
theorem dX6_merge_4 : decode cX6_merge 4 = .ok (.ifCond .eq 10, 3) := by decide +kernel
theorem dX6_merge_7 : decode cX6_merge 7 = .ok (.iload_n 2, 1) := by decide +kernel
theorem dX6_merge_8 : decode cX6_merge 8 = .ok (.invokestatic 48, 3) := by decide +kernel
theorem dX6_merge_11 : decode cX6_merge 11 = .ok (.ifCond .ne 5, 3) := by decide +kernel
theorem dX6_merge_14 : decode cX6_merge 14 = .ok (.iconst (-1), 1) := by decide +kernel
theorem dX6_merge_15 : decode cX6_merge 15 = .ok (.ireturn, 1) := by decide +kernel
theorem dX6_merge_16 : decode cX6_merge 16 = .ok (.iload_n 1, 1) := by decide +kernel
theorem dX6_merge_17 : decode cX6_merge 17 = .ok (.iload_n 2, 1) := by decide +kernel
theorem dX6_merge_18 : decode cX6_merge 18 = .ok (.if_icmp .ne 6, 3) := by decide +kernel
theorem dX6_merge_21 : decode cX6_merge 21 = .ok (.bipush (-2), 2) := by decide +kernel
theorem dX6_merge_23 : decode cX6_merge 23 = .ok (.ireturn, 1) := by decide +kernel
theorem dX6_merge_24 : decode cX6_merge 24 = .ok (.aload_n 0, 1) := by decide +kernel
theorem dX6_merge_25 : decode cX6_merge 25 = .ok (.getfield 10, 3) := by decide +kernel
theorem dX6_merge_28 : decode cX6_merge 28 = .ok (.getfield 55, 3) := by decide +kernel
theorem dX6_merge_31 : decode cX6_merge 31 = .ok (.iload_n 1, 1) := by decide +kernel
theorem dX6_merge_32 : decode cX6_merge 32 = .ok (.aaload, 1) := by decide +kernel
theorem dX6_merge_33 : decode cX6_merge 33 = .ok (.getfield 59, 3) := by decide +kernel
theorem dX6_merge_36 : decode cX6_merge 36 = .ok (.aload_n 0, 1) := by decide +kernel
theorem dX6_merge_37 : decode cX6_merge 37 = .ok (.getfield 10, 3) := by decide +kernel
theorem dX6_merge_40 : decode cX6_merge 40 = .ok (.getfield 55, 3) := by decide +kernel
theorem dX6_merge_43 : decode cX6_merge 43 = .ok (.iload_n 2, 1) := by decide +kernel
theorem dX6_merge_44 : decode cX6_merge 44 = .ok (.aaload, 1) := by decide +kernel
theorem dX6_merge_45 : decode cX6_merge 45 = .ok (.getfield 59, 3) := by decide +kernel
theorem dX6_merge_48 : decode cX6_merge 48 = .ok (.iadd, 1) := by decide +kernel
theorem dX6_merge_49 : decode cX6_merge 49 = .ok (.ldc 63, 2) := by decide +kernel
theorem dX6_merge_51 : decode cX6_merge 51 = .ok (.if_icmp .le 6, 3) := by decide +kernel
theorem dX6_merge_54 : decode cX6_merge 54 = .ok (.bipush (-3), 2) := by decide +kernel
theorem dX6_merge_56 : decode cX6_merge 56 = .ok (.ireturn, 1) := by decide +kernel
theorem dX6_merge_57 : decode cX6_merge 57 = .ok (.aload_n 0, 1) := by decide +kernel
theorem dX6_merge_58 : decode cX6_merge 58 = .ok (.getfield 19, 3) := by decide +kernel
theorem dX6_merge_61 : decode cX6_merge 61 = .ok (.aload_n 0, 1) := by decide +kernel
theorem dX6_merge_62 : decode cX6_merge 62 = .ok (.getfield 10, 3) := by decide +kernel
theorem dX6_merge_65 : decode cX6_merge 65 = .ok (.invokevirtual 64, 3) := by decide +kernel
theorem dX6_merge_68 : decode cX6_merge 68 = .ok (.aload_n 0, 1) := by decide +kernel
theorem dX6_merge_69 : decode cX6_merge 69 = .ok (.getfield 10, 3) := by decide +kernel
theorem dX6_merge_72 : decode cX6_merge 72 = .ok (.iload_n 1, 1) := by decide +kernel
theorem dX6_merge_73 : decode cX6_merge 73 = .ok (.iload_n 2, 1) := by decide +kernel
theorem dX6_merge_74 : decode cX6_merge 74 = .ok (.invokevirtual 104, 3) := by decide +kernel
theorem dX6_merge_77 : decode cX6_merge 77 = .ok (.ireturn, 1) := by decide +kernel
theorem dX6_copy_0 : decode cX6_copy 0 = .ok (.iload_n 1, 1) := by decide +kernel
theorem dX6_copy_1 : decode cX6_copy 1 = .ok (.invokestatic 48, 3) := by decide +kernel
theorem dX6_copy_4 : decode cX6_copy 4 = .ok (.ifCond .eq 10, 3) := by decide +kernel
theorem dX6_copy_7 : decode cX6_copy 7 = .ok (.iload_n 2, 1) := by decide +kernel
theorem dX6_copy_8 : decode cX6_copy 8 = .ok (.invokestatic 48, 3) := by decide +kernel
theorem dX6_copy_11 : decode cX6_copy 11 = .ok (.ifCond .ne 5, 3) := by decide +kernel
theorem dX6_copy_14 : decode cX6_copy 14 = .ok (.iconst (-1), 1) := by decide +kernel
theorem dX6_copy_15 : decode cX6_copy 15 = .ok (.ireturn, 1) := by decide +kernel
theorem dX6_copy_16 : decode cX6_copy 16 = .ok (.iload_n 1, 1) := by decide +kernel
theorem dX6_copy_17 : decode cX6_copy 17 = .ok (.iload_n 2, 1) := by decide +kernel
theorem dX6_copy_18 : decode cX6_copy 18 = .ok (.if_icmp .ne 6, 3) := by decide +kernel
theorem dX6_copy_21 : decode cX6_copy 21 = .ok (.bipush (-2), 2) := by decide +kernel
theorem dX6_copy_23 : decode cX6_copy 23 = .ok (.ireturn, 1) := by decide +kernel
theorem dX6_copy_24 : decode cX6_copy 24 = .ok (.aload_n 0, 1) := by decide +kernel
theorem dX6_copy_25 : decode cX6_copy 25 = .ok (.getfield 19, 3) := by decide +kernel
theorem dX6_copy_28 : decode cX6_copy 28 = .ok (.aload_n 0, 1) := by decide +kernel
theorem dX6_copy_29 : decode cX6_copy 29 = .ok (.getfield 10, 3) := by decide +kernel
theorem dX6_copy_32 : decode cX6_copy 32 = .ok (.invokevirtual 64, 3) := by decide +kernel
theorem dX6_copy_35 : decode cX6_copy 35 = .ok (.aload_n 0, 1) := by decide +kernel
theorem dX6_copy_36 : decode cX6_copy 36 = .ok (.getfield 10, 3) := by decide +kernel
theorem dX6_copy_39 : decode cX6_copy 39 = .ok (.getfield 55, 3) := by decide +kernel
theorem dX6_copy_42 : decode cX6_copy 42 = .ok (.iload_n 1, 1) := by decide +kernel
theorem dX6_copy_43 : decode cX6_copy 43 = .ok (.aaload, 1) := by decide +kernel
theorem dX6_copy_44 : decode cX6_copy 44 = .ok (.aload_n 0, 1) := by decide +kernel
theorem dX6_copy_45 : decode cX6_copy 45 = .ok (.getfield 10, 3) := by decide +kernel
theorem dX6_copy_48 : decode cX6_copy 48 = .ok (.getfield 55, 3) := by decide +kernel
theorem dX6_copy_51 : decode cX6_copy 51 = .ok (.iload_n 2, 1) := by decide +kernel
theorem dX6_copy_52 : decode cX6_copy 52 = .ok (.aaload, 1) := by decide +kernel
theorem dX6_copy_53 : decode cX6_copy 53 = .ok (.invokevirtual 108, 3) := by decide +kernel
theorem dX6_copy_56 : decode cX6_copy 56 = .ok (.aload_n 0, 1) := by decide +kernel
theorem dX6_copy_57 : decode cX6_copy 57 = .ok (.getfield 10, 3) := by decide +kernel
theorem dX6_copy_60 : decode cX6_copy 60 = .ok (.getfield 55, 3) := by decide +kernel
theorem dX6_copy_63 : decode cX6_copy 63 = .ok (.iload_n 1, 1) := by decide +kernel
theorem dX6_copy_64 : decode cX6_copy 64 = .ok (.aaload, 1) := by decide +kernel
theorem dX6_copy_65 : decode cX6_copy 65 = .ok (.invokevirtual 112, 3) := by decide +kernel
theorem dX6_copy_68 : decode cX6_copy 68 = .ok (.ireturn, 1) := by decide +kernel
theorem dX6_setSize_0 : decode cX6_setSize 0 = .ok (.iload_n 1, 1) := by decide +kernel
theorem dX6_setSize_1 : decode cX6_setSize 1 = .ok (.invokestatic 48, 3) := by decide +kernel
theorem dX6_setSize_4 : decode cX6_setSize 4 = .ok (.ifCond .ne 5, 3) := by decide +kernel
theorem dX6_setSize_7 : decode cX6_setSize 7 = .ok (.iconst (-1), 1) := by decide +kernel
theorem dX6_setSize_8 : decode cX6_setSize 8 = .ok (.ireturn, 1) := by decide +kernel
theorem dX6_setSize_9 : decode cX6_setSize 9 = .ok (.iload_n 2, 1) := by decide +kernel
theorem dX6_setSize_10 : decode cX6_setSize 10 = .ok (.iconst 2, 1) := by decide +kernel
theorem dX6_setSize_11 : decode cX6_setSize 11 = .ok (.if_icmp .lt 9, 3) := by decide +kernel
theorem dX6_setSize_14 : decode cX6_setSize 14 = .ok (.iload_n 2, 1) := by decide +kernel
theorem dX6_setSize_15 : decode cX6_setSize 15 = .ok (.bipush 10, 2) := by decide +kernel
theorem dX6_setSize_17 : decode cX6_setSize 17 = .ok (.if_icmp .le 6, 3) := by decide +kernel
theorem dX6_setSize_20 : decode cX6_setSize 20 = .ok (.bipush (-2), 2) := by decide +kernel
theorem dX6_setSize_22 : decode cX6_setSize 22 = .ok (.ireturn, 1) := by decide +kernel
theorem dX6_setSize_23 : decode cX6_setSize 23 = .ok (.aload_n 0, 1) := by decide +kernel
theorem dX6_setSize_24 : decode cX6_setSize 24 = .ok (.getfield 10, 3) := by decide +kernel
theorem dX6_setSize_27 : decode cX6_setSize 27 = .ok (.getfield 55, 3) := by decide +kernel
theorem dX6_setSize_30 : decode cX6_setSize 30 = .ok (.iload_n 1, 1) := by decide +kernel
theorem dX6_setSize_31 : decode cX6_setSize 31 = .ok (.aaload, 1) := by decide +kernel
theorem dX6_setSize_32 : decode cX6_setSize 32 = .ok (.getfield 115, 3) := by decide +kernel
theorem dX6_setSize_35 : decode cX6_setSize 35 = .ok (.iload_n 2, 1) := by decide +kernel
theorem dX6_setSize_36 : decode cX6_setSize 36 = .ok (.if_icmp .ne 6, 3) := by decide +kernel
theorem dX6_setSize_39 : decode cX6_setSize 39 = .ok (.bipush (-5), 2) := by decide +kernel
theorem dX6_setSize_41 : decode cX6_setSize 41 = .ok (.ireturn, 1) := by decide +kernel
theorem dX6_setSize_42 : decode cX6_setSize 42 = .ok (.aload_n 0, 1) := by decide +kernel
theorem dX6_setSize_43 : decode cX6_setSize 43 = .ok (.getfield 19, 3) := by decide +kernel
theorem dX6_setSize_46 : decode cX6_setSize 46 = .ok (.aload_n 0, 1) := by decide +kernel
theorem dX6_setSize_47 : decode cX6_setSize 47 = .ok (.getfield 10, 3) := by decide +kernel
theorem dX6_setSize_50 : decode cX6_setSize 50 = .ok (.invokevirtual 64, 3) := by decide +kernel
theorem dX6_setSize_53 : decode cX6_setSize 53 = .ok (.aload_n 0, 1) := by decide +kernel
theorem dX6_setSize_54 : decode cX6_setSize 54 = .ok (.getfield 10, 3) := by decide +kernel
theorem dX6_setSize_57 : decode cX6_setSize 57 = .ok (.iload_n 1, 1) := by decide +kernel
theorem dX6_setSize_58 : decode cX6_setSize 58 = .ok (.iload_n 2, 1) := by decide +kernel
theorem dX6_setSize_59 : decode cX6_setSize 59 = .ok (.invokevirtual 118, 3) := by decide +kernel
theorem dX6_setSize_62 : decode cX6_setSize 62 = .ok (.ireturn, 1) := by decide +kernel
theorem dX6_clear_0 : decode cX6_clear 0 = .ok (.iload_n 1, 1) := by decide +kernel
theorem dX6_clear_1 : decode cX6_clear 1 = .ok (.invokestatic 48, 3) := by decide +kernel
theorem dX6_clear_4 : decode cX6_clear 4 = .ok (.ifCond .ne 5, 3) := by decide +kernel
theorem dX6_clear_7 : decode cX6_clear 7 = .ok (.iconst (-1), 1) := by decide +kernel
theorem dX6_clear_8 : decode cX6_clear 8 = .ok (.ireturn, 1) := by decide +kernel
theorem dX6_clear_9 : decode cX6_clear 9 = .ok (.aload_n 0, 1) := by decide +kernel
theorem dX6_clear_10 : decode cX6_clear 10 = .ok (.getfield 10, 3) := by decide +kernel
theorem dX6_clear_13 : decode cX6_clear 13 = .ok (.getfield 55, 3) := by decide +kernel
theorem dX6_clear_16 : decode cX6_clear 16 = .ok (.iload_n 1, 1) := by decide +kernel
theorem dX6_clear_17 : decode cX6_clear 17 = .ok (.aaload, 1) := by decide +kernel
theorem dX6_clear_18 : decode cX6_clear 18 = .ok (.getfield 59, 3) := by decide +kernel
theorem dX6_clear_21 : decode cX6_clear 21 = .ok (.istore_n 2, 1) := by decide +kernel
theorem dX6_clear_22 : decode cX6_clear 22 = .ok (.iload_n 2, 1) := by decide +kernel
theorem dX6_clear_23 : decode cX6_clear 23 = .ok (.ifCond .ne 6, 3) := by decide +kernel
theorem dX6_clear_26 : decode cX6_clear 26 = .ok (.bipush (-5), 2) := by decide +kernel
theorem dX6_clear_28 : decode cX6_clear 28 = .ok (.ireturn, 1) := by decide +kernel
theorem dX6_clear_29 : decode cX6_clear 29 = .ok (.aload_n 0, 1) := by decide +kernel
theorem dX6_clear_30 : decode cX6_clear 30 = .ok (.getfield 19, 3) := by decide +kernel
theorem dX6_clear_33 : decode cX6_clear 33 = .ok (.aload_n 0, 1) := by decide +kernel
theorem dX6_clear_34 : decode cX6_clear 34 = .ok (.getfield 10, 3) := by decide +kernel
theorem dX6_clear_37 : decode cX6_clear 37 = .ok (.invokevirtual 64, 3) := by decide +kernel
theorem dX6_clear_40 : decode cX6_clear 40 = .ok (.aload_n 0, 1) := by decide +kernel
theorem dX6_clear_41 : decode cX6_clear 41 = .ok (.getfield 10, 3) := by decide +kernel
theorem dX6_clear_44 : decode cX6_clear 44 = .ok (.getfield 55, 3) := by decide +kernel
theorem dX6_clear_47 : decode cX6_clear 47 = .ok (.iload_n 1, 1) := by decide +kernel
theorem dX6_clear_48 : decode cX6_clear 48 = .ok (.aaload, 1) := by decide +kernel
theorem dX6_clear_49 : decode cX6_clear 49 = .ok (.invokevirtual 121, 3) := by decide +kernel
theorem dX6_clear_52 : decode cX6_clear 52 = .ok (.iload_n 2, 1) := by decide +kernel
theorem dX6_clear_53 : decode cX6_clear 53 = .ok (.ireturn, 1) := by decide +kernel
theorem dX6_type_0 : decode cX6_type 0 = .ok (.aload_n 0, 1) := by decide +kernel
theorem dX6_type_1 : decode cX6_type 1 = .ok (.getfield 33, 3) := by decide +kernel
theorem dX6_type_4 : decode cX6_type 4 = .ok (.getfield 124, 3) := by decide +kernel
theorem dX6_type_7 : decode cX6_type 7 = .ok (.bipush 60, 2) := by decide +kernel
theorem dX6_type_9 : decode cX6_type 9 = .ok (.if_icmp .lt 6, 3) := by decide +kernel
theorem dX6_type_12 : decode cX6_type 12 = .ok (.bipush (-3), 2) := by decide +kernel
theorem dX6_type_14 : decode cX6_type 14 = .ok (.ireturn, 1) := by decide +kernel
theorem dX6_type_15 : decode cX6_type 15 = .ok (.aload_n 0, 1) := by decide +kernel
theorem dX6_type_16 : decode cX6_type 16 = .ok (.getfield 33, 3) := by decide +kernel
theorem dX6_type_19 : decode cX6_type 19 = .ok (.iload_n 1, 1) := by decide +kernel
theorem dX6_type_20 : decode cX6_type 20 = .ok (.invokevirtual 127, 3) := by decide +kernel
theorem dX6_type_23 : decode cX6_type 23 = .ok (.aload_n 0, 1) := by decide +kernel
theorem dX6_type_24 : decode cX6_type 24 = .ok (.getfield 33, 3) := by decide +kernel
theorem dX6_type_27 : decode cX6_type 27 = .ok (.getfield 124, 3) := by decide +kernel
theorem dX6_type_30 : decode cX6_type 30 = .ok (.ireturn, 1) := by decide +kernel
theorem dX6_clearText_0 : decode cX6_clearText 0 = .ok (.aload_n 0, 1) := by decide +kernel
theorem dX6_clearText_1 : decode cX6_clearText 1 = .ok (.getfield 33, 3) := by decide +kernel
theorem dX6_clearText_4 : decode cX6_clearText 4 = .ok (.getfield 124, 3) := by decide +kernel
theorem dX6_clearText_7 : decode cX6_clearText 7 = .ok (.istore_n 1, 1) := by decide +kernel
theorem dX6_clearText_8 : decode cX6_clearText 8 = .ok (.aload_n 0, 1) := by decide +kernel
theorem dX6_clearText_9 : decode cX6_clearText 9 = .ok (.getfield 33, 3) := by decide +kernel
theorem dX6_clearText_12 : decode cX6_clearText 12 = .ok (.iconst 0, 1) := by decide +kernel
theorem dX6_clearText_13 : decode cX6_clearText 13 = .ok (.putfield 124, 3) := by decide +kernel
theorem dX6_clearText_16 : decode cX6_clearText 16 = .ok (.iload_n 1, 1) := by decide +kernel
theorem dX6_clearText_17 : decode cX6_clearText 17 = .ok (.ireturn, 1) := by decide +kernel
theorem dX6_perform_0 : decode cX6_perform 0 = .ok (.aload_n 0, 1) := by decide +kernel
theorem dX6_perform_1 : decode cX6_perform 1 = .ok (.getfield 33, 3) := by decide +kernel
theorem dX6_perform_4 : decode cX6_perform 4 = .ok (.invokevirtual 131, 3) := by decide +kernel
theorem dX6_perform_7 : decode cX6_perform 7 = .ok (.istore_n 1, 1) := by decide +kernel
theorem dX6_perform_8 : decode cX6_perform 8 = .ok (.iload_n 1, 1) := by decide +kernel
theorem dX6_perform_9 : decode cX6_perform 9 = .ok (.iconst (-1), 1) := by decide +kernel
theorem dX6_perform_10 : decode cX6_perform 10 = .ok (.if_icmp .eq 8, 3) := by decide +kernel
theorem dX6_perform_13 : decode cX6_perform 13 = .ok (.bipush (-100), 2) := by decide +kernel
theorem dX6_perform_15 : decode cX6_perform 15 = .ok (.iload_n 1, 1) := by decide +kernel
theorem dX6_perform_16 : decode cX6_perform 16 = .ok (.isub, 1) := by decide +kernel
theorem dX6_perform_17 : decode cX6_perform 17 = .ok (.ireturn, 1) := by decide +kernel
theorem dX6_perform_18 : decode cX6_perform 18 = .ok (.aload_n 0, 1) := by decide +kernel
theorem dX6_perform_19 : decode cX6_perform 19 = .ok (.getfield 33, 3) := by decide +kernel
theorem dX6_perform_22 : decode cX6_perform 22 = .ok (.getfield 134, 3) := by decide +kernel
theorem dX6_perform_25 : decode cX6_perform 25 = .ok (.tableswitch 84 1 3 #[27, 46, 65], 27) := by decide +kernel
theorem dX6_perform_52 : decode cX6_perform 52 = .ok (.aload_n 0, 1) := by decide +kernel
theorem dX6_perform_53 : decode cX6_perform 53 = .ok (.aload_n 0, 1) := by decide +kernel
theorem dX6_perform_54 : decode cX6_perform 54 = .ok (.getfield 33, 3) := by decide +kernel
theorem dX6_perform_57 : decode cX6_perform 57 = .ok (.getfield 137, 3) := by decide +kernel
theorem dX6_perform_60 : decode cX6_perform 60 = .ok (.aload_n 0, 1) := by decide +kernel
theorem dX6_perform_61 : decode cX6_perform 61 = .ok (.getfield 33, 3) := by decide +kernel
theorem dX6_perform_64 : decode cX6_perform 64 = .ok (.getfield 140, 3) := by decide +kernel
theorem dX6_perform_67 : decode cX6_perform 67 = .ok (.invokevirtual 143, 3) := by decide +kernel
theorem dX6_perform_70 : decode cX6_perform 70 = .ok (.ireturn, 1) := by decide +kernel
theorem dX6_perform_71 : decode cX6_perform 71 = .ok (.aload_n 0, 1) := by decide +kernel
theorem dX6_perform_72 : decode cX6_perform 72 = .ok (.aload_n 0, 1) := by decide +kernel
theorem dX6_perform_73 : decode cX6_perform 73 = .ok (.getfield 33, 3) := by decide +kernel
theorem dX6_perform_76 : decode cX6_perform 76 = .ok (.getfield 137, 3) := by decide +kernel
theorem dX6_perform_79 : decode cX6_perform 79 = .ok (.aload_n 0, 1) := by decide +kernel
theorem dX6_perform_80 : decode cX6_perform 80 = .ok (.getfield 33, 3) := by decide +kernel
theorem dX6_perform_83 : decode cX6_perform 83 = .ok (.getfield 140, 3) := by decide +kernel
theorem dX6_perform_86 : decode cX6_perform 86 = .ok (.invokevirtual 146, 3) := by decide +kernel
theorem dX6_perform_89 : decode cX6_perform 89 = .ok (.ireturn, 1) := by decide +kernel
theorem dX6_perform_90 : decode cX6_perform 90 = .ok (.aload_n 0, 1) := by decide +kernel
theorem dX6_perform_91 : decode cX6_perform 91 = .ok (.aload_n 0, 1) := by decide +kernel
theorem dX6_perform_92 : decode cX6_perform 92 = .ok (.getfield 33, 3) := by decide +kernel
theorem dX6_perform_95 : decode cX6_perform 95 = .ok (.getfield 137, 3) := by decide +kernel
theorem dX6_perform_98 : decode cX6_perform 98 = .ok (.aload_n 0, 1) := by decide +kernel
theorem dX6_perform_99 : decode cX6_perform 99 = .ok (.getfield 33, 3) := by decide +kernel
theorem dX6_perform_102 : decode cX6_perform 102 = .ok (.getfield 140, 3) := by decide +kernel
theorem dX6_perform_105 : decode cX6_perform 105 = .ok (.invokevirtual 149, 3) := by decide +kernel
theorem dX6_perform_108 : decode cX6_perform 108 = .ok (.ireturn, 1) := by decide +kernel
theorem dX6_perform_109 : decode cX6_perform 109 = .ok (.aload_n 0, 1) := by decide +kernel
theorem dX6_perform_110 : decode cX6_perform 110 = .ok (.aload_n 0, 1) := by decide +kernel
theorem dX6_perform_111 : decode cX6_perform 111 = .ok (.getfield 33, 3) := by decide +kernel
theorem dX6_perform_114 : decode cX6_perform 114 = .ok (.getfield 137, 3) := by decide +kernel
theorem dX6_perform_117 : decode cX6_perform 117 = .ok (.invokevirtual 152, 3) := by decide +kernel
theorem dX6_perform_120 : decode cX6_perform 120 = .ok (.ireturn, 1) := by decide +kernel
theorem dX6_undo_0 : decode cX6_undo 0 = .ok (.aload_n 0, 1) := by decide +kernel
theorem dX6_undo_1 : decode cX6_undo 1 = .ok (.getfield 19, 3) := by decide +kernel
theorem dX6_undo_4 : decode cX6_undo 4 = .ok (.getfield 155, 3) := by decide +kernel
theorem dX6_undo_7 : decode cX6_undo 7 = .ok (.ifCond .ne 6, 3) := by decide +kernel
theorem dX6_undo_10 : decode cX6_undo 10 = .ok (.bipush (-5), 2) := by decide +kernel
theorem dX6_undo_12 : decode cX6_undo 12 = .ok (.ireturn, 1) := by decide +kernel
theorem dX6_undo_13 : decode cX6_undo 13 = .ok (.aload_n 0, 1) := by decide +kernel
theorem dX6_undo_14 : decode cX6_undo 14 = .ok (.getfield 19, 3) := by decide +kernel
theorem dX6_undo_17 : decode cX6_undo 17 = .ok (.aload_n 0, 1) := by decide +kernel
theorem dX6_undo_18 : decode cX6_undo 18 = .ok (.getfield 10, 3) := by decide +kernel
theorem dX6_undo_21 : decode cX6_undo 21 = .ok (.invokevirtual 158, 3) := by decide +kernel
theorem dX6_undo_24 : decode cX6_undo 24 = .ok (.aload_n 0, 1) := by decide +kernel
theorem dX6_undo_25 : decode cX6_undo 25 = .ok (.getfield 19, 3) := by decide +kernel
theorem dX6_undo_28 : decode cX6_undo 28 = .ok (.getfield 155, 3) := by decide +kernel
theorem dX6_undo_31 : decode cX6_undo 31 = .ok (.ireturn, 1) := by decide +kernel
theorem dX6_keep_0 : decode cX6_keep 0 = .ok (.aload_n 0, 1) := by decide +kernel
theorem dX6_keep_1 : decode cX6_keep 1 = .ok (.getfield 23, 3) := by decide +kernel
theorem dX6_keep_4 : decode cX6_keep 4 = .ok (.aload_n 0, 1) := by decide +kernel
theorem dX6_keep_5 : decode cX6_keep 5 = .ok (.getfield 10, 3) := by decide +kernel
theorem dX6_keep_8 : decode cX6_keep 8 = .ok (.invokevirtual 161, 3) := by decide +kernel
theorem dX6_keep_11 : decode cX6_keep 11 = .ok (.aload_n 0, 1) := by decide +kernel
theorem dX6_keep_12 : decode cX6_keep 12 = .ok (.iconst 1, 1) := by decide +kernel
theorem dX6_keep_13 : decode cX6_keep 13 = .ok (.putfield 26, 3) := by decide +kernel
theorem dX6_keep_16 : decode cX6_keep 16 = .ok (.aload_n 0, 1) := by decide +kernel
theorem dX6_keep_17 : decode cX6_keep 17 = .ok (.getfield 10, 3) := by decide +kernel
theorem dX6_keep_20 : decode cX6_keep 20 = .ok (.getfield 163, 3) := by decide +kernel
theorem dX6_keep_23 : decode cX6_keep 23 = .ok (.ireturn, 1) := by decide +kernel
theorem dX6_restore_0 : decode cX6_restore 0 = .ok (.aload_n 0, 1) := by decide +kernel
theorem dX6_restore_1 : decode cX6_restore 1 = .ok (.getfield 26, 3) := by decide +kernel
theorem dX6_restore_4 : decode cX6_restore 4 = .ok (.ifCond .ne 6, 3) := by decide +kernel
theorem dX6_restore_7 : decode cX6_restore 7 = .ok (.bipush (-5), 2) := by decide +kernel
theorem dX6_restore_9 : decode cX6_restore 9 = .ok (.ireturn, 1) := by decide +kernel
theorem dX6_restore_10 : decode cX6_restore 10 = .ok (.aload_n 0, 1) := by decide +kernel
theorem dX6_restore_11 : decode cX6_restore 11 = .ok (.getfield 19, 3) := by decide +kernel
theorem dX6_restore_14 : decode cX6_restore 14 = .ok (.aload_n 0, 1) := by decide +kernel
theorem dX6_restore_15 : decode cX6_restore 15 = .ok (.getfield 10, 3) := by decide +kernel
theorem dX6_restore_18 : decode cX6_restore 18 = .ok (.invokevirtual 64, 3) := by decide +kernel
theorem dX6_restore_21 : decode cX6_restore 21 = .ok (.aload_n 0, 1) := by decide +kernel
theorem dX6_restore_22 : decode cX6_restore 22 = .ok (.getfield 10, 3) := by decide +kernel
theorem dX6_restore_25 : decode cX6_restore 25 = .ok (.aload_n 0, 1) := by decide +kernel
theorem dX6_restore_26 : decode cX6_restore 26 = .ok (.getfield 23, 3) := by decide +kernel
theorem dX6_restore_29 : decode cX6_restore 29 = .ok (.invokevirtual 161, 3) := by decide +kernel
theorem dX6_restore_32 : decode cX6_restore 32 = .ok (.aload_n 0, 1) := by decide +kernel
theorem dX6_restore_33 : decode cX6_restore 33 = .ok (.getfield 10, 3) := by decide +kernel
theorem dX6_restore_36 : decode cX6_restore 36 = .ok (.getfield 163, 3) := by decide +kernel
theorem dX6_restore_39 : decode cX6_restore 39 = .ok (.ireturn, 1) := by decide +kernel
theorem dX6_summary_0 : decode cX6_summary 0 = .ok (.aload_n 0, 1) := by decide +kernel
theorem dX6_summary_1 : decode cX6_summary 1 = .ok (.iload_n 1, 1) := by decide +kernel
theorem dX6_summary_2 : decode cX6_summary 2 = .ok (.invokevirtual 166, 3) := by decide +kernel
theorem dX6_summary_5 : decode cX6_summary 5 = .ok (.astore_n 3, 1) := by decide +kernel
theorem dX6_summary_6 : decode cX6_summary 6 = .ok (.aload_n 3, 1) := by decide +kernel
theorem dX6_summary_7 : decode cX6_summary 7 = .ok (.ifnonnull 5, 3) := by decide +kernel
theorem dX6_summary_10 : decode cX6_summary 10 = .ok (.iconst (-1), 1) := by decide +kernel
theorem dX6_summary_11 : decode cX6_summary 11 = .ok (.ireturn, 1) := by decide +kernel
theorem dX6_summary_12 : decode cX6_summary 12 = .ok (.iload_n 2, 1) := by decide +kernel
theorem dX6_summary_13 : decode cX6_summary 13 = .ok (.tableswitch 78 0 6 #[43, 48, 53, 58, 63, 68, 73], 43) := by decide +kernel
theorem dX6_summary_56 : decode cX6_summary 56 = .ok (.aload_n 3, 1) := by decide +kernel
theorem dX6_summary_57 : decode cX6_summary 57 = .ok (.getfield 115, 3) := by decide +kernel
theorem dX6_summary_60 : decode cX6_summary 60 = .ok (.ireturn, 1) := by decide +kernel
theorem dX6_summary_61 : decode cX6_summary 61 = .ok (.aload_n 3, 1) := by decide +kernel
theorem dX6_summary_62 : decode cX6_summary 62 = .ok (.invokevirtual 112, 3) := by decide +kernel
theorem dX6_summary_65 : decode cX6_summary 65 = .ok (.ireturn, 1) := by decide +kernel
theorem dX6_summary_66 : decode cX6_summary 66 = .ok (.aload_n 3, 1) := by decide +kernel
theorem dX6_summary_67 : decode cX6_summary 67 = .ok (.getfield 170, 3) := by decide +kernel
theorem dX6_summary_70 : decode cX6_summary 70 = .ok (.ireturn, 1) := by decide +kernel
theorem dX6_summary_71 : decode cX6_summary 71 = .ok (.aload_n 3, 1) := by decide +kernel
theorem dX6_summary_72 : decode cX6_summary 72 = .ok (.getfield 59, 3) := by decide +kernel
theorem dX6_summary_75 : decode cX6_summary 75 = .ok (.ireturn, 1) := by decide +kernel
theorem dX6_summary_76 : decode cX6_summary 76 = .ok (.aload_n 3, 1) := by decide +kernel
theorem dX6_summary_77 : decode cX6_summary 77 = .ok (.invokevirtual 173, 3) := by decide +kernel
theorem dX6_summary_80 : decode cX6_summary 80 = .ok (.ireturn, 1) := by decide +kernel
theorem dX6_summary_81 : decode cX6_summary 81 = .ok (.aload_n 3, 1) := by decide +kernel
theorem dX6_summary_82 : decode cX6_summary 82 = .ok (.invokevirtual 176, 3) := by decide +kernel
theorem dX6_summary_85 : decode cX6_summary 85 = .ok (.ireturn, 1) := by decide +kernel
theorem dX6_summary_86 : decode cX6_summary 86 = .ok (.aload_n 3, 1) := by decide +kernel
theorem dX6_summary_87 : decode cX6_summary 87 = .ok (.getfield 179, 3) := by decide +kernel
theorem dX6_summary_90 : decode cX6_summary 90 = .ok (.ireturn, 1) := by decide +kernel
theorem dX6_summary_91 : decode cX6_summary 91 = .ok (.bipush (-2), 2) := by decide +kernel
theorem dX6_summary_93 : decode cX6_summary 93 = .ok (.ireturn, 1) := by decide +kernel
theorem dX6_bound_0 : decode cX6_bound 0 = .ok (.aload_n 0, 1) := by decide +kernel
theorem dX6_bound_1 : decode cX6_bound 1 = .ok (.iload_n 1, 1) := by decide +kernel
theorem dX6_bound_2 : decode cX6_bound 2 = .ok (.invokevirtual 166, 3) := by decide +kernel
theorem dX6_bound_5 : decode cX6_bound 5 = .ok (.astore 4, 2) := by decide +kernel
theorem dX6_bound_7 : decode cX6_bound 7 = .ok (.iload_n 2, 1) := by decide +kernel
theorem dX6_bound_8 : decode cX6_bound 8 = .ok (.invokestatic 44, 3) := by decide +kernel
theorem dX6_bound_11 : decode cX6_bound 11 = .ok (.istore 5, 2) := by decide +kernel
theorem dX6_bound_13 : decode cX6_bound 13 = .ok (.aload 4, 2) := by decide +kernel
theorem dX6_bound_15 : decode cX6_bound 15 = .ok (.ifnull 9, 3) := by decide +kernel
theorem dX6_bound_18 : decode cX6_bound 18 = .ok (.iload 5, 2) := by decide +kernel
theorem dX6_bound_20 : decode cX6_bound 20 = .ok (.iconst (-1), 1) := by decide +kernel
theorem dX6_bound_21 : decode cX6_bound 21 = .ok (.if_icmp .ne 5, 3) := by decide +kernel
theorem dX6_bound_24 : decode cX6_bound 24 = .ok (.iconst (-1), 1) := by decide +kernel
theorem dX6_bound_25 : decode cX6_bound 25 = .ok (.ireturn, 1) := by decide +kernel
theorem dX6_bound_26 : decode cX6_bound 26 = .ok (.iload_n 3, 1) := by decide +kernel
theorem dX6_bound_27 : decode cX6_bound 27 = .ok (.tableswitch 106 0 4 #[33, 41, 49, 58, 82], 33) := by decide +kernel
theorem dX6_bound_60 : decode cX6_bound 60 = .ok (.aload 4, 2) := by decide +kernel
theorem dX6_bound_62 : decode cX6_bound 62 = .ok (.iload 5, 2) := by decide +kernel
theorem dX6_bound_64 : decode cX6_bound 64 = .ok (.invokevirtual 72, 3) := by decide +kernel
theorem dX6_bound_67 : decode cX6_bound 67 = .ok (.ireturn, 1) := by decide +kernel
theorem dX6_bound_68 : decode cX6_bound 68 = .ok (.aload 4, 2) := by decide +kernel
theorem dX6_bound_70 : decode cX6_bound 70 = .ok (.iload 5, 2) := by decide +kernel
theorem dX6_bound_72 : decode cX6_bound 72 = .ok (.invokevirtual 182, 3) := by decide +kernel
theorem dX6_bound_75 : decode cX6_bound 75 = .ok (.ireturn, 1) := by decide +kernel
theorem dX6_bound_76 : decode cX6_bound 76 = .ok (.aload 4, 2) := by decide +kernel
theorem dX6_bound_78 : decode cX6_bound 78 = .ok (.getfield 185, 3) := by decide +kernel
theorem dX6_bound_81 : decode cX6_bound 81 = .ok (.iload 5, 2) := by decide +kernel
theorem dX6_bound_83 : decode cX6_bound 83 = .ok (.iaload, 1) := by decide +kernel
theorem dX6_bound_84 : decode cX6_bound 84 = .ok (.ireturn, 1) := by decide +kernel
theorem dX6_bound_85 : decode cX6_bound 85 = .ok (.aload 4, 2) := by decide +kernel
theorem dX6_bound_87 : decode cX6_bound 87 = .ok (.iload 5, 2) := by decide +kernel
theorem dX6_bound_89 : decode cX6_bound 89 = .ok (.invokevirtual 188, 3) := by decide +kernel
theorem dX6_bound_92 : decode cX6_bound 92 = .ok (.ifCond .eq 14, 3) := by decide +kernel
theorem dX6_bound_95 : decode cX6_bound 95 = .ok (.aload 4, 2) := by decide +kernel
theorem dX6_bound_97 : decode cX6_bound 97 = .ok (.getfield 191, 3) := by decide +kernel
theorem dX6_bound_100 : decode cX6_bound 100 = .ok (.iload 5, 2) := by decide +kernel
theorem dX6_bound_102 : decode cX6_bound 102 = .ok (.iaload, 1) := by decide +kernel
theorem dX6_bound_103 : decode cX6_bound 103 = .ok (.goto 5, 3) := by decide +kernel
theorem dX6_bound_106 : decode cX6_bound 106 = .ok (.bipush (-5), 2) := by decide +kernel
theorem dX6_bound_108 : decode cX6_bound 108 = .ok (.ireturn, 1) := by decide +kernel
theorem dX6_bound_109 : decode cX6_bound 109 = .ok (.aload 4, 2) := by decide +kernel
theorem dX6_bound_111 : decode cX6_bound 111 = .ok (.iload 5, 2) := by decide +kernel
theorem dX6_bound_113 : decode cX6_bound 113 = .ok (.invokevirtual 188, 3) := by decide +kernel
theorem dX6_bound_116 : decode cX6_bound 116 = .ok (.ifCond .eq 14, 3) := by decide +kernel
theorem dX6_bound_119 : decode cX6_bound 119 = .ok (.aload 4, 2) := by decide +kernel
theorem dX6_bound_121 : decode cX6_bound 121 = .ok (.getfield 194, 3) := by decide +kernel
theorem dX6_bound_124 : decode cX6_bound 124 = .ok (.iload 5, 2) := by decide +kernel
theorem dX6_bound_126 : decode cX6_bound 126 = .ok (.iaload, 1) := by decide +kernel
theorem dX6_bound_127 : decode cX6_bound 127 = .ok (.goto 5, 3) := by decide +kernel
theorem dX6_bound_130 : decode cX6_bound 130 = .ok (.bipush (-5), 2) := by decide +kernel
theorem dX6_bound_132 : decode cX6_bound 132 = .ok (.ireturn, 1) := by decide +kernel
theorem dX6_bound_133 : decode cX6_bound 133 = .ok (.bipush (-2), 2) := by decide +kernel
theorem dX6_bound_135 : decode cX6_bound 135 = .ok (.ireturn, 1) := by decide +kernel
theorem dX6_top_0 : decode cX6_top 0 = .ok (.aload_n 0, 1) := by decide +kernel
theorem dX6_top_1 : decode cX6_top 1 = .ok (.iload_n 1, 1) := by decide +kernel
theorem dX6_top_2 : decode cX6_top 2 = .ok (.invokevirtual 166, 3) := by decide +kernel
theorem dX6_top_5 : decode cX6_top 5 = .ok (.astore 4, 2) := by decide +kernel
theorem dX6_top_7 : decode cX6_top 7 = .ok (.aload 4, 2) := by decide +kernel
theorem dX6_top_9 : decode cX6_top 9 = .ok (.ifnonnull 5, 3) := by decide +kernel
theorem dX6_top_12 : decode cX6_top 12 = .ok (.iconst (-1), 1) := by decide +kernel
theorem dX6_top_13 : decode cX6_top 13 = .ok (.ireturn, 1) := by decide +kernel
theorem dX6_top_14 : decode cX6_top 14 = .ok (.iload_n 2, 1) := by decide +kernel
theorem dX6_top_15 : decode cX6_top 15 = .ok (.ifCond .lt 12, 3) := by decide +kernel
theorem dX6_top_18 : decode cX6_top 18 = .ok (.iload_n 3, 1) := by decide +kernel
theorem dX6_top_19 : decode cX6_top 19 = .ok (.ifCond .lt 8, 3) := by decide +kernel
theorem dX6_top_22 : decode cX6_top 22 = .ok (.iload_n 3, 1) := by decide +kernel
theorem dX6_top_23 : decode cX6_top 23 = .ok (.iconst 1, 1) := by decide +kernel
theorem dX6_top_24 : decode cX6_top 24 = .ok (.if_icmp .le 6, 3) := by decide +kernel
theorem dX6_top_27 : decode cX6_top 27 = .ok (.bipush (-2), 2) := by decide +kernel
theorem dX6_top_29 : decode cX6_top 29 = .ok (.ireturn, 1) := by decide +kernel
theorem dX6_top_30 : decode cX6_top 30 = .ok (.aload 4, 2) := by decide +kernel
theorem dX6_top_32 : decode cX6_top 32 = .ok (.iload_n 2, 1) := by decide +kernel
theorem dX6_top_33 : decode cX6_top 33 = .ok (.invokevirtual 197, 3) := by decide +kernel
theorem dX6_top_36 : decode cX6_top 36 = .ok (.istore 5, 2) := by decide +kernel
theorem dX6_top_38 : decode cX6_top 38 = .ok (.iload 5, 2) := by decide +kernel
theorem dX6_top_40 : decode cX6_top 40 = .ok (.iconst (-1), 1) := by decide +kernel
theorem dX6_top_41 : decode cX6_top 41 = .ok (.if_icmp .ne 6, 3) := by decide +kernel
theorem dX6_top_44 : decode cX6_top 44 = .ok (.bipush (-5), 2) := by decide +kernel
theorem dX6_top_46 : decode cX6_top 46 = .ok (.ireturn, 1) := by decide +kernel
theorem dX6_top_47 : decode cX6_top 47 = .ok (.iload_n 3, 1) := by decide +kernel
theorem dX6_top_48 : decode cX6_top 48 = .ok (.ifCond .ne 11, 3) := by decide +kernel
theorem dX6_top_51 : decode cX6_top 51 = .ok (.iload 5, 2) := by decide +kernel
theorem dX6_top_53 : decode cX6_top 53 = .ok (.invokestatic 200, 3) := by decide +kernel
theorem dX6_top_56 : decode cX6_top 56 = .ok (.goto 11, 3) := by decide +kernel
theorem dX6_top_59 : decode cX6_top 59 = .ok (.aload 4, 2) := by decide +kernel
theorem dX6_top_61 : decode cX6_top 61 = .ok (.getfield 203, 3) := by decide +kernel
theorem dX6_top_64 : decode cX6_top 64 = .ok (.iload 5, 2) := by decide +kernel
theorem dX6_top_66 : decode cX6_top 66 = .ok (.iaload, 1) := by decide +kernel
theorem dX6_top_67 : decode cX6_top 67 = .ok (.ireturn, 1) := by decide +kernel
theorem dX6_first_0 : decode cX6_first 0 = .ok (.aload_n 0, 1) := by decide +kernel
theorem dX6_first_1 : decode cX6_first 1 = .ok (.iload_n 1, 1) := by decide +kernel
theorem dX6_first_2 : decode cX6_first 2 = .ok (.invokevirtual 166, 3) := by decide +kernel
theorem dX6_first_5 : decode cX6_first 5 = .ok (.astore 4, 2) := by decide +kernel
theorem dX6_first_7 : decode cX6_first 7 = .ok (.aload 4, 2) := by decide +kernel
theorem dX6_first_9 : decode cX6_first 9 = .ok (.ifnonnull 5, 3) := by decide +kernel
theorem dX6_first_12 : decode cX6_first 12 = .ok (.iconst (-1), 1) := by decide +kernel
theorem dX6_first_13 : decode cX6_first 13 = .ok (.ireturn, 1) := by decide +kernel
theorem dX6_first_14 : decode cX6_first 14 = .ok (.iload_n 2, 1) := by decide +kernel
theorem dX6_first_15 : decode cX6_first 15 = .ok (.iconst 1, 1) := by decide +kernel
theorem dX6_first_16 : decode cX6_first 16 = .ok (.if_icmp .lt 9, 3) := by decide +kernel
theorem dX6_first_19 : decode cX6_first 19 = .ok (.iload_n 2, 1) := by decide +kernel
theorem dX6_first_20 : decode cX6_first 20 = .ok (.bipush 25, 2) := by decide +kernel
theorem dX6_first_22 : decode cX6_first 22 = .ok (.if_icmp .le 6, 3) := by decide +kernel
theorem dX6_first_25 : decode cX6_first 25 = .ok (.bipush (-2), 2) := by decide +kernel
theorem dX6_first_27 : decode cX6_first 27 = .ok (.ireturn, 1) := by decide +kernel
theorem dX6_first_28 : decode cX6_first 28 = .ok (.iconst 0, 1) := by decide +kernel
theorem dX6_first_29 : decode cX6_first 29 = .ok (.istore 5, 2) := by decide +kernel
theorem dX6_first_31 : decode cX6_first 31 = .ok (.iconst 0, 1) := by decide +kernel
theorem dX6_first_32 : decode cX6_first 32 = .ok (.istore 6, 2) := by decide +kernel
theorem dX6_first_34 : decode cX6_first 34 = .ok (.iload 6, 2) := by decide +kernel
theorem dX6_first_36 : decode cX6_first 36 = .ok (.bipush 26, 2) := by decide +kernel
theorem dX6_first_38 : decode cX6_first 38 = .ok (.if_icmp .ge 30, 3) := by decide +kernel
theorem dX6_first_41 : decode cX6_first 41 = .ok (.aload 4, 2) := by decide +kernel
theorem dX6_first_43 : decode cX6_first 43 = .ok (.iload 6, 2) := by decide +kernel
theorem dX6_first_45 : decode cX6_first 45 = .ok (.iload_n 3, 1) := by decide +kernel
theorem dX6_first_46 : decode cX6_first 46 = .ok (.invokevirtual 206, 3) := by decide +kernel
theorem dX6_first_49 : decode cX6_first 49 = .ok (.iload_n 2, 1) := by decide +kernel
theorem dX6_first_50 : decode cX6_first 50 = .ok (.if_icmp .ge 12, 3) := by decide +kernel
theorem dX6_first_53 : decode cX6_first 53 = .ok (.iload 5, 2) := by decide +kernel
theorem dX6_first_55 : decode cX6_first 55 = .ok (.iconst 1, 1) := by decide +kernel
theorem dX6_first_56 : decode cX6_first 56 = .ok (.iload 6, 2) := by decide +kernel
theorem dX6_first_58 : decode cX6_first 58 = .ok (.ishl, 1) := by decide +kernel
theorem dX6_first_59 : decode cX6_first 59 = .ok (.ior, 1) := by decide +kernel
theorem dX6_first_60 : decode cX6_first 60 = .ok (.istore 5, 2) := by decide +kernel
theorem dX6_first_62 : decode cX6_first 62 = .ok (.iinc 6 1, 3) := by decide +kernel
theorem dX6_first_65 : decode cX6_first 65 = .ok (.goto (-31), 3) := by decide +kernel
theorem dX6_first_68 : decode cX6_first 68 = .ok (.iload 5, 2) := by decide +kernel
theorem dX6_first_70 : decode cX6_first 70 = .ok (.ireturn, 1) := by decide +kernel
theorem dX6_above_0 : decode cX6_above 0 = .ok (.aload_n 0, 1) := by decide +kernel
theorem dX6_above_1 : decode cX6_above 1 = .ok (.iload_n 1, 1) := by decide +kernel
theorem dX6_above_2 : decode cX6_above 2 = .ok (.invokevirtual 166, 3) := by decide +kernel
theorem dX6_above_5 : decode cX6_above 5 = .ok (.astore 4, 2) := by decide +kernel
theorem dX6_above_7 : decode cX6_above 7 = .ok (.aload 4, 2) := by decide +kernel
theorem dX6_above_9 : decode cX6_above 9 = .ok (.ifnonnull 5, 3) := by decide +kernel
theorem dX6_above_12 : decode cX6_above 12 = .ok (.iconst (-1), 1) := by decide +kernel
theorem dX6_above_13 : decode cX6_above 13 = .ok (.ireturn, 1) := by decide +kernel
theorem dX6_above_14 : decode cX6_above 14 = .ok (.iload_n 2, 1) := by decide +kernel
theorem dX6_above_15 : decode cX6_above 15 = .ok (.iconst 1, 1) := by decide +kernel
theorem dX6_above_16 : decode cX6_above 16 = .ok (.if_icmp .lt 9, 3) := by decide +kernel
theorem dX6_above_19 : decode cX6_above 19 = .ok (.iload_n 2, 1) := by decide +kernel
theorem dX6_above_20 : decode cX6_above 20 = .ok (.bipush 99, 2) := by decide +kernel
theorem dX6_above_22 : decode cX6_above 22 = .ok (.if_icmp .le 6, 3) := by decide +kernel
theorem dX6_above_25 : decode cX6_above 25 = .ok (.bipush (-2), 2) := by decide +kernel
theorem dX6_above_27 : decode cX6_above 27 = .ok (.ireturn, 1) := by decide +kernel
theorem dX6_above_28 : decode cX6_above 28 = .ok (.iconst 0, 1) := by decide +kernel
theorem dX6_above_29 : decode cX6_above 29 = .ok (.istore 5, 2) := by decide +kernel
theorem dX6_above_31 : decode cX6_above 31 = .ok (.iconst 0, 1) := by decide +kernel
theorem dX6_above_32 : decode cX6_above 32 = .ok (.istore 6, 2) := by decide +kernel
theorem dX6_above_34 : decode cX6_above 34 = .ok (.iload 6, 2) := by decide +kernel
theorem dX6_above_36 : decode cX6_above 36 = .ok (.bipush 26, 2) := by decide +kernel
theorem dX6_above_38 : decode cX6_above 38 = .ok (.if_icmp .ge 61, 3) := by decide +kernel
theorem dX6_above_41 : decode cX6_above 41 = .ok (.iload_n 3, 1) := by decide +kernel
theorem dX6_above_42 : decode cX6_above 42 = .ok (.ifCond .eq 13, 3) := by decide +kernel
theorem dX6_above_45 : decode cX6_above 45 = .ok (.aload 4, 2) := by decide +kernel
theorem dX6_above_47 : decode cX6_above 47 = .ok (.iload 6, 2) := by decide +kernel
theorem dX6_above_49 : decode cX6_above 49 = .ok (.invokevirtual 182, 3) := by decide +kernel
theorem dX6_above_52 : decode cX6_above 52 = .ok (.goto 10, 3) := by decide +kernel
theorem dX6_above_55 : decode cX6_above 55 = .ok (.aload 4, 2) := by decide +kernel
theorem dX6_above_57 : decode cX6_above 57 = .ok (.iload 6, 2) := by decide +kernel
theorem dX6_above_59 : decode cX6_above 59 = .ok (.invokevirtual 72, 3) := by decide +kernel
theorem dX6_above_62 : decode cX6_above 62 = .ok (.istore 7, 2) := by decide +kernel
theorem dX6_above_64 : decode cX6_above 64 = .ok (.iload 7, 2) := by decide +kernel
theorem dX6_above_66 : decode cX6_above 66 = .ok (.i2l, 1) := by decide +kernel
theorem dX6_above_67 : decode cX6_above 67 = .ok (.ldc2_w 210, 3) := by decide +kernel
theorem dX6_above_70 : decode cX6_above 70 = .ok (.lmul, 1) := by decide +kernel
theorem dX6_above_71 : decode cX6_above 71 = .ok (.iload_n 2, 1) := by decide +kernel
theorem dX6_above_72 : decode cX6_above 72 = .ok (.i2l, 1) := by decide +kernel
theorem dX6_above_73 : decode cX6_above 73 = .ok (.aload 4, 2) := by decide +kernel
theorem dX6_above_75 : decode cX6_above 75 = .ok (.getfield 59, 3) := by decide +kernel
theorem dX6_above_78 : decode cX6_above 78 = .ok (.i2l, 1) := by decide +kernel
theorem dX6_above_79 : decode cX6_above 79 = .ok (.lmul, 1) := by decide +kernel
theorem dX6_above_80 : decode cX6_above 80 = .ok (.lcmp, 1) := by decide +kernel
theorem dX6_above_81 : decode cX6_above 81 = .ok (.ifCond .le 12, 3) := by decide +kernel
theorem dX6_above_84 : decode cX6_above 84 = .ok (.iload 5, 2) := by decide +kernel
theorem dX6_above_86 : decode cX6_above 86 = .ok (.iconst 1, 1) := by decide +kernel
theorem dX6_above_87 : decode cX6_above 87 = .ok (.iload 6, 2) := by decide +kernel
theorem dX6_above_89 : decode cX6_above 89 = .ok (.ishl, 1) := by decide +kernel
theorem dX6_above_90 : decode cX6_above 90 = .ok (.ior, 1) := by decide +kernel
theorem dX6_above_91 : decode cX6_above 91 = .ok (.istore 5, 2) := by decide +kernel
theorem dX6_above_93 : decode cX6_above 93 = .ok (.iinc 6 1, 3) := by decide +kernel
theorem dX6_above_96 : decode cX6_above 96 = .ok (.goto (-62), 3) := by decide +kernel
theorem dX6_above_99 : decode cX6_above 99 = .ok (.iload 5, 2) := by decide +kernel
theorem dX6_above_101 : decode cX6_above 101 = .ok (.ireturn, 1) := by decide +kernel
theorem dX6_rank_0 : decode cX6_rank 0 = .ok (.aload_n 0, 1) := by decide +kernel
theorem dX6_rank_1 : decode cX6_rank 1 = .ok (.iload_n 1, 1) := by decide +kernel
theorem dX6_rank_2 : decode cX6_rank 2 = .ok (.invokevirtual 166, 3) := by decide +kernel
theorem dX6_rank_5 : decode cX6_rank 5 = .ok (.astore 4, 2) := by decide +kernel
theorem dX6_rank_7 : decode cX6_rank 7 = .ok (.iload_n 2, 1) := by decide +kernel
theorem dX6_rank_8 : decode cX6_rank 8 = .ok (.invokestatic 44, 3) := by decide +kernel
theorem dX6_rank_11 : decode cX6_rank 11 = .ok (.istore 5, 2) := by decide +kernel
theorem dX6_rank_13 : decode cX6_rank 13 = .ok (.aload 4, 2) := by decide +kernel
theorem dX6_rank_15 : decode cX6_rank 15 = .ok (.ifnull 9, 3) := by decide +kernel
theorem dX6_rank_18 : decode cX6_rank 18 = .ok (.iload 5, 2) := by decide +kernel
theorem dX6_rank_20 : decode cX6_rank 20 = .ok (.iconst (-1), 1) := by decide +kernel
theorem dX6_rank_21 : decode cX6_rank 21 = .ok (.if_icmp .ne 5, 3) := by decide +kernel
theorem dX6_rank_24 : decode cX6_rank 24 = .ok (.iconst (-1), 1) := by decide +kernel
theorem dX6_rank_25 : decode cX6_rank 25 = .ok (.ireturn, 1) := by decide +kernel
theorem dX6_rank_26 : decode cX6_rank 26 = .ok (.iconst 1, 1) := by decide +kernel
theorem dX6_rank_27 : decode cX6_rank 27 = .ok (.aload 4, 2) := by decide +kernel
theorem dX6_rank_29 : decode cX6_rank 29 = .ok (.iload 5, 2) := by decide +kernel
theorem dX6_rank_31 : decode cX6_rank 31 = .ok (.iload_n 3, 1) := by decide +kernel
theorem dX6_rank_32 : decode cX6_rank 32 = .ok (.invokevirtual 206, 3) := by decide +kernel
theorem dX6_rank_35 : decode cX6_rank 35 = .ok (.iadd, 1) := by decide +kernel
theorem dX6_rank_36 : decode cX6_rank 36 = .ok (.ireturn, 1) := by decide +kernel
theorem dX6_alike_0 : decode cX6_alike 0 = .ok (.aload_n 0, 1) := by decide +kernel
theorem dX6_alike_1 : decode cX6_alike 1 = .ok (.iload_n 1, 1) := by decide +kernel
theorem dX6_alike_2 : decode cX6_alike 2 = .ok (.invokevirtual 166, 3) := by decide +kernel
theorem dX6_alike_5 : decode cX6_alike 5 = .ok (.astore_n 3, 1) := by decide +kernel
theorem dX6_alike_6 : decode cX6_alike 6 = .ok (.aload_n 0, 1) := by decide +kernel
theorem dX6_alike_7 : decode cX6_alike 7 = .ok (.iload_n 2, 1) := by decide +kernel
theorem dX6_alike_8 : decode cX6_alike 8 = .ok (.invokevirtual 166, 3) := by decide +kernel
theorem dX6_alike_11 : decode cX6_alike 11 = .ok (.astore 4, 2) := by decide +kernel
theorem dX6_alike_13 : decode cX6_alike 13 = .ok (.aload_n 3, 1) := by decide +kernel
theorem dX6_alike_14 : decode cX6_alike 14 = .ok (.ifnull 8, 3) := by decide +kernel
theorem dX6_alike_17 : decode cX6_alike 17 = .ok (.aload 4, 2) := by decide +kernel
theorem dX6_alike_19 : decode cX6_alike 19 = .ok (.ifnonnull 5, 3) := by decide +kernel
theorem dX6_alike_22 : decode cX6_alike 22 = .ok (.iconst (-1), 1) := by decide +kernel
theorem dX6_alike_23 : decode cX6_alike 23 = .ok (.ireturn, 1) := by decide +kernel
theorem dX6_alike_24 : decode cX6_alike 24 = .ok (.iconst 0, 1) := by decide +kernel
theorem dX6_alike_25 : decode cX6_alike 25 = .ok (.istore 5, 2) := by decide +kernel
theorem dX6_alike_27 : decode cX6_alike 27 = .ok (.iconst 0, 1) := by decide +kernel
theorem dX6_alike_28 : decode cX6_alike 28 = .ok (.istore 6, 2) := by decide +kernel
theorem dX6_alike_30 : decode cX6_alike 30 = .ok (.iload 6, 2) := by decide +kernel
theorem dX6_alike_32 : decode cX6_alike 32 = .ok (.bipush 26, 2) := by decide +kernel
theorem dX6_alike_34 : decode cX6_alike 34 = .ok (.if_icmp .ge 44, 3) := by decide +kernel
theorem dX6_alike_37 : decode cX6_alike 37 = .ok (.aload_n 3, 1) := by decide +kernel
theorem dX6_alike_38 : decode cX6_alike 38 = .ok (.iload 6, 2) := by decide +kernel
theorem dX6_alike_40 : decode cX6_alike 40 = .ok (.invokevirtual 182, 3) := by decide +kernel
theorem dX6_alike_43 : decode cX6_alike 43 = .ok (.aload 4, 2) := by decide +kernel
theorem dX6_alike_45 : decode cX6_alike 45 = .ok (.iload 6, 2) := by decide +kernel
theorem dX6_alike_47 : decode cX6_alike 47 = .ok (.invokevirtual 72, 3) := by decide +kernel
theorem dX6_alike_50 : decode cX6_alike 50 = .ok (.if_icmp .gt 22, 3) := by decide +kernel
theorem dX6_alike_53 : decode cX6_alike 53 = .ok (.aload 4, 2) := by decide +kernel
theorem dX6_alike_55 : decode cX6_alike 55 = .ok (.iload 6, 2) := by decide +kernel
theorem dX6_alike_57 : decode cX6_alike 57 = .ok (.invokevirtual 182, 3) := by decide +kernel
theorem dX6_alike_60 : decode cX6_alike 60 = .ok (.aload_n 3, 1) := by decide +kernel
theorem dX6_alike_61 : decode cX6_alike 61 = .ok (.iload 6, 2) := by decide +kernel
theorem dX6_alike_63 : decode cX6_alike 63 = .ok (.invokevirtual 72, 3) := by decide +kernel
theorem dX6_alike_66 : decode cX6_alike 66 = .ok (.if_icmp .gt 6, 3) := by decide +kernel
theorem dX6_alike_69 : decode cX6_alike 69 = .ok (.iinc 5 1, 3) := by decide +kernel
theorem dX6_alike_72 : decode cX6_alike 72 = .ok (.iinc 6 1, 3) := by decide +kernel
theorem dX6_alike_75 : decode cX6_alike 75 = .ok (.goto (-45), 3) := by decide +kernel
theorem dX6_alike_78 : decode cX6_alike 78 = .ok (.iload 5, 2) := by decide +kernel
theorem dX6_alike_80 : decode cX6_alike 80 = .ok (.ireturn, 1) := by decide +kernel
theorem dX6_wouldEvict_0 : decode cX6_wouldEvict 0 = .ok (.iload_n 2, 1) := by decide +kernel
theorem dX6_wouldEvict_1 : decode cX6_wouldEvict 1 = .ok (.invokestatic 44, 3) := by decide +kernel
theorem dX6_wouldEvict_4 : decode cX6_wouldEvict 4 = .ok (.istore_n 3, 1) := by decide +kernel
theorem dX6_wouldEvict_5 : decode cX6_wouldEvict 5 = .ok (.iload_n 1, 1) := by decide +kernel
theorem dX6_wouldEvict_6 : decode cX6_wouldEvict 6 = .ok (.invokestatic 48, 3) := by decide +kernel
theorem dX6_wouldEvict_9 : decode cX6_wouldEvict 9 = .ok (.ifCond .eq 8, 3) := by decide +kernel
theorem dX6_wouldEvict_12 : decode cX6_wouldEvict 12 = .ok (.iload_n 3, 1) := by decide +kernel
theorem dX6_wouldEvict_13 : decode cX6_wouldEvict 13 = .ok (.iconst (-1), 1) := by decide +kernel
theorem dX6_wouldEvict_14 : decode cX6_wouldEvict 14 = .ok (.if_icmp .ne 5, 3) := by decide +kernel
theorem dX6_wouldEvict_17 : decode cX6_wouldEvict 17 = .ok (.iconst (-1), 1) := by decide +kernel
theorem dX6_wouldEvict_18 : decode cX6_wouldEvict 18 = .ok (.ireturn, 1) := by decide +kernel
theorem dX6_wouldEvict_19 : decode cX6_wouldEvict 19 = .ok (.aload_n 0, 1) := by decide +kernel
theorem dX6_wouldEvict_20 : decode cX6_wouldEvict 20 = .ok (.getfield 10, 3) := by decide +kernel
theorem dX6_wouldEvict_23 : decode cX6_wouldEvict 23 = .ok (.getfield 55, 3) := by decide +kernel
theorem dX6_wouldEvict_26 : decode cX6_wouldEvict 26 = .ok (.iload_n 1, 1) := by decide +kernel
theorem dX6_wouldEvict_27 : decode cX6_wouldEvict 27 = .ok (.aaload, 1) := by decide +kernel
theorem dX6_wouldEvict_28 : decode cX6_wouldEvict 28 = .ok (.astore 4, 2) := by decide +kernel
theorem dX6_wouldEvict_30 : decode cX6_wouldEvict 30 = .ok (.aload 4, 2) := by decide +kernel
theorem dX6_wouldEvict_32 : decode cX6_wouldEvict 32 = .ok (.iload_n 3, 1) := by decide +kernel
theorem dX6_wouldEvict_33 : decode cX6_wouldEvict 33 = .ok (.invokevirtual 212, 3) := by decide +kernel
theorem dX6_wouldEvict_36 : decode cX6_wouldEvict 36 = .ok (.ifCond .eq 11, 3) := by decide +kernel
theorem dX6_wouldEvict_39 : decode cX6_wouldEvict 39 = .ok (.aload 4, 2) := by decide +kernel
theorem dX6_wouldEvict_41 : decode cX6_wouldEvict 41 = .ok (.invokevirtual 215, 3) := by decide +kernel
theorem dX6_wouldEvict_44 : decode cX6_wouldEvict 44 = .ok (.goto 4, 3) := by decide +kernel
theorem dX6_wouldEvict_47 : decode cX6_wouldEvict 47 = .ok (.iconst (-1), 1) := by decide +kernel
theorem dX6_wouldEvict_48 : decode cX6_wouldEvict 48 = .ok (.istore 5, 2) := by decide +kernel
theorem dX6_wouldEvict_50 : decode cX6_wouldEvict 50 = .ok (.iload 5, 2) := by decide +kernel
theorem dX6_wouldEvict_52 : decode cX6_wouldEvict 52 = .ok (.iconst (-1), 1) := by decide +kernel
theorem dX6_wouldEvict_53 : decode cX6_wouldEvict 53 = .ok (.if_icmp .ne 8, 3) := by decide +kernel
theorem dX6_wouldEvict_56 : decode cX6_wouldEvict 56 = .ok (.bipush (-5), 2) := by decide +kernel
theorem dX6_wouldEvict_58 : decode cX6_wouldEvict 58 = .ok (.goto 8, 3) := by decide +kernel
theorem dX6_wouldEvict_61 : decode cX6_wouldEvict 61 = .ok (.iload 5, 2) := by decide +kernel
theorem dX6_wouldEvict_63 : decode cX6_wouldEvict 63 = .ok (.invokestatic 200, 3) := by decide +kernel
theorem dX6_wouldEvict_66 : decode cX6_wouldEvict 66 = .ok (.ireturn, 1) := by decide +kernel
theorem dX6_block_0 : decode cX6_block 0 = .ok (.iload_n 1, 1) := by decide +kernel
theorem dX6_block_1 : decode cX6_block 1 = .ok (.ifCond .lt 17, 3) := by decide +kernel
theorem dX6_block_4 : decode cX6_block 4 = .ok (.iload_n 1, 1) := by decide +kernel
theorem dX6_block_5 : decode cX6_block 5 = .ok (.aload_n 0, 1) := by decide +kernel
theorem dX6_block_6 : decode cX6_block 6 = .ok (.getfield 10, 3) := by decide +kernel
theorem dX6_block_9 : decode cX6_block 9 = .ok (.getfield 97, 3) := by decide +kernel
theorem dX6_block_12 : decode cX6_block 12 = .ok (.getfield 218, 3) := by decide +kernel
theorem dX6_block_15 : decode cX6_block 15 = .ok (.if_icmp .lt 5, 3) := by decide +kernel
theorem dX6_block_18 : decode cX6_block 18 = .ok (.iconst (-1), 1) := by decide +kernel
theorem dX6_block_19 : decode cX6_block 19 = .ok (.ireturn, 1) := by decide +kernel
theorem dX6_block_20 : decode cX6_block 20 = .ok (.aload_n 0, 1) := by decide +kernel
theorem dX6_block_21 : decode cX6_block 21 = .ok (.getfield 10, 3) := by decide +kernel
theorem dX6_block_24 : decode cX6_block 24 = .ok (.getfield 97, 3) := by decide +kernel
theorem dX6_block_27 : decode cX6_block 27 = .ok (.iload_n 1, 1) := by decide +kernel
theorem dX6_block_28 : decode cX6_block 28 = .ok (.invokevirtual 221, 3) := by decide +kernel
theorem dX6_block_31 : decode cX6_block 31 = .ok (.astore_n 3, 1) := by decide +kernel
theorem dX6_block_32 : decode cX6_block 32 = .ok (.iload_n 2, 1) := by decide +kernel
theorem dX6_block_33 : decode cX6_block 33 = .ok (.tableswitch 58 0 3 #[31, 43, 48, 53], 31) := by decide +kernel
theorem dX6_block_64 : decode cX6_block 64 = .ok (.aload_n 0, 1) := by decide +kernel
theorem dX6_block_65 : decode cX6_block 65 = .ok (.getfield 10, 3) := by decide +kernel
theorem dX6_block_68 : decode cX6_block 68 = .ok (.getfield 97, 3) := by decide +kernel
theorem dX6_block_71 : decode cX6_block 71 = .ok (.iload_n 1, 1) := by decide +kernel
theorem dX6_block_72 : decode cX6_block 72 = .ok (.invokevirtual 224, 3) := by decide +kernel
theorem dX6_block_75 : decode cX6_block 75 = .ok (.ireturn, 1) := by decide +kernel
theorem dX6_block_76 : decode cX6_block 76 = .ok (.aload_n 3, 1) := by decide +kernel
theorem dX6_block_77 : decode cX6_block 77 = .ok (.getfield 59, 3) := by decide +kernel
theorem dX6_block_80 : decode cX6_block 80 = .ok (.ireturn, 1) := by decide +kernel
theorem dX6_block_81 : decode cX6_block 81 = .ok (.aload_n 3, 1) := by decide +kernel
theorem dX6_block_82 : decode cX6_block 82 = .ok (.invokevirtual 112, 3) := by decide +kernel
theorem dX6_block_85 : decode cX6_block 85 = .ok (.ireturn, 1) := by decide +kernel
theorem dX6_block_86 : decode cX6_block 86 = .ok (.aload_n 3, 1) := by decide +kernel
theorem dX6_block_87 : decode cX6_block 87 = .ok (.getfield 170, 3) := by decide +kernel
theorem dX6_block_90 : decode cX6_block 90 = .ok (.ireturn, 1) := by decide +kernel
theorem dX6_block_91 : decode cX6_block 91 = .ok (.bipush (-2), 2) := by decide +kernel
theorem dX6_block_93 : decode cX6_block 93 = .ok (.ireturn, 1) := by decide +kernel
theorem dX6_event_0 : decode cX6_event 0 = .ok (.iload_n 1, 1) := by decide +kernel
theorem dX6_event_1 : decode cX6_event 1 = .ok (.ifCond .lt 12, 3) := by decide +kernel
theorem dX6_event_4 : decode cX6_event 4 = .ok (.iload_n 2, 1) := by decide +kernel
theorem dX6_event_5 : decode cX6_event 5 = .ok (.ifCond .lt 8, 3) := by decide +kernel
theorem dX6_event_8 : decode cX6_event 8 = .ok (.iload_n 2, 1) := by decide +kernel
theorem dX6_event_9 : decode cX6_event 9 = .ok (.iconst 3, 1) := by decide +kernel
theorem dX6_event_10 : decode cX6_event 10 = .ok (.if_icmp .le 6, 3) := by decide +kernel
theorem dX6_event_13 : decode cX6_event 13 = .ok (.bipush (-2), 2) := by decide +kernel
theorem dX6_event_15 : decode cX6_event 15 = .ok (.ireturn, 1) := by decide +kernel
theorem dX6_event_16 : decode cX6_event 16 = .ok (.iload_n 1, 1) := by decide +kernel
theorem dX6_event_17 : decode cX6_event 17 = .ok (.aload_n 0, 1) := by decide +kernel
theorem dX6_event_18 : decode cX6_event 18 = .ok (.getfield 10, 3) := by decide +kernel
theorem dX6_event_21 : decode cX6_event 21 = .ok (.getfield 227, 3) := by decide +kernel
theorem dX6_event_24 : decode cX6_event 24 = .ok (.getfield 231, 3) := by decide +kernel
theorem dX6_event_27 : decode cX6_event 27 = .ok (.if_icmp .lt 6, 3) := by decide +kernel
theorem dX6_event_30 : decode cX6_event 30 = .ok (.bipush (-5), 2) := by decide +kernel
theorem dX6_event_32 : decode cX6_event 32 = .ok (.ireturn, 1) := by decide +kernel
theorem dX6_event_33 : decode cX6_event 33 = .ok (.aload_n 0, 1) := by decide +kernel
theorem dX6_event_34 : decode cX6_event 34 = .ok (.getfield 10, 3) := by decide +kernel
theorem dX6_event_37 : decode cX6_event 37 = .ok (.getfield 227, 3) := by decide +kernel
theorem dX6_event_40 : decode cX6_event 40 = .ok (.iload_n 1, 1) := by decide +kernel
theorem dX6_event_41 : decode cX6_event 41 = .ok (.invokevirtual 234, 3) := by decide +kernel
theorem dX6_event_44 : decode cX6_event 44 = .ok (.istore_n 3, 1) := by decide +kernel
theorem dX6_event_45 : decode cX6_event 45 = .ok (.iload_n 2, 1) := by decide +kernel
theorem dX6_event_46 : decode cX6_event 46 = .ok (.tableswitch 65 0 2 #[26, 39, 52], 26) := by decide +kernel
theorem dX6_event_72 : decode cX6_event 72 = .ok (.aload_n 0, 1) := by decide +kernel
theorem dX6_event_73 : decode cX6_event 73 = .ok (.getfield 10, 3) := by decide +kernel
theorem dX6_event_76 : decode cX6_event 76 = .ok (.getfield 227, 3) := by decide +kernel
theorem dX6_event_79 : decode cX6_event 79 = .ok (.getfield 237, 3) := by decide +kernel
theorem dX6_event_82 : decode cX6_event 82 = .ok (.iload_n 3, 1) := by decide +kernel
theorem dX6_event_83 : decode cX6_event 83 = .ok (.iaload, 1) := by decide +kernel
theorem dX6_event_84 : decode cX6_event 84 = .ok (.ireturn, 1) := by decide +kernel
theorem dX6_event_85 : decode cX6_event 85 = .ok (.aload_n 0, 1) := by decide +kernel
theorem dX6_event_86 : decode cX6_event 86 = .ok (.getfield 10, 3) := by decide +kernel
theorem dX6_event_89 : decode cX6_event 89 = .ok (.getfield 227, 3) := by decide +kernel
theorem dX6_event_92 : decode cX6_event 92 = .ok (.getfield 240, 3) := by decide +kernel
theorem dX6_event_95 : decode cX6_event 95 = .ok (.iload_n 3, 1) := by decide +kernel
theorem dX6_event_96 : decode cX6_event 96 = .ok (.iaload, 1) := by decide +kernel
theorem dX6_event_97 : decode cX6_event 97 = .ok (.ireturn, 1) := by decide +kernel
theorem dX6_event_98 : decode cX6_event 98 = .ok (.aload_n 0, 1) := by decide +kernel
theorem dX6_event_99 : decode cX6_event 99 = .ok (.getfield 10, 3) := by decide +kernel
theorem dX6_event_102 : decode cX6_event 102 = .ok (.getfield 227, 3) := by decide +kernel
theorem dX6_event_105 : decode cX6_event 105 = .ok (.getfield 243, 3) := by decide +kernel
theorem dX6_event_108 : decode cX6_event 108 = .ok (.iload_n 3, 1) := by decide +kernel
theorem dX6_event_109 : decode cX6_event 109 = .ok (.iaload, 1) := by decide +kernel
theorem dX6_event_110 : decode cX6_event 110 = .ok (.ireturn, 1) := by decide +kernel
theorem dX6_event_111 : decode cX6_event 111 = .ok (.aload_n 0, 1) := by decide +kernel
theorem dX6_event_112 : decode cX6_event 112 = .ok (.getfield 10, 3) := by decide +kernel
theorem dX6_event_115 : decode cX6_event 115 = .ok (.getfield 227, 3) := by decide +kernel
theorem dX6_event_118 : decode cX6_event 118 = .ok (.getfield 246, 3) := by decide +kernel
theorem dX6_event_121 : decode cX6_event 121 = .ok (.iload_n 3, 1) := by decide +kernel
theorem dX6_event_122 : decode cX6_event 122 = .ok (.iaload, 1) := by decide +kernel
theorem dX6_event_123 : decode cX6_event 123 = .ok (.ireturn, 1) := by decide +kernel
theorem dX6_count_0 : decode cX6_count 0 = .ok (.iload_n 1, 1) := by decide +kernel
theorem dX6_count_1 : decode cX6_count 1 = .ok (.tableswitch 120 0 7 #[47, 55, 63, 71, 82, 93, 104, 112], 47) := by decide +kernel
theorem dX6_count_48 : decode cX6_count 48 = .ok (.aload_n 0, 1) := by decide +kernel
theorem dX6_count_49 : decode cX6_count 49 = .ok (.getfield 10, 3) := by decide +kernel
theorem dX6_count_52 : decode cX6_count 52 = .ok (.getfield 163, 3) := by decide +kernel
theorem dX6_count_55 : decode cX6_count 55 = .ok (.ireturn, 1) := by decide +kernel
theorem dX6_count_56 : decode cX6_count 56 = .ok (.aload_n 0, 1) := by decide +kernel
theorem dX6_count_57 : decode cX6_count 57 = .ok (.getfield 10, 3) := by decide +kernel
theorem dX6_count_60 : decode cX6_count 60 = .ok (.getfield 247, 3) := by decide +kernel
theorem dX6_count_63 : decode cX6_count 63 = .ok (.ireturn, 1) := by decide +kernel
theorem dX6_count_64 : decode cX6_count 64 = .ok (.aload_n 0, 1) := by decide +kernel
theorem dX6_count_65 : decode cX6_count 65 = .ok (.getfield 10, 3) := by decide +kernel
theorem dX6_count_68 : decode cX6_count 68 = .ok (.getfield 250, 3) := by decide +kernel
theorem dX6_count_71 : decode cX6_count 71 = .ok (.ireturn, 1) := by decide +kernel
theorem dX6_count_72 : decode cX6_count 72 = .ok (.aload_n 0, 1) := by decide +kernel
theorem dX6_count_73 : decode cX6_count 73 = .ok (.getfield 10, 3) := by decide +kernel
theorem dX6_count_76 : decode cX6_count 76 = .ok (.getfield 97, 3) := by decide +kernel
theorem dX6_count_79 : decode cX6_count 79 = .ok (.getfield 253, 3) := by decide +kernel
theorem dX6_count_82 : decode cX6_count 82 = .ok (.ireturn, 1) := by decide +kernel
theorem dX6_count_83 : decode cX6_count 83 = .ok (.aload_n 0, 1) := by decide +kernel
theorem dX6_count_84 : decode cX6_count 84 = .ok (.getfield 10, 3) := by decide +kernel
theorem dX6_count_87 : decode cX6_count 87 = .ok (.getfield 97, 3) := by decide +kernel
theorem dX6_count_90 : decode cX6_count 90 = .ok (.getfield 218, 3) := by decide +kernel
theorem dX6_count_93 : decode cX6_count 93 = .ok (.ireturn, 1) := by decide +kernel
theorem dX6_count_94 : decode cX6_count 94 = .ok (.aload_n 0, 1) := by decide +kernel
theorem dX6_count_95 : decode cX6_count 95 = .ok (.getfield 10, 3) := by decide +kernel
theorem dX6_count_98 : decode cX6_count 98 = .ok (.getfield 97, 3) := by decide +kernel
theorem dX6_count_101 : decode cX6_count 101 = .ok (.getfield 101, 3) := by decide +kernel
theorem dX6_count_104 : decode cX6_count 104 = .ok (.ireturn, 1) := by decide +kernel
theorem dX6_count_105 : decode cX6_count 105 = .ok (.aload_n 0, 1) := by decide +kernel
theorem dX6_count_106 : decode cX6_count 106 = .ok (.getfield 19, 3) := by decide +kernel
theorem dX6_count_109 : decode cX6_count 109 = .ok (.getfield 155, 3) := by decide +kernel
theorem dX6_count_112 : decode cX6_count 112 = .ok (.ireturn, 1) := by decide +kernel
theorem dX6_count_113 : decode cX6_count 113 = .ok (.aload_n 0, 1) := by decide +kernel
theorem dX6_count_114 : decode cX6_count 114 = .ok (.getfield 33, 3) := by decide +kernel
theorem dX6_count_117 : decode cX6_count 117 = .ok (.getfield 124, 3) := by decide +kernel
theorem dX6_count_120 : decode cX6_count 120 = .ok (.ireturn, 1) := by decide +kernel
theorem dX6_count_121 : decode cX6_count 121 = .ok (.bipush (-2), 2) := by decide +kernel
theorem dX6_count_123 : decode cX6_count 123 = .ok (.ireturn, 1) := by decide +kernel
theorem dX6_isSummary_0 : decode cX6_isSummary 0 = .ok (.iload_n 0, 1) := by decide +kernel
theorem dX6_isSummary_1 : decode cX6_isSummary 1 = .ok (.ifCond .lt 12, 3) := by decide +kernel
theorem dX6_isSummary_4 : decode cX6_isSummary 4 = .ok (.iload_n 0, 1) := by decide +kernel
theorem dX6_isSummary_5 : decode cX6_isSummary 5 = .ok (.iconst 4, 1) := by decide +kernel
theorem dX6_isSummary_6 : decode cX6_isSummary 6 = .ok (.if_icmp .ge 7, 3) := by decide +kernel
theorem dX6_isSummary_9 : decode cX6_isSummary 9 = .ok (.iconst 1, 1) := by decide +kernel
theorem dX6_isSummary_10 : decode cX6_isSummary 10 = .ok (.goto 4, 3) := by decide +kernel
theorem dX6_isSummary_13 : decode cX6_isSummary 13 = .ok (.iconst 0, 1) := by decide +kernel
theorem dX6_isSummary_14 : decode cX6_isSummary 14 = .ok (.ireturn, 1) := by decide +kernel
theorem dX6_isWeight_0 : decode cX6_isWeight 0 = .ok (.iload_n 0, 1) := by decide +kernel
theorem dX6_isWeight_1 : decode cX6_isWeight 1 = .ok (.iconst 1, 1) := by decide +kernel
theorem dX6_isWeight_2 : decode cX6_isWeight 2 = .ok (.if_icmp .lt 13, 3) := by decide +kernel
theorem dX6_isWeight_5 : decode cX6_isWeight 5 = .ok (.iload_n 0, 1) := by decide +kernel
theorem dX6_isWeight_6 : decode cX6_isWeight 6 = .ok (.bipush 99, 2) := by decide +kernel
theorem dX6_isWeight_8 : decode cX6_isWeight 8 = .ok (.if_icmp .gt 7, 3) := by decide +kernel
theorem dX6_isWeight_11 : decode cX6_isWeight 11 = .ok (.iconst 1, 1) := by decide +kernel
theorem dX6_isWeight_12 : decode cX6_isWeight 12 = .ok (.goto 4, 3) := by decide +kernel
theorem dX6_isWeight_15 : decode cX6_isWeight 15 = .ok (.iconst 0, 1) := by decide +kernel
theorem dX6_isWeight_16 : decode cX6_isWeight 16 = .ok (.ireturn, 1) := by decide +kernel
theorem dX6_letterIndex_0 : decode cX6_letterIndex 0 = .ok (.iload_n 0, 1) := by decide +kernel
theorem dX6_letterIndex_1 : decode cX6_letterIndex 1 = .ok (.bipush 97, 2) := by decide +kernel
theorem dX6_letterIndex_3 : decode cX6_letterIndex 3 = .ok (.if_icmp .lt 16, 3) := by decide +kernel
theorem dX6_letterIndex_6 : decode cX6_letterIndex 6 = .ok (.iload_n 0, 1) := by decide +kernel
theorem dX6_letterIndex_7 : decode cX6_letterIndex 7 = .ok (.bipush 122, 2) := by decide +kernel
theorem dX6_letterIndex_9 : decode cX6_letterIndex 9 = .ok (.if_icmp .gt 10, 3) := by decide +kernel
theorem dX6_letterIndex_12 : decode cX6_letterIndex 12 = .ok (.iload_n 0, 1) := by decide +kernel
theorem dX6_letterIndex_13 : decode cX6_letterIndex 13 = .ok (.bipush 97, 2) := by decide +kernel
theorem dX6_letterIndex_15 : decode cX6_letterIndex 15 = .ok (.isub, 1) := by decide +kernel
theorem dX6_letterIndex_16 : decode cX6_letterIndex 16 = .ok (.goto 4, 3) := by decide +kernel
theorem dX6_letterIndex_19 : decode cX6_letterIndex 19 = .ok (.iconst (-1), 1) := by decide +kernel
theorem dX6_letterIndex_20 : decode cX6_letterIndex 20 = .ok (.ireturn, 1) := by decide +kernel
theorem dX6_codeOf_0 : decode cX6_codeOf 0 = .ok (.bipush 97, 2) := by decide +kernel
theorem dX6_codeOf_2 : decode cX6_codeOf 2 = .ok (.iload_n 0, 1) := by decide +kernel
theorem dX6_codeOf_3 : decode cX6_codeOf 3 = .ok (.iadd, 1) := by decide +kernel
theorem dX6_codeOf_4 : decode cX6_codeOf 4 = .ok (.ireturn, 1) := by decide +kernel
theorem dX6_told_0 : decode cX6_told 0 = .ok (.iload_n 1, 1) := by decide +kernel
theorem dX6_told_1 : decode cX6_told 1 = .ok (.iconst 4, 1) := by decide +kernel
theorem dX6_told_2 : decode cX6_told 2 = .ok (.if_icmp .ne 29, 3) := by decide +kernel
theorem dX6_told_5 : decode cX6_told 5 = .ok (.aload_n 0, 1) := by decide +kernel
theorem dX6_told_6 : decode cX6_told 6 = .ok (.getfield 10, 3) := by decide +kernel
theorem dX6_told_9 : decode cX6_told 9 = .ok (.getfield 97, 3) := by decide +kernel
theorem dX6_told_12 : decode cX6_told 12 = .ok (.aload_n 0, 1) := by decide +kernel
theorem dX6_told_13 : decode cX6_told 13 = .ok (.getfield 40, 3) := by decide +kernel
theorem dX6_told_16 : decode cX6_told 16 = .ok (.aload_n 0, 1) := by decide +kernel
theorem dX6_told_17 : decode cX6_told 17 = .ok (.getfield 10, 3) := by decide +kernel
theorem dX6_told_20 : decode cX6_told 20 = .ok (.getfield 163, 3) := by decide +kernel
theorem dX6_told_23 : decode cX6_told 23 = .ok (.invokevirtual 256, 3) := by decide +kernel
theorem dX6_told_26 : decode cX6_told 26 = .ok (.aload_n 0, 1) := by decide +kernel
theorem dX6_told_27 : decode cX6_told 27 = .ok (.getfield 40, 3) := by decide +kernel
theorem dX6_told_30 : decode cX6_told 30 = .ok (.areturn, 1) := by decide +kernel
theorem dX6_told_31 : decode cX6_told 31 = .ok (.iload_n 1, 1) := by decide +kernel
theorem dX6_told_32 : decode cX6_told 32 = .ok (.invokestatic 48, 3) := by decide +kernel
theorem dX6_told_35 : decode cX6_told 35 = .ok (.ifCond .eq 15, 3) := by decide +kernel
theorem dX6_told_38 : decode cX6_told 38 = .ok (.aload_n 0, 1) := by decide +kernel
theorem dX6_told_39 : decode cX6_told 39 = .ok (.getfield 10, 3) := by decide +kernel
theorem dX6_told_42 : decode cX6_told 42 = .ok (.getfield 55, 3) := by decide +kernel
theorem dX6_told_45 : decode cX6_told 45 = .ok (.iload_n 1, 1) := by decide +kernel
theorem dX6_told_46 : decode cX6_told 46 = .ok (.aaload, 1) := by decide +kernel
theorem dX6_told_47 : decode cX6_told 47 = .ok (.goto 4, 3) := by decide +kernel
theorem dX6_told_50 : decode cX6_told 50 = .ok (.aconst_null, 1) := by decide +kernel
theorem dX6_told_51 : decode cX6_told 51 = .ok (.areturn, 1) := by decide +kernel
theorem dX7_init_0 : decode cX7_init 0 = .ok (.aload_n 0, 1) := by decide +kernel
theorem dX7_init_1 : decode cX7_init 1 = .ok (.invokespecial 1, 3) := by decide +kernel
theorem dX7_init_4 : decode cX7_init 4 = .ok (.aload_n 0, 1) := by decide +kernel
theorem dX7_init_5 : decode cX7_init 5 = .ok (.sipush 1244, 3) := by decide +kernel
theorem dX7_init_8 : decode cX7_init 8 = .ok (.newarray .int, 2) := by decide +kernel
theorem dX7_init_10 : decode cX7_init 10 = .ok (.putfield 7, 3) := by decide +kernel
theorem dX7_init_13 : decode cX7_init 13 = .ok (.aload_n 0, 1) := by decide +kernel
theorem dX7_init_14 : decode cX7_init 14 = .ok (.sipush 4440, 3) := by decide +kernel
theorem dX7_init_17 : decode cX7_init 17 = .ok (.newarray .int, 2) := by decide +kernel
theorem dX7_init_19 : decode cX7_init 19 = .ok (.putfield 13, 3) := by decide +kernel
theorem dX7_init_22 : decode cX7_init 22 = .ok (.aload_n 0, 1) := by decide +kernel
theorem dX7_init_23 : decode cX7_init 23 = .ok (.sipush 1110, 3) := by decide +kernel
theorem dX7_init_26 : decode cX7_init 26 = .ok (.newarray .int, 2) := by decide +kernel
theorem dX7_init_28 : decode cX7_init 28 = .ok (.putfield 16, 3) := by decide +kernel
theorem dX7_init_31 : decode cX7_init 31 = .ok (.aload_n 0, 1) := by decide +kernel
theorem dX7_init_32 : decode cX7_init 32 = .ok (.bipush 60, 2) := by decide +kernel
theorem dX7_init_34 : decode cX7_init 34 = .ok (.newarray .char, 2) := by decide +kernel
theorem dX7_init_36 : decode cX7_init 36 = .ok (.putfield 19, 3) := by decide +kernel
theorem dX7_init_39 : decode cX7_init 39 = .ok (.iconst 0, 1) := by decide +kernel
theorem dX7_init_40 : decode cX7_init 40 = .ok (.istore_n 1, 1) := by decide +kernel
theorem dX7_init_41 : decode cX7_init 41 = .ok (.iload_n 1, 1) := by decide +kernel
theorem dX7_init_42 : decode cX7_init 42 = .ok (.bipush 8, 2) := by decide +kernel
theorem dX7_init_44 : decode cX7_init 44 = .ok (.if_icmp .gt 16, 3) := by decide +kernel
theorem dX7_init_47 : decode cX7_init 47 = .ok (.aload_n 0, 1) := by decide +kernel
theorem dX7_init_48 : decode cX7_init 48 = .ok (.iload_n 1, 1) := by decide +kernel
theorem dX7_init_49 : decode cX7_init 49 = .ok (.iconst 0, 1) := by decide +kernel
theorem dX7_init_50 : decode cX7_init 50 = .ok (.iconst 4, 1) := by decide +kernel
theorem dX7_init_51 : decode cX7_init 51 = .ok (.invokevirtual 23, 3) := by decide +kernel
theorem dX7_init_54 : decode cX7_init 54 = .ok (.iinc 1 1, 3) := by decide +kernel
theorem dX7_init_57 : decode cX7_init 57 = .ok (.goto (-16), 3) := by decide +kernel
theorem dX7_init_60 : decode cX7_init 60 = .ok (.aload_n 0, 1) := by decide +kernel
theorem dX7_init_61 : decode cX7_init 61 = .ok (.getfield 7, 3) := by decide +kernel
theorem dX7_init_64 : decode cX7_init 64 = .ok (.sipush 1075, 3) := by decide +kernel
theorem dX7_init_67 : decode cX7_init 67 = .ok (.iconst 1, 1) := by decide +kernel
theorem dX7_init_68 : decode cX7_init 68 = .ok (.iastore, 1) := by decide +kernel
theorem dX7_init_69 : decode cX7_init 69 = .ok (.aload_n 0, 1) := by decide +kernel
theorem dX7_init_70 : decode cX7_init 70 = .ok (.getfield 7, 3) := by decide +kernel
theorem dX7_init_73 : decode cX7_init 73 = .ok (.sipush 1076, 3) := by decide +kernel
theorem dX7_init_76 : decode cX7_init 76 = .ok (.iconst 1, 1) := by decide +kernel
theorem dX7_init_77 : decode cX7_init 77 = .ok (.iastore, 1) := by decide +kernel
theorem dX7_init_78 : decode cX7_init 78 = .ok (.return_, 1) := by decide +kernel
theorem dX7_in_0 : decode cX7_in 0 = .ok (.iload_n 0, 1) := by decide +kernel
theorem dX7_in_1 : decode cX7_in 1 = .ok (.iload_n 1, 1) := by decide +kernel
theorem dX7_in_2 : decode cX7_in 2 = .ok (.if_icmp .lt 12, 3) := by decide +kernel
theorem dX7_in_5 : decode cX7_in 5 = .ok (.iload_n 0, 1) := by decide +kernel
theorem dX7_in_6 : decode cX7_in 6 = .ok (.iload_n 2, 1) := by decide +kernel
theorem dX7_in_7 : decode cX7_in 7 = .ok (.if_icmp .gt 7, 3) := by decide +kernel
theorem dX7_in_10 : decode cX7_in 10 = .ok (.iconst 1, 1) := by decide +kernel
theorem dX7_in_11 : decode cX7_in 11 = .ok (.goto 4, 3) := by decide +kernel
theorem dX7_in_14 : decode cX7_in 14 = .ok (.iconst 0, 1) := by decide +kernel
theorem dX7_in_15 : decode cX7_in 15 = .ok (.ireturn, 1) := by decide +kernel
theorem dX7_base_0 : decode cX7_base 0 = .ok (.iload_n 0, 1) := by decide +kernel
theorem dX7_base_1 : decode cX7_base 1 = .ok (.bipush 8, 2) := by decide +kernel
theorem dX7_base_3 : decode cX7_base 3 = .ok (.if_icmp .ge 11, 3) := by decide +kernel
theorem dX7_base_6 : decode cX7_base 6 = .ok (.sipush 134, 3) := by decide +kernel
theorem dX7_base_9 : decode cX7_base 9 = .ok (.iload_n 0, 1) := by decide +kernel
theorem dX7_base_10 : decode cX7_base 10 = .ok (.imul, 1) := by decide +kernel
theorem dX7_base_11 : decode cX7_base 11 = .ok (.goto 6, 3) := by decide +kernel
theorem dX7_base_14 : decode cX7_base 14 = .ok (.sipush 1110, 3) := by decide +kernel
theorem dX7_base_17 : decode cX7_base 17 = .ok (.ireturn, 1) := by decide +kernel
theorem dX7_of_0 : decode cX7_of 0 = .ok (.aload_n 0, 1) := by decide +kernel
theorem dX7_of_1 : decode cX7_of 1 = .ok (.getfield 7, 3) := by decide +kernel
theorem dX7_of_4 : decode cX7_of 4 = .ok (.iload_n 1, 1) := by decide +kernel
theorem dX7_of_5 : decode cX7_of 5 = .ok (.invokestatic 27, 3) := by decide +kernel
theorem dX7_of_8 : decode cX7_of 8 = .ok (.iload_n 2, 1) := by decide +kernel
theorem dX7_of_9 : decode cX7_of 9 = .ok (.iadd, 1) := by decide +kernel
theorem dX7_of_10 : decode cX7_of 10 = .ok (.iaload, 1) := by decide +kernel
theorem dX7_of_11 : decode cX7_of 11 = .ok (.ireturn, 1) := by decide +kernel
theorem dX7_puts_0 : decode cX7_puts 0 = .ok (.aload_n 0, 1) := by decide +kernel
theorem dX7_puts_1 : decode cX7_puts 1 = .ok (.getfield 7, 3) := by decide +kernel
theorem dX7_puts_4 : decode cX7_puts 4 = .ok (.iload_n 1, 1) := by decide +kernel
theorem dX7_puts_5 : decode cX7_puts 5 = .ok (.invokestatic 27, 3) := by decide +kernel
theorem dX7_puts_8 : decode cX7_puts 8 = .ok (.iload_n 2, 1) := by decide +kernel
theorem dX7_puts_9 : decode cX7_puts 9 = .ok (.iadd, 1) := by decide +kernel
theorem dX7_puts_10 : decode cX7_puts 10 = .ok (.iload_n 3, 1) := by decide +kernel
theorem dX7_puts_11 : decode cX7_puts 11 = .ok (.iastore, 1) := by decide +kernel
theorem dX7_puts_12 : decode cX7_puts 12 = .ok (.return_, 1) := by decide +kernel
theorem dX7_its_0 : decode cX7_its 0 = .ok (.aload_n 0, 1) := by decide +kernel
theorem dX7_its_1 : decode cX7_its 1 = .ok (.getfield 7, 3) := by decide +kernel
theorem dX7_its_4 : decode cX7_its 4 = .ok (.iload_n 1, 1) := by decide +kernel
theorem dX7_its_5 : decode cX7_its 5 = .ok (.invokestatic 27, 3) := by decide +kernel
theorem dX7_its_8 : decode cX7_its 8 = .ok (.iconst 4, 1) := by decide +kernel
theorem dX7_its_9 : decode cX7_its 9 = .ok (.iadd, 1) := by decide +kernel
theorem dX7_its_10 : decode cX7_its 10 = .ok (.iconst 5, 1) := by decide +kernel
theorem dX7_its_11 : decode cX7_its 11 = .ok (.iload_n 2, 1) := by decide +kernel
theorem dX7_its_12 : decode cX7_its 12 = .ok (.imul, 1) := by decide +kernel
theorem dX7_its_13 : decode cX7_its 13 = .ok (.iadd, 1) := by decide +kernel
theorem dX7_its_14 : decode cX7_its 14 = .ok (.iload_n 3, 1) := by decide +kernel
theorem dX7_its_15 : decode cX7_its 15 = .ok (.iadd, 1) := by decide +kernel
theorem dX7_its_16 : decode cX7_its 16 = .ok (.iaload, 1) := by decide +kernel
theorem dX7_its_17 : decode cX7_its 17 = .ok (.ireturn, 1) := by decide +kernel
theorem dX7_gives_0 : decode cX7_gives 0 = .ok (.aload_n 0, 1) := by decide +kernel
theorem dX7_gives_1 : decode cX7_gives 1 = .ok (.getfield 7, 3) := by decide +kernel
theorem dX7_gives_4 : decode cX7_gives 4 = .ok (.iload_n 1, 1) := by decide +kernel
theorem dX7_gives_5 : decode cX7_gives 5 = .ok (.invokestatic 27, 3) := by decide +kernel
theorem dX7_gives_8 : decode cX7_gives 8 = .ok (.iconst 4, 1) := by decide +kernel
theorem dX7_gives_9 : decode cX7_gives 9 = .ok (.iadd, 1) := by decide +kernel
theorem dX7_gives_10 : decode cX7_gives 10 = .ok (.iconst 5, 1) := by decide +kernel
theorem dX7_gives_11 : decode cX7_gives 11 = .ok (.iload_n 2, 1) := by decide +kernel
theorem dX7_gives_12 : decode cX7_gives 12 = .ok (.imul, 1) := by decide +kernel
theorem dX7_gives_13 : decode cX7_gives 13 = .ok (.iadd, 1) := by decide +kernel
theorem dX7_gives_14 : decode cX7_gives 14 = .ok (.iload_n 3, 1) := by decide +kernel
theorem dX7_gives_15 : decode cX7_gives 15 = .ok (.iadd, 1) := by decide +kernel
theorem dX7_gives_16 : decode cX7_gives 16 = .ok (.iload 4, 2) := by decide +kernel
theorem dX7_gives_18 : decode cX7_gives 18 = .ok (.iastore, 1) := by decide +kernel
theorem dX7_gives_19 : decode cX7_gives 19 = .ok (.return_, 1) := by decide +kernel
theorem dX7_has_0 : decode cX7_has 0 = .ok (.aload_n 0, 1) := by decide +kernel
theorem dX7_has_1 : decode cX7_has 1 = .ok (.iload_n 1, 1) := by decide +kernel
theorem dX7_has_2 : decode cX7_has 2 = .ok (.iload_n 2, 1) := by decide +kernel
theorem dX7_has_3 : decode cX7_has 3 = .ok (.iconst 0, 1) := by decide +kernel
theorem dX7_has_4 : decode cX7_has 4 = .ok (.invokevirtual 31, 3) := by decide +kernel
theorem dX7_has_7 : decode cX7_has 7 = .ok (.iconst 1, 1) := by decide +kernel
theorem dX7_has_8 : decode cX7_has 8 = .ok (.if_icmp .ne 7, 3) := by decide +kernel
theorem dX7_has_11 : decode cX7_has 11 = .ok (.iconst 1, 1) := by decide +kernel
theorem dX7_has_12 : decode cX7_has 12 = .ok (.goto 4, 3) := by decide +kernel
theorem dX7_has_15 : decode cX7_has 15 = .ok (.iconst 0, 1) := by decide +kernel
theorem dX7_has_16 : decode cX7_has 16 = .ok (.ireturn, 1) := by decide +kernel
theorem dX7_isSummary_0 : decode cX7_isSummary 0 = .ok (.iload_n 0, 1) := by decide +kernel
theorem dX7_isSummary_1 : decode cX7_isSummary 1 = .ok (.iconst 0, 1) := by decide +kernel
theorem dX7_isSummary_2 : decode cX7_isSummary 2 = .ok (.iconst 3, 1) := by decide +kernel
theorem dX7_isSummary_3 : decode cX7_isSummary 3 = .ok (.invokestatic 35, 3) := by decide +kernel
theorem dX7_isSummary_6 : decode cX7_isSummary 6 = .ok (.ireturn, 1) := by decide +kernel
theorem dX7_isLetter_0 : decode cX7_isLetter 0 = .ok (.iload_n 0, 1) := by decide +kernel
theorem dX7_isLetter_1 : decode cX7_isLetter 1 = .ok (.bipush 97, 2) := by decide +kernel
theorem dX7_isLetter_3 : decode cX7_isLetter 3 = .ok (.if_icmp .lt 13, 3) := by decide +kernel
theorem dX7_isLetter_6 : decode cX7_isLetter 6 = .ok (.iload_n 0, 1) := by decide +kernel
theorem dX7_isLetter_7 : decode cX7_isLetter 7 = .ok (.bipush 122, 2) := by decide +kernel
theorem dX7_isLetter_9 : decode cX7_isLetter 9 = .ok (.if_icmp .gt 7, 3) := by decide +kernel
theorem dX7_isLetter_12 : decode cX7_isLetter 12 = .ok (.iconst 1, 1) := by decide +kernel
theorem dX7_isLetter_13 : decode cX7_isLetter 13 = .ok (.goto 4, 3) := by decide +kernel
theorem dX7_isLetter_16 : decode cX7_isLetter 16 = .ok (.iconst 0, 1) := by decide +kernel
theorem dX7_isLetter_17 : decode cX7_isLetter 17 = .ok (.ireturn, 1) := by decide +kernel
theorem dX7_counters_0 : decode cX7_counters 0 = .ok (.iconst 0, 1) := by decide +kernel
theorem dX7_counters_1 : decode cX7_counters 1 = .ok (.istore_n 2, 1) := by decide +kernel
theorem dX7_counters_2 : decode cX7_counters 2 = .ok (.iconst 0, 1) := by decide +kernel
theorem dX7_counters_3 : decode cX7_counters 3 = .ok (.istore_n 3, 1) := by decide +kernel
theorem dX7_counters_4 : decode cX7_counters 4 = .ok (.iload_n 3, 1) := by decide +kernel
theorem dX7_counters_5 : decode cX7_counters 5 = .ok (.bipush 26, 2) := by decide +kernel
theorem dX7_counters_7 : decode cX7_counters 7 = .ok (.if_icmp .ge 19, 3) := by decide +kernel
theorem dX7_counters_10 : decode cX7_counters 10 = .ok (.iload_n 2, 1) := by decide +kernel
theorem dX7_counters_11 : decode cX7_counters 11 = .ok (.aload_n 0, 1) := by decide +kernel
theorem dX7_counters_12 : decode cX7_counters 12 = .ok (.iload_n 1, 1) := by decide +kernel
theorem dX7_counters_13 : decode cX7_counters 13 = .ok (.iload_n 3, 1) := by decide +kernel
theorem dX7_counters_14 : decode cX7_counters 14 = .ok (.iconst 0, 1) := by decide +kernel
theorem dX7_counters_15 : decode cX7_counters 15 = .ok (.invokevirtual 31, 3) := by decide +kernel
theorem dX7_counters_18 : decode cX7_counters 18 = .ok (.iadd, 1) := by decide +kernel
theorem dX7_counters_19 : decode cX7_counters 19 = .ok (.istore_n 2, 1) := by decide +kernel
theorem dX7_counters_20 : decode cX7_counters 20 = .ok (.iinc 3 1, 3) := by decide +kernel
theorem dX7_counters_23 : decode cX7_counters 23 = .ok (.goto (-19), 3) := by decide +kernel
theorem dX7_counters_26 : decode cX7_counters 26 = .ok (.iload_n 2, 1) := by decide +kernel
theorem dX7_counters_27 : decode cX7_counters 27 = .ok (.ireturn, 1) := by decide +kernel
theorem dX7_record_0 : decode cX7_record 0 = .ok (.aload_n 0, 1) := by decide +kernel
theorem dX7_record_1 : decode cX7_record 1 = .ok (.getfield 39, 3) := by decide +kernel
theorem dX7_record_4 : decode cX7_record 4 = .ok (.iconst 4, 1) := by decide +kernel
theorem dX7_record_5 : decode cX7_record 5 = .ok (.if_icmp .ne 44, 3) := by decide +kernel
theorem dX7_record_8 : decode cX7_record 8 = .ok (.iconst 0, 1) := by decide +kernel
theorem dX7_record_9 : decode cX7_record 9 = .ok (.istore_n 1, 1) := by decide +kernel
theorem dX7_record_10 : decode cX7_record 10 = .ok (.iload_n 1, 1) := by decide +kernel
theorem dX7_record_11 : decode cX7_record 11 = .ok (.sipush 3330, 3) := by decide +kernel
theorem dX7_record_14 : decode cX7_record 14 = .ok (.if_icmp .ge 25, 3) := by decide +kernel
theorem dX7_record_17 : decode cX7_record 17 = .ok (.aload_n 0, 1) := by decide +kernel
theorem dX7_record_18 : decode cX7_record 18 = .ok (.getfield 13, 3) := by decide +kernel
theorem dX7_record_21 : decode cX7_record 21 = .ok (.iload_n 1, 1) := by decide +kernel
theorem dX7_record_22 : decode cX7_record 22 = .ok (.aload_n 0, 1) := by decide +kernel
theorem dX7_record_23 : decode cX7_record 23 = .ok (.getfield 13, 3) := by decide +kernel
theorem dX7_record_26 : decode cX7_record 26 = .ok (.iload_n 1, 1) := by decide +kernel
theorem dX7_record_27 : decode cX7_record 27 = .ok (.sipush 1110, 3) := by decide +kernel
theorem dX7_record_30 : decode cX7_record 30 = .ok (.iadd, 1) := by decide +kernel
theorem dX7_record_31 : decode cX7_record 31 = .ok (.iaload, 1) := by decide +kernel
theorem dX7_record_32 : decode cX7_record 32 = .ok (.iastore, 1) := by decide +kernel
theorem dX7_record_33 : decode cX7_record 33 = .ok (.iinc 1 1, 3) := by decide +kernel
theorem dX7_record_36 : decode cX7_record 36 = .ok (.goto (-26), 3) := by decide +kernel
theorem dX7_record_39 : decode cX7_record 39 = .ok (.aload_n 0, 1) := by decide +kernel
theorem dX7_record_40 : decode cX7_record 40 = .ok (.dup, 1) := by decide +kernel
theorem dX7_record_41 : decode cX7_record 41 = .ok (.getfield 39, 3) := by decide +kernel
theorem dX7_record_44 : decode cX7_record 44 = .ok (.iconst 1, 1) := by decide +kernel
theorem dX7_record_45 : decode cX7_record 45 = .ok (.isub, 1) := by decide +kernel
theorem dX7_record_46 : decode cX7_record 46 = .ok (.putfield 39, 3) := by decide +kernel
theorem dX7_record_49 : decode cX7_record 49 = .ok (.iconst 0, 1) := by decide +kernel
theorem dX7_record_50 : decode cX7_record 50 = .ok (.istore_n 1, 1) := by decide +kernel
theorem dX7_record_51 : decode cX7_record 51 = .ok (.iload_n 1, 1) := by decide +kernel
theorem dX7_record_52 : decode cX7_record 52 = .ok (.sipush 1110, 3) := by decide +kernel
theorem dX7_record_55 : decode cX7_record 55 = .ok (.if_icmp .ge 30, 3) := by decide +kernel
theorem dX7_record_58 : decode cX7_record 58 = .ok (.aload_n 0, 1) := by decide +kernel
theorem dX7_record_59 : decode cX7_record 59 = .ok (.getfield 13, 3) := by decide +kernel
theorem dX7_record_62 : decode cX7_record 62 = .ok (.sipush 1110, 3) := by decide +kernel
theorem dX7_record_65 : decode cX7_record 65 = .ok (.aload_n 0, 1) := by decide +kernel
theorem dX7_record_66 : decode cX7_record 66 = .ok (.getfield 39, 3) := by decide +kernel
theorem dX7_record_69 : decode cX7_record 69 = .ok (.imul, 1) := by decide +kernel
theorem dX7_record_70 : decode cX7_record 70 = .ok (.iload_n 1, 1) := by decide +kernel
theorem dX7_record_71 : decode cX7_record 71 = .ok (.iadd, 1) := by decide +kernel
theorem dX7_record_72 : decode cX7_record 72 = .ok (.aload_n 0, 1) := by decide +kernel
theorem dX7_record_73 : decode cX7_record 73 = .ok (.getfield 7, 3) := by decide +kernel
theorem dX7_record_76 : decode cX7_record 76 = .ok (.iload_n 1, 1) := by decide +kernel
theorem dX7_record_77 : decode cX7_record 77 = .ok (.iaload, 1) := by decide +kernel
theorem dX7_record_78 : decode cX7_record 78 = .ok (.iastore, 1) := by decide +kernel
theorem dX7_record_79 : decode cX7_record 79 = .ok (.iinc 1 1, 3) := by decide +kernel
theorem dX7_record_82 : decode cX7_record 82 = .ok (.goto (-31), 3) := by decide +kernel
theorem dX7_record_85 : decode cX7_record 85 = .ok (.aload_n 0, 1) := by decide +kernel
theorem dX7_record_86 : decode cX7_record 86 = .ok (.dup, 1) := by decide +kernel
theorem dX7_record_87 : decode cX7_record 87 = .ok (.getfield 39, 3) := by decide +kernel
theorem dX7_record_90 : decode cX7_record 90 = .ok (.iconst 1, 1) := by decide +kernel
theorem dX7_record_91 : decode cX7_record 91 = .ok (.iadd, 1) := by decide +kernel
theorem dX7_record_92 : decode cX7_record 92 = .ok (.putfield 39, 3) := by decide +kernel
theorem dX7_record_95 : decode cX7_record 95 = .ok (.return_, 1) := by decide +kernel
theorem dX7_tells_0 : decode cX7_tells 0 = .ok (.aload_n 0, 1) := by decide +kernel
theorem dX7_tells_1 : decode cX7_tells 1 = .ok (.getfield 7, 3) := by decide +kernel
theorem dX7_tells_4 : decode cX7_tells 4 = .ok (.sipush 1077, 3) := by decide +kernel
theorem dX7_tells_7 : decode cX7_tells 7 = .ok (.iaload, 1) := by decide +kernel
theorem dX7_tells_8 : decode cX7_tells 8 = .ok (.bipush 8, 2) := by decide +kernel
theorem dX7_tells_10 : decode cX7_tells 10 = .ok (.if_icmp .ne 55, 3) := by decide +kernel
theorem dX7_tells_13 : decode cX7_tells 13 = .ok (.iconst 0, 1) := by decide +kernel
theorem dX7_tells_14 : decode cX7_tells 14 = .ok (.istore 4, 2) := by decide +kernel
theorem dX7_tells_16 : decode cX7_tells 16 = .ok (.iload 4, 2) := by decide +kernel
theorem dX7_tells_18 : decode cX7_tells 18 = .ok (.bipush 28, 2) := by decide +kernel
theorem dX7_tells_20 : decode cX7_tells 20 = .ok (.if_icmp .ge 33, 3) := by decide +kernel
theorem dX7_tells_23 : decode cX7_tells 23 = .ok (.aload_n 0, 1) := by decide +kernel
theorem dX7_tells_24 : decode cX7_tells 24 = .ok (.getfield 7, 3) := by decide +kernel
theorem dX7_tells_27 : decode cX7_tells 27 = .ok (.sipush 1078, 3) := by decide +kernel
theorem dX7_tells_30 : decode cX7_tells 30 = .ok (.iload 4, 2) := by decide +kernel
theorem dX7_tells_32 : decode cX7_tells 32 = .ok (.iadd, 1) := by decide +kernel
theorem dX7_tells_33 : decode cX7_tells 33 = .ok (.aload_n 0, 1) := by decide +kernel
theorem dX7_tells_34 : decode cX7_tells 34 = .ok (.getfield 7, 3) := by decide +kernel
theorem dX7_tells_37 : decode cX7_tells 37 = .ok (.sipush 1078, 3) := by decide +kernel
theorem dX7_tells_40 : decode cX7_tells 40 = .ok (.iload 4, 2) := by decide +kernel
theorem dX7_tells_42 : decode cX7_tells 42 = .ok (.iadd, 1) := by decide +kernel
theorem dX7_tells_43 : decode cX7_tells 43 = .ok (.iconst 4, 1) := by decide +kernel
theorem dX7_tells_44 : decode cX7_tells 44 = .ok (.iadd, 1) := by decide +kernel
theorem dX7_tells_45 : decode cX7_tells 45 = .ok (.iaload, 1) := by decide +kernel
theorem dX7_tells_46 : decode cX7_tells 46 = .ok (.iastore, 1) := by decide +kernel
theorem dX7_tells_47 : decode cX7_tells 47 = .ok (.iinc 4 1, 3) := by decide +kernel
theorem dX7_tells_50 : decode cX7_tells 50 = .ok (.goto (-34), 3) := by decide +kernel
theorem dX7_tells_53 : decode cX7_tells 53 = .ok (.aload_n 0, 1) := by decide +kernel
theorem dX7_tells_54 : decode cX7_tells 54 = .ok (.getfield 7, 3) := by decide +kernel
theorem dX7_tells_57 : decode cX7_tells 57 = .ok (.sipush 1077, 3) := by decide +kernel
theorem dX7_tells_60 : decode cX7_tells 60 = .ok (.dup2, 1) := by decide +kernel
theorem dX7_tells_61 : decode cX7_tells 61 = .ok (.iaload, 1) := by decide +kernel
theorem dX7_tells_62 : decode cX7_tells 62 = .ok (.iconst 1, 1) := by decide +kernel
theorem dX7_tells_63 : decode cX7_tells 63 = .ok (.isub, 1) := by decide +kernel
theorem dX7_tells_64 : decode cX7_tells 64 = .ok (.iastore, 1) := by decide +kernel
theorem dX7_tells_65 : decode cX7_tells 65 = .ok (.sipush 1078, 3) := by decide +kernel
theorem dX7_tells_68 : decode cX7_tells 68 = .ok (.iconst 4, 1) := by decide +kernel
theorem dX7_tells_69 : decode cX7_tells 69 = .ok (.aload_n 0, 1) := by decide +kernel
theorem dX7_tells_70 : decode cX7_tells 70 = .ok (.getfield 7, 3) := by decide +kernel
theorem dX7_tells_73 : decode cX7_tells 73 = .ok (.sipush 1077, 3) := by decide +kernel
theorem dX7_tells_76 : decode cX7_tells 76 = .ok (.iaload, 1) := by decide +kernel
theorem dX7_tells_77 : decode cX7_tells 77 = .ok (.imul, 1) := by decide +kernel
theorem dX7_tells_78 : decode cX7_tells 78 = .ok (.iadd, 1) := by decide +kernel
theorem dX7_tells_79 : decode cX7_tells 79 = .ok (.istore 4, 2) := by decide +kernel
theorem dX7_tells_81 : decode cX7_tells 81 = .ok (.aload_n 0, 1) := by decide +kernel
theorem dX7_tells_82 : decode cX7_tells 82 = .ok (.getfield 7, 3) := by decide +kernel
theorem dX7_tells_85 : decode cX7_tells 85 = .ok (.iload 4, 2) := by decide +kernel
theorem dX7_tells_87 : decode cX7_tells 87 = .ok (.iload_n 1, 1) := by decide +kernel
theorem dX7_tells_88 : decode cX7_tells 88 = .ok (.iastore, 1) := by decide +kernel
theorem dX7_tells_89 : decode cX7_tells 89 = .ok (.aload_n 0, 1) := by decide +kernel
theorem dX7_tells_90 : decode cX7_tells 90 = .ok (.getfield 7, 3) := by decide +kernel
theorem dX7_tells_93 : decode cX7_tells 93 = .ok (.iload 4, 2) := by decide +kernel
theorem dX7_tells_95 : decode cX7_tells 95 = .ok (.iconst 1, 1) := by decide +kernel
theorem dX7_tells_96 : decode cX7_tells 96 = .ok (.iadd, 1) := by decide +kernel
theorem dX7_tells_97 : decode cX7_tells 97 = .ok (.iload_n 2, 1) := by decide +kernel
theorem dX7_tells_98 : decode cX7_tells 98 = .ok (.iconst 4, 1) := by decide +kernel
theorem dX7_tells_99 : decode cX7_tells 99 = .ok (.if_icmp .ge 7, 3) := by decide +kernel
theorem dX7_tells_102 : decode cX7_tells 102 = .ok (.iload_n 2, 1) := by decide +kernel
theorem dX7_tells_103 : decode cX7_tells 103 = .ok (.goto 4, 3) := by decide +kernel
theorem dX7_tells_106 : decode cX7_tells 106 = .ok (.iconst 4, 1) := by decide +kernel
theorem dX7_tells_107 : decode cX7_tells 107 = .ok (.iastore, 1) := by decide +kernel
theorem dX7_tells_108 : decode cX7_tells 108 = .ok (.aload_n 0, 1) := by decide +kernel
theorem dX7_tells_109 : decode cX7_tells 109 = .ok (.getfield 7, 3) := by decide +kernel
theorem dX7_tells_112 : decode cX7_tells 112 = .ok (.iload 4, 2) := by decide +kernel
theorem dX7_tells_114 : decode cX7_tells 114 = .ok (.iconst 2, 1) := by decide +kernel
theorem dX7_tells_115 : decode cX7_tells 115 = .ok (.iadd, 1) := by decide +kernel
theorem dX7_tells_116 : decode cX7_tells 116 = .ok (.iload_n 3, 1) := by decide +kernel
theorem dX7_tells_117 : decode cX7_tells 117 = .ok (.iastore, 1) := by decide +kernel
theorem dX7_tells_118 : decode cX7_tells 118 = .ok (.aload_n 0, 1) := by decide +kernel
theorem dX7_tells_119 : decode cX7_tells 119 = .ok (.getfield 7, 3) := by decide +kernel
theorem dX7_tells_122 : decode cX7_tells 122 = .ok (.iload 4, 2) := by decide +kernel
theorem dX7_tells_124 : decode cX7_tells 124 = .ok (.iconst 3, 1) := by decide +kernel
theorem dX7_tells_125 : decode cX7_tells 125 = .ok (.iadd, 1) := by decide +kernel
theorem dX7_tells_126 : decode cX7_tells 126 = .ok (.aload_n 0, 1) := by decide +kernel
theorem dX7_tells_127 : decode cX7_tells 127 = .ok (.getfield 7, 3) := by decide +kernel
theorem dX7_tells_130 : decode cX7_tells 130 = .ok (.sipush 1072, 3) := by decide +kernel
theorem dX7_tells_133 : decode cX7_tells 133 = .ok (.iaload, 1) := by decide +kernel
theorem dX7_tells_134 : decode cX7_tells 134 = .ok (.iastore, 1) := by decide +kernel
theorem dX7_tells_135 : decode cX7_tells 135 = .ok (.aload_n 0, 1) := by decide +kernel
theorem dX7_tells_136 : decode cX7_tells 136 = .ok (.getfield 7, 3) := by decide +kernel
theorem dX7_tells_139 : decode cX7_tells 139 = .ok (.sipush 1077, 3) := by decide +kernel
theorem dX7_tells_142 : decode cX7_tells 142 = .ok (.dup2, 1) := by decide +kernel
theorem dX7_tells_143 : decode cX7_tells 143 = .ok (.iaload, 1) := by decide +kernel
theorem dX7_tells_144 : decode cX7_tells 144 = .ok (.iconst 1, 1) := by decide +kernel
theorem dX7_tells_145 : decode cX7_tells 145 = .ok (.iadd, 1) := by decide +kernel
theorem dX7_tells_146 : decode cX7_tells 146 = .ok (.iastore, 1) := by decide +kernel
theorem dX7_tells_147 : decode cX7_tells 147 = .ok (.return_, 1) := by decide +kernel
theorem dX7_least_0 : decode cX7_least 0 = .ok (.bipush (-5), 2) := by decide +kernel
theorem dX7_least_2 : decode cX7_least 2 = .ok (.istore_n 2, 1) := by decide +kernel
theorem dX7_least_3 : decode cX7_least 3 = .ok (.iconst 0, 1) := by decide +kernel
theorem dX7_least_4 : decode cX7_least 4 = .ok (.istore_n 3, 1) := by decide +kernel
theorem dX7_least_5 : decode cX7_least 5 = .ok (.iload_n 3, 1) := by decide +kernel
theorem dX7_least_6 : decode cX7_least 6 = .ok (.bipush 26, 2) := by decide +kernel

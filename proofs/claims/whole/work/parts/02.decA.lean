theorem dX0_init_0 : decode cX0_init 0 = .ok (.aload_n 0, 1) := by decide +kernel
theorem dX0_init_1 : decode cX0_init 1 = .ok (.invokespecial 3, 3) := by decide +kernel
theorem dX0_init_4 : decode cX0_init 4 = .ok (.aload_n 0, 1) := by decide +kernel
theorem dX0_init_5 : decode cX0_init 5 = .ok (.bipush 8, 2) := by decide +kernel
theorem dX0_init_7 : decode cX0_init 7 = .ok (.newarray .int, 2) := by decide +kernel
theorem dX0_init_9 : decode cX0_init 9 = .ok (.putfield 9, 3) := by decide +kernel
theorem dX0_init_12 : decode cX0_init 12 = .ok (.aload_n 0, 1) := by decide +kernel
theorem dX0_init_13 : decode cX0_init 13 = .ok (.bipush 8, 2) := by decide +kernel
theorem dX0_init_15 : decode cX0_init 15 = .ok (.newarray .int, 2) := by decide +kernel
theorem dX0_init_17 : decode cX0_init 17 = .ok (.putfield 15, 3) := by decide +kernel
theorem dX0_init_20 : decode cX0_init 20 = .ok (.aload_n 0, 1) := by decide +kernel
theorem dX0_init_21 : decode cX0_init 21 = .ok (.bipush 8, 2) := by decide +kernel
theorem dX0_init_23 : decode cX0_init 23 = .ok (.newarray .boolean, 2) := by decide +kernel
theorem dX0_init_25 : decode cX0_init 25 = .ok (.putfield 18, 3) := by decide +kernel
theorem dX0_init_28 : decode cX0_init 28 = .ok (.aload_n 0, 1) := by decide +kernel
theorem dX0_init_29 : decode cX0_init 29 = .ok (.iconst 0, 1) := by decide +kernel
theorem dX0_init_30 : decode cX0_init 30 = .ok (.putfield 22, 3) := by decide +kernel
theorem dX0_init_33 : decode cX0_init 33 = .ok (.return_, 1) := by decide +kernel
theorem dX0_note_0 : decode cX0_note 0 = .ok (.aload_n 0, 1) := by decide +kernel
theorem dX0_note_1 : decode cX0_note 1 = .ok (.getfield 9, 3) := by decide +kernel
theorem dX0_note_4 : decode cX0_note 4 = .ok (.aload_n 0, 1) := by decide +kernel
theorem dX0_note_5 : decode cX0_note 5 = .ok (.getfield 22, 3) := by decide +kernel
theorem dX0_note_8 : decode cX0_note 8 = .ok (.iload_n 1, 1) := by decide +kernel
theorem dX0_note_9 : decode cX0_note 9 = .ok (.iastore, 1) := by decide +kernel
theorem dX0_note_10 : decode cX0_note 10 = .ok (.aload_n 0, 1) := by decide +kernel
theorem dX0_note_11 : decode cX0_note 11 = .ok (.getfield 15, 3) := by decide +kernel
theorem dX0_note_14 : decode cX0_note 14 = .ok (.aload_n 0, 1) := by decide +kernel
theorem dX0_note_15 : decode cX0_note 15 = .ok (.getfield 22, 3) := by decide +kernel
theorem dX0_note_18 : decode cX0_note 18 = .ok (.iload_n 2, 1) := by decide +kernel
theorem dX0_note_19 : decode cX0_note 19 = .ok (.iastore, 1) := by decide +kernel
theorem dX0_note_20 : decode cX0_note 20 = .ok (.aload_n 0, 1) := by decide +kernel
theorem dX0_note_21 : decode cX0_note 21 = .ok (.getfield 18, 3) := by decide +kernel
theorem dX0_note_24 : decode cX0_note 24 = .ok (.aload_n 0, 1) := by decide +kernel
theorem dX0_note_25 : decode cX0_note 25 = .ok (.getfield 22, 3) := by decide +kernel
theorem dX0_note_28 : decode cX0_note 28 = .ok (.iload_n 3, 1) := by decide +kernel
theorem dX0_note_29 : decode cX0_note 29 = .ok (.bastore, 1) := by decide +kernel
theorem dX0_note_30 : decode cX0_note 30 = .ok (.aload_n 0, 1) := by decide +kernel
theorem dX0_note_31 : decode cX0_note 31 = .ok (.dup, 1) := by decide +kernel
theorem dX0_note_32 : decode cX0_note 32 = .ok (.getfield 22, 3) := by decide +kernel
theorem dX0_note_35 : decode cX0_note 35 = .ok (.iconst 1, 1) := by decide +kernel
theorem dX0_note_36 : decode cX0_note 36 = .ok (.iadd, 1) := by decide +kernel
theorem dX0_note_37 : decode cX0_note 37 = .ok (.putfield 22, 3) := by decide +kernel
theorem dX0_note_40 : decode cX0_note 40 = .ok (.aload_n 0, 1) := by decide +kernel
theorem dX0_note_41 : decode cX0_note 41 = .ok (.getfield 22, 3) := by decide +kernel
theorem dX0_note_44 : decode cX0_note 44 = .ok (.iconst 1, 1) := by decide +kernel
theorem dX0_note_45 : decode cX0_note 45 = .ok (.isub, 1) := by decide +kernel
theorem dX0_note_46 : decode cX0_note 46 = .ok (.ireturn, 1) := by decide +kernel
theorem dX0_holdFor_0 : decode cX0_holdFor 0 = .ok (.iconst 0, 1) := by decide +kernel
theorem dX0_holdFor_1 : decode cX0_holdFor 1 = .ok (.istore_n 2, 1) := by decide +kernel
theorem dX0_holdFor_2 : decode cX0_holdFor 2 = .ok (.iload_n 2, 1) := by decide +kernel
theorem dX0_holdFor_3 : decode cX0_holdFor 3 = .ok (.aload_n 0, 1) := by decide +kernel
theorem dX0_holdFor_4 : decode cX0_holdFor 4 = .ok (.getfield 22, 3) := by decide +kernel
theorem dX0_holdFor_7 : decode cX0_holdFor 7 = .ok (.if_icmp .ge 36, 3) := by decide +kernel
theorem dX0_holdFor_10 : decode cX0_holdFor 10 = .ok (.aload_n 1, 1) := by decide +kernel
theorem dX0_holdFor_11 : decode cX0_holdFor 11 = .ok (.aload_n 0, 1) := by decide +kernel
theorem dX0_holdFor_12 : decode cX0_holdFor 12 = .ok (.getfield 15, 3) := by decide +kernel
theorem dX0_holdFor_15 : decode cX0_holdFor 15 = .ok (.iload_n 2, 1) := by decide +kernel
theorem dX0_holdFor_16 : decode cX0_holdFor 16 = .ok (.iaload, 1) := by decide +kernel
theorem dX0_holdFor_17 : decode cX0_holdFor 17 = .ok (.aload_n 0, 1) := by decide +kernel
theorem dX0_holdFor_18 : decode cX0_holdFor 18 = .ok (.getfield 9, 3) := by decide +kernel
theorem dX0_holdFor_21 : decode cX0_holdFor 21 = .ok (.iload_n 2, 1) := by decide +kernel
theorem dX0_holdFor_22 : decode cX0_holdFor 22 = .ok (.iaload, 1) := by decide +kernel
theorem dX0_holdFor_23 : decode cX0_holdFor 23 = .ok (.invokevirtual 26, 3) := by decide +kernel
theorem dX0_holdFor_26 : decode cX0_holdFor 26 = .ok (.aload_n 0, 1) := by decide +kernel
theorem dX0_holdFor_27 : decode cX0_holdFor 27 = .ok (.getfield 18, 3) := by decide +kernel
theorem dX0_holdFor_30 : decode cX0_holdFor 30 = .ok (.iload_n 2, 1) := by decide +kernel
theorem dX0_holdFor_31 : decode cX0_holdFor 31 = .ok (.baload, 1) := by decide +kernel
theorem dX0_holdFor_32 : decode cX0_holdFor 32 = .ok (.if_icmp .eq 5, 3) := by decide +kernel
theorem dX0_holdFor_35 : decode cX0_holdFor 35 = .ok (.iconst 0, 1) := by decide +kernel
theorem dX0_holdFor_36 : decode cX0_holdFor 36 = .ok (.ireturn, 1) := by decide +kernel
theorem dX0_holdFor_37 : decode cX0_holdFor 37 = .ok (.iinc 2 1, 3) := by decide +kernel
theorem dX0_holdFor_40 : decode cX0_holdFor 40 = .ok (.goto (-38), 3) := by decide +kernel
theorem dX0_holdFor_43 : decode cX0_holdFor 43 = .ok (.iconst 1, 1) := by decide +kernel
theorem dX0_holdFor_44 : decode cX0_holdFor 44 = .ok (.ireturn, 1) := by decide +kernel
theorem dX1_init_0 : decode cX1_init 0 = .ok (.aload_n 0, 1) := by decide +kernel
theorem dX1_init_1 : decode cX1_init 1 = .ok (.invokespecial 3, 3) := by decide +kernel
theorem dX1_init_4 : decode cX1_init 4 = .ok (.aload_n 0, 1) := by decide +kernel
theorem dX1_init_5 : decode cX1_init 5 = .ok (.bipush 60, 2) := by decide +kernel
theorem dX1_init_7 : decode cX1_init 7 = .ok (.newarray .int, 2) := by decide +kernel
theorem dX1_init_9 : decode cX1_init 9 = .ok (.putfield 9, 3) := by decide +kernel
theorem dX1_init_12 : decode cX1_init 12 = .ok (.aload_n 0, 1) := by decide +kernel
theorem dX1_init_13 : decode cX1_init 13 = .ok (.iconst 0, 1) := by decide +kernel
theorem dX1_init_14 : decode cX1_init 14 = .ok (.putfield 15, 3) := by decide +kernel
theorem dX1_init_17 : decode cX1_init 17 = .ok (.aload_n 0, 1) := by decide +kernel
theorem dX1_init_18 : decode cX1_init 18 = .ok (.iconst 0, 1) := by decide +kernel
theorem dX1_init_19 : decode cX1_init 19 = .ok (.putfield 19, 3) := by decide +kernel
theorem dX1_init_22 : decode cX1_init 22 = .ok (.aload_n 0, 1) := by decide +kernel
theorem dX1_init_23 : decode cX1_init 23 = .ok (.iconst 0, 1) := by decide +kernel
theorem dX1_init_24 : decode cX1_init 24 = .ok (.putfield 23, 3) := by decide +kernel
theorem dX1_init_27 : decode cX1_init 27 = .ok (.return_, 1) := by decide +kernel
theorem dX1_begin_0 : decode cX1_begin 0 = .ok (.aload_n 0, 1) := by decide +kernel
theorem dX1_begin_1 : decode cX1_begin 1 = .ok (.getfield 9, 3) := by decide +kernel
theorem dX1_begin_4 : decode cX1_begin 4 = .ok (.iconst 0, 1) := by decide +kernel
theorem dX1_begin_5 : decode cX1_begin 5 = .ok (.invokestatic 26, 3) := by decide +kernel
theorem dX1_begin_8 : decode cX1_begin 8 = .ok (.aload_n 0, 1) := by decide +kernel
theorem dX1_begin_9 : decode cX1_begin 9 = .ok (.iconst 1, 1) := by decide +kernel
theorem dX1_begin_10 : decode cX1_begin 10 = .ok (.putfield 15, 3) := by decide +kernel
theorem dX1_begin_13 : decode cX1_begin 13 = .ok (.aload_n 0, 1) := by decide +kernel
theorem dX1_begin_14 : decode cX1_begin 14 = .ok (.iload_n 1, 1) := by decide +kernel
theorem dX1_begin_15 : decode cX1_begin 15 = .ok (.putfield 19, 3) := by decide +kernel
theorem dX1_begin_18 : decode cX1_begin 18 = .ok (.aload_n 0, 1) := by decide +kernel
theorem dX1_begin_19 : decode cX1_begin 19 = .ok (.iload_n 2, 1) := by decide +kernel
theorem dX1_begin_20 : decode cX1_begin 20 = .ok (.putfield 23, 3) := by decide +kernel
theorem dX1_begin_23 : decode cX1_begin 23 = .ok (.return_, 1) := by decide +kernel
theorem dX1_holds_0 : decode cX1_holds 0 = .ok (.iload_n 1, 1) := by decide +kernel
theorem dX1_holds_1 : decode cX1_holds 1 = .ok (.ifCond .lt 25, 3) := by decide +kernel
theorem dX1_holds_4 : decode cX1_holds 4 = .ok (.iload_n 1, 1) := by decide +kernel
theorem dX1_holds_5 : decode cX1_holds 5 = .ok (.aload_n 0, 1) := by decide +kernel
theorem dX1_holds_6 : decode cX1_holds 6 = .ok (.getfield 23, 3) := by decide +kernel
theorem dX1_holds_9 : decode cX1_holds 9 = .ok (.if_icmp .gt 17, 3) := by decide +kernel
theorem dX1_holds_12 : decode cX1_holds 12 = .ok (.iload_n 2, 1) := by decide +kernel
theorem dX1_holds_13 : decode cX1_holds 13 = .ok (.aload_n 0, 1) := by decide +kernel
theorem dX1_holds_14 : decode cX1_holds 14 = .ok (.getfield 23, 3) := by decide +kernel
theorem dX1_holds_17 : decode cX1_holds 17 = .ok (.iload_n 1, 1) := by decide +kernel
theorem dX1_holds_18 : decode cX1_holds 18 = .ok (.isub, 1) := by decide +kernel
theorem dX1_holds_19 : decode cX1_holds 19 = .ok (.if_icmp .gt 7, 3) := by decide +kernel
theorem dX1_holds_22 : decode cX1_holds 22 = .ok (.iconst 1, 1) := by decide +kernel
theorem dX1_holds_23 : decode cX1_holds 23 = .ok (.goto 4, 3) := by decide +kernel
theorem dX1_holds_26 : decode cX1_holds 26 = .ok (.iconst 0, 1) := by decide +kernel
theorem dX1_holds_27 : decode cX1_holds 27 = .ok (.ireturn, 1) := by decide +kernel
theorem dX1_faultOfCells_0 : decode cX1_faultOfCells 0 = .ok (.aload_n 0, 1) := by decide +kernel
theorem dX1_faultOfCells_1 : decode cX1_faultOfCells 1 = .ok (.getfield 15, 3) := by decide +kernel
theorem dX1_faultOfCells_4 : decode cX1_faultOfCells 4 = .ok (.ifCond .eq 13, 3) := by decide +kernel
theorem dX1_faultOfCells_7 : decode cX1_faultOfCells 7 = .ok (.aload_n 0, 1) := by decide +kernel
theorem dX1_faultOfCells_8 : decode cX1_faultOfCells 8 = .ok (.getfield 19, 3) := by decide +kernel
theorem dX1_faultOfCells_11 : decode cX1_faultOfCells 11 = .ok (.iload_n 1, 1) := by decide +kernel
theorem dX1_faultOfCells_12 : decode cX1_faultOfCells 12 = .ok (.if_icmp .eq 5, 3) := by decide +kernel
theorem dX1_faultOfCells_15 : decode cX1_faultOfCells 15 = .ok (.iconst 2, 1) := by decide +kernel
theorem dX1_faultOfCells_16 : decode cX1_faultOfCells 16 = .ok (.ireturn, 1) := by decide +kernel
theorem dX1_faultOfCells_17 : decode cX1_faultOfCells 17 = .ok (.aload_n 0, 1) := by decide +kernel
theorem dX1_faultOfCells_18 : decode cX1_faultOfCells 18 = .ok (.getfield 15, 3) := by decide +kernel
theorem dX1_faultOfCells_21 : decode cX1_faultOfCells 21 = .ok (.ifCond .ne 5, 3) := by decide +kernel
theorem dX1_faultOfCells_24 : decode cX1_faultOfCells 24 = .ok (.iconst 1, 1) := by decide +kernel
theorem dX1_faultOfCells_25 : decode cX1_faultOfCells 25 = .ok (.ireturn, 1) := by decide +kernel
theorem dX1_faultOfCells_26 : decode cX1_faultOfCells 26 = .ok (.iload_n 3, 1) := by decide +kernel
theorem dX1_faultOfCells_27 : decode cX1_faultOfCells 27 = .ok (.ifCond .ge 5, 3) := by decide +kernel
theorem dX1_faultOfCells_30 : decode cX1_faultOfCells 30 = .ok (.iconst 4, 1) := by decide +kernel
theorem dX1_faultOfCells_31 : decode cX1_faultOfCells 31 = .ok (.ireturn, 1) := by decide +kernel
theorem dX1_faultOfCells_32 : decode cX1_faultOfCells 32 = .ok (.aload_n 0, 1) := by decide +kernel
theorem dX1_faultOfCells_33 : decode cX1_faultOfCells 33 = .ok (.iload_n 2, 1) := by decide +kernel
theorem dX1_faultOfCells_34 : decode cX1_faultOfCells 34 = .ok (.iload_n 3, 1) := by decide +kernel
theorem dX1_faultOfCells_35 : decode cX1_faultOfCells 35 = .ok (.invokevirtual 32, 3) := by decide +kernel
theorem dX1_faultOfCells_38 : decode cX1_faultOfCells 38 = .ok (.ifCond .eq 7, 3) := by decide +kernel
theorem dX1_faultOfCells_41 : decode cX1_faultOfCells 41 = .ok (.iconst 0, 1) := by decide +kernel
theorem dX1_faultOfCells_42 : decode cX1_faultOfCells 42 = .ok (.goto 4, 3) := by decide +kernel
theorem dX1_faultOfCells_45 : decode cX1_faultOfCells 45 = .ok (.iconst 3, 1) := by decide +kernel
theorem dX1_faultOfCells_46 : decode cX1_faultOfCells 46 = .ok (.ireturn, 1) := by decide +kernel
theorem dX1_cutToLane_0 : decode cX1_cutToLane 0 = .ok (.aload_n 0, 1) := by decide +kernel
theorem dX1_cutToLane_1 : decode cX1_cutToLane 1 = .ok (.getfield 19, 3) := by decide +kernel
theorem dX1_cutToLane_4 : decode cX1_cutToLane 4 = .ok (.ifCond .ne 6, 3) := by decide +kernel
theorem dX1_cutToLane_7 : decode cX1_cutToLane 7 = .ok (.iload_n 1, 1) := by decide +kernel
theorem dX1_cutToLane_8 : decode cX1_cutToLane 8 = .ok (.i2b, 1) := by decide +kernel
theorem dX1_cutToLane_9 : decode cX1_cutToLane 9 = .ok (.ireturn, 1) := by decide +kernel
theorem dX1_cutToLane_10 : decode cX1_cutToLane 10 = .ok (.aload_n 0, 1) := by decide +kernel
theorem dX1_cutToLane_11 : decode cX1_cutToLane 11 = .ok (.getfield 19, 3) := by decide +kernel
theorem dX1_cutToLane_14 : decode cX1_cutToLane 14 = .ok (.iconst 1, 1) := by decide +kernel
theorem dX1_cutToLane_15 : decode cX1_cutToLane 15 = .ok (.if_icmp .ne 8, 3) := by decide +kernel
theorem dX1_cutToLane_18 : decode cX1_cutToLane 18 = .ok (.iload_n 1, 1) := by decide +kernel
theorem dX1_cutToLane_19 : decode cX1_cutToLane 19 = .ok (.i2s, 1) := by decide +kernel
theorem dX1_cutToLane_20 : decode cX1_cutToLane 20 = .ok (.goto 4, 3) := by decide +kernel
theorem dX1_cutToLane_23 : decode cX1_cutToLane 23 = .ok (.iload_n 1, 1) := by decide +kernel
theorem dX1_cutToLane_24 : decode cX1_cutToLane 24 = .ok (.ireturn, 1) := by decide +kernel
theorem dX2_init_0 : decode cX2_init 0 = .ok (.aload_n 0, 1) := by decide +kernel
theorem dX2_init_1 : decode cX2_init 1 = .ok (.invokespecial 3, 3) := by decide +kernel
theorem dX2_init_4 : decode cX2_init 4 = .ok (.aload_n 0, 1) := by decide +kernel
theorem dX2_init_5 : decode cX2_init 5 = .ok (.iconst 4, 1) := by decide +kernel
theorem dX2_init_6 : decode cX2_init 6 = .ok (.newarray .int, 2) := by decide +kernel
theorem dX2_init_8 : decode cX2_init 8 = .ok (.putfield 9, 3) := by decide +kernel
theorem dX2_init_11 : decode cX2_init 11 = .ok (.aload_n 0, 1) := by decide +kernel
theorem dX2_init_12 : decode cX2_init 12 = .ok (.iconst 4, 1) := by decide +kernel
theorem dX2_init_13 : decode cX2_init 13 = .ok (.newarray .int, 2) := by decide +kernel
theorem dX2_init_15 : decode cX2_init 15 = .ok (.putfield 15, 3) := by decide +kernel
theorem dX2_init_18 : decode cX2_init 18 = .ok (.aload_n 0, 1) := by decide +kernel
theorem dX2_init_19 : decode cX2_init 19 = .ok (.iconst 4, 1) := by decide +kernel
theorem dX2_init_20 : decode cX2_init 20 = .ok (.newarray .int, 2) := by decide +kernel
theorem dX2_init_22 : decode cX2_init 22 = .ok (.putfield 18, 3) := by decide +kernel
theorem dX2_init_25 : decode cX2_init 25 = .ok (.aload_n 0, 1) := by decide +kernel
theorem dX2_init_26 : decode cX2_init 26 = .ok (.iconst 4, 1) := by decide +kernel
theorem dX2_init_27 : decode cX2_init 27 = .ok (.newarray .boolean, 2) := by decide +kernel
theorem dX2_init_29 : decode cX2_init 29 = .ok (.putfield 21, 3) := by decide +kernel
theorem dX2_init_32 : decode cX2_init 32 = .ok (.aload_n 0, 1) := by decide +kernel
theorem dX2_init_33 : decode cX2_init 33 = .ok (.bipush 16, 2) := by decide +kernel
theorem dX2_init_35 : decode cX2_init 35 = .ok (.newarray .int, 2) := by decide +kernel
theorem dX2_init_37 : decode cX2_init 37 = .ok (.putfield 25, 3) := by decide +kernel
theorem dX2_init_40 : decode cX2_init 40 = .ok (.aload_n 0, 1) := by decide +kernel
theorem dX2_init_41 : decode cX2_init 41 = .ok (.bipush 16, 2) := by decide +kernel
theorem dX2_init_43 : decode cX2_init 43 = .ok (.newarray .int, 2) := by decide +kernel
theorem dX2_init_45 : decode cX2_init 45 = .ok (.putfield 28, 3) := by decide +kernel
theorem dX2_init_48 : decode cX2_init 48 = .ok (.aload_n 0, 1) := by decide +kernel
theorem dX2_init_49 : decode cX2_init 49 = .ok (.bipush 15, 2) := by decide +kernel
theorem dX2_init_51 : decode cX2_init 51 = .ok (.newarray .int, 2) := by decide +kernel
theorem dX2_init_53 : decode cX2_init 53 = .ok (.putfield 31, 3) := by decide +kernel
theorem dX2_init_56 : decode cX2_init 56 = .ok (.aload_n 0, 1) := by decide +kernel
theorem dX2_init_57 : decode cX2_init 57 = .ok (.bipush 15, 2) := by decide +kernel
theorem dX2_init_59 : decode cX2_init 59 = .ok (.newarray .int, 2) := by decide +kernel
theorem dX2_init_61 : decode cX2_init 61 = .ok (.putfield 34, 3) := by decide +kernel
theorem dX2_init_64 : decode cX2_init 64 = .ok (.aload_n 0, 1) := by decide +kernel
theorem dX2_init_65 : decode cX2_init 65 = .ok (.iconst 0, 1) := by decide +kernel
theorem dX2_init_66 : decode cX2_init 66 = .ok (.putfield 37, 3) := by decide +kernel
theorem dX2_init_69 : decode cX2_init 69 = .ok (.aload_n 0, 1) := by decide +kernel
theorem dX2_init_70 : decode cX2_init 70 = .ok (.iconst 0, 1) := by decide +kernel
theorem dX2_init_71 : decode cX2_init 71 = .ok (.putfield 41, 3) := by decide +kernel
theorem dX2_init_74 : decode cX2_init 74 = .ok (.aload_n 0, 1) := by decide +kernel
theorem dX2_init_75 : decode cX2_init 75 = .ok (.iconst 0, 1) := by decide +kernel
theorem dX2_init_76 : decode cX2_init 76 = .ok (.putfield 44, 3) := by decide +kernel
theorem dX2_init_79 : decode cX2_init 79 = .ok (.return_, 1) := by decide +kernel
theorem dX2_stands_0 : decode cX2_stands 0 = .ok (.aload_n 0, 1) := by decide +kernel
theorem dX2_stands_1 : decode cX2_stands 1 = .ok (.getfield 37, 3) := by decide +kernel
theorem dX2_stands_4 : decode cX2_stands 4 = .ok (.ifCond .le 7, 3) := by decide +kernel
theorem dX2_stands_7 : decode cX2_stands 7 = .ok (.iconst 1, 1) := by decide +kernel
theorem dX2_stands_8 : decode cX2_stands 8 = .ok (.goto 4, 3) := by decide +kernel
theorem dX2_stands_11 : decode cX2_stands 11 = .ok (.iconst 0, 1) := by decide +kernel
theorem dX2_stands_12 : decode cX2_stands 12 = .ok (.ireturn, 1) := by decide +kernel
theorem dX2_hasModule_0 : decode cX2_hasModule 0 = .ok (.iload_n 1, 1) := by decide +kernel
theorem dX2_hasModule_1 : decode cX2_hasModule 1 = .ok (.ifCond .lt 15, 3) := by decide +kernel
theorem dX2_hasModule_4 : decode cX2_hasModule 4 = .ok (.iload_n 1, 1) := by decide +kernel
theorem dX2_hasModule_5 : decode cX2_hasModule 5 = .ok (.aload_n 0, 1) := by decide +kernel
theorem dX2_hasModule_6 : decode cX2_hasModule 6 = .ok (.getfield 37, 3) := by decide +kernel
theorem dX2_hasModule_9 : decode cX2_hasModule 9 = .ok (.if_icmp .ge 7, 3) := by decide +kernel
theorem dX2_hasModule_12 : decode cX2_hasModule 12 = .ok (.iconst 1, 1) := by decide +kernel
theorem dX2_hasModule_13 : decode cX2_hasModule 13 = .ok (.goto 4, 3) := by decide +kernel
theorem dX2_hasModule_16 : decode cX2_hasModule 16 = .ok (.iconst 0, 1) := by decide +kernel
theorem dX2_hasModule_17 : decode cX2_hasModule 17 = .ok (.ireturn, 1) := by decide +kernel
theorem dX2_hasLamp_0 : decode cX2_hasLamp 0 = .ok (.iload_n 1, 1) := by decide +kernel
theorem dX2_hasLamp_1 : decode cX2_hasLamp 1 = .ok (.ifCond .lt 15, 3) := by decide +kernel
theorem dX2_hasLamp_4 : decode cX2_hasLamp 4 = .ok (.iload_n 1, 1) := by decide +kernel
theorem dX2_hasLamp_5 : decode cX2_hasLamp 5 = .ok (.aload_n 0, 1) := by decide +kernel
theorem dX2_hasLamp_6 : decode cX2_hasLamp 6 = .ok (.getfield 41, 3) := by decide +kernel
theorem dX2_hasLamp_9 : decode cX2_hasLamp 9 = .ok (.if_icmp .ge 7, 3) := by decide +kernel
theorem dX2_hasLamp_12 : decode cX2_hasLamp 12 = .ok (.iconst 1, 1) := by decide +kernel
theorem dX2_hasLamp_13 : decode cX2_hasLamp 13 = .ok (.goto 4, 3) := by decide +kernel
theorem dX2_hasLamp_16 : decode cX2_hasLamp 16 = .ok (.iconst 0, 1) := by decide +kernel
theorem dX2_hasLamp_17 : decode cX2_hasLamp 17 = .ok (.ireturn, 1) := by decide +kernel
theorem dX2_becomeLike_0 : decode cX2_becomeLike 0 = .ok (.aload_n 1, 1) := by decide +kernel
theorem dX2_becomeLike_1 : decode cX2_becomeLike 1 = .ok (.getfield 9, 3) := by decide +kernel
theorem dX2_becomeLike_4 : decode cX2_becomeLike 4 = .ok (.iconst 0, 1) := by decide +kernel
theorem dX2_becomeLike_5 : decode cX2_becomeLike 5 = .ok (.aload_n 0, 1) := by decide +kernel
theorem dX2_becomeLike_6 : decode cX2_becomeLike 6 = .ok (.getfield 9, 3) := by decide +kernel
theorem dX2_becomeLike_9 : decode cX2_becomeLike 9 = .ok (.iconst 0, 1) := by decide +kernel
theorem dX2_becomeLike_10 : decode cX2_becomeLike 10 = .ok (.iconst 4, 1) := by decide +kernel
theorem dX2_becomeLike_11 : decode cX2_becomeLike 11 = .ok (.invokestatic 47, 3) := by decide +kernel
theorem dX2_becomeLike_14 : decode cX2_becomeLike 14 = .ok (.aload_n 1, 1) := by decide +kernel
theorem dX2_becomeLike_15 : decode cX2_becomeLike 15 = .ok (.getfield 15, 3) := by decide +kernel
theorem dX2_becomeLike_18 : decode cX2_becomeLike 18 = .ok (.iconst 0, 1) := by decide +kernel
theorem dX2_becomeLike_19 : decode cX2_becomeLike 19 = .ok (.aload_n 0, 1) := by decide +kernel
theorem dX2_becomeLike_20 : decode cX2_becomeLike 20 = .ok (.getfield 15, 3) := by decide +kernel
theorem dX2_becomeLike_23 : decode cX2_becomeLike 23 = .ok (.iconst 0, 1) := by decide +kernel
theorem dX2_becomeLike_24 : decode cX2_becomeLike 24 = .ok (.iconst 4, 1) := by decide +kernel
theorem dX2_becomeLike_25 : decode cX2_becomeLike 25 = .ok (.invokestatic 47, 3) := by decide +kernel
theorem dX2_becomeLike_28 : decode cX2_becomeLike 28 = .ok (.aload_n 1, 1) := by decide +kernel
theorem dX2_becomeLike_29 : decode cX2_becomeLike 29 = .ok (.getfield 18, 3) := by decide +kernel
theorem dX2_becomeLike_32 : decode cX2_becomeLike 32 = .ok (.iconst 0, 1) := by decide +kernel
theorem dX2_becomeLike_33 : decode cX2_becomeLike 33 = .ok (.aload_n 0, 1) := by decide +kernel
theorem dX2_becomeLike_34 : decode cX2_becomeLike 34 = .ok (.getfield 18, 3) := by decide +kernel
theorem dX2_becomeLike_37 : decode cX2_becomeLike 37 = .ok (.iconst 0, 1) := by decide +kernel
theorem dX2_becomeLike_38 : decode cX2_becomeLike 38 = .ok (.iconst 4, 1) := by decide +kernel
theorem dX2_becomeLike_39 : decode cX2_becomeLike 39 = .ok (.invokestatic 47, 3) := by decide +kernel
theorem dX2_becomeLike_42 : decode cX2_becomeLike 42 = .ok (.aload_n 1, 1) := by decide +kernel
theorem dX2_becomeLike_43 : decode cX2_becomeLike 43 = .ok (.getfield 21, 3) := by decide +kernel
theorem dX2_becomeLike_46 : decode cX2_becomeLike 46 = .ok (.iconst 0, 1) := by decide +kernel
theorem dX2_becomeLike_47 : decode cX2_becomeLike 47 = .ok (.aload_n 0, 1) := by decide +kernel
theorem dX2_becomeLike_48 : decode cX2_becomeLike 48 = .ok (.getfield 21, 3) := by decide +kernel
theorem dX2_becomeLike_51 : decode cX2_becomeLike 51 = .ok (.iconst 0, 1) := by decide +kernel
theorem dX2_becomeLike_52 : decode cX2_becomeLike 52 = .ok (.iconst 4, 1) := by decide +kernel
theorem dX2_becomeLike_53 : decode cX2_becomeLike 53 = .ok (.invokestatic 47, 3) := by decide +kernel
theorem dX2_becomeLike_56 : decode cX2_becomeLike 56 = .ok (.aload_n 1, 1) := by decide +kernel
theorem dX2_becomeLike_57 : decode cX2_becomeLike 57 = .ok (.getfield 25, 3) := by decide +kernel
theorem dX2_becomeLike_60 : decode cX2_becomeLike 60 = .ok (.iconst 0, 1) := by decide +kernel
theorem dX2_becomeLike_61 : decode cX2_becomeLike 61 = .ok (.aload_n 0, 1) := by decide +kernel
theorem dX2_becomeLike_62 : decode cX2_becomeLike 62 = .ok (.getfield 25, 3) := by decide +kernel
theorem dX2_becomeLike_65 : decode cX2_becomeLike 65 = .ok (.iconst 0, 1) := by decide +kernel
theorem dX2_becomeLike_66 : decode cX2_becomeLike 66 = .ok (.bipush 16, 2) := by decide +kernel
theorem dX2_becomeLike_68 : decode cX2_becomeLike 68 = .ok (.invokestatic 47, 3) := by decide +kernel
theorem dX2_becomeLike_71 : decode cX2_becomeLike 71 = .ok (.aload_n 1, 1) := by decide +kernel
theorem dX2_becomeLike_72 : decode cX2_becomeLike 72 = .ok (.getfield 28, 3) := by decide +kernel
theorem dX2_becomeLike_75 : decode cX2_becomeLike 75 = .ok (.iconst 0, 1) := by decide +kernel
theorem dX2_becomeLike_76 : decode cX2_becomeLike 76 = .ok (.aload_n 0, 1) := by decide +kernel
theorem dX2_becomeLike_77 : decode cX2_becomeLike 77 = .ok (.getfield 28, 3) := by decide +kernel
theorem dX2_becomeLike_80 : decode cX2_becomeLike 80 = .ok (.iconst 0, 1) := by decide +kernel
theorem dX2_becomeLike_81 : decode cX2_becomeLike 81 = .ok (.bipush 16, 2) := by decide +kernel
theorem dX2_becomeLike_83 : decode cX2_becomeLike 83 = .ok (.invokestatic 47, 3) := by decide +kernel
theorem dX2_becomeLike_86 : decode cX2_becomeLike 86 = .ok (.aload_n 1, 1) := by decide +kernel
theorem dX2_becomeLike_87 : decode cX2_becomeLike 87 = .ok (.getfield 31, 3) := by decide +kernel
theorem dX2_becomeLike_90 : decode cX2_becomeLike 90 = .ok (.iconst 0, 1) := by decide +kernel
theorem dX2_becomeLike_91 : decode cX2_becomeLike 91 = .ok (.aload_n 0, 1) := by decide +kernel
theorem dX2_becomeLike_92 : decode cX2_becomeLike 92 = .ok (.getfield 31, 3) := by decide +kernel
theorem dX2_becomeLike_95 : decode cX2_becomeLike 95 = .ok (.iconst 0, 1) := by decide +kernel
theorem dX2_becomeLike_96 : decode cX2_becomeLike 96 = .ok (.bipush 15, 2) := by decide +kernel
theorem dX2_becomeLike_98 : decode cX2_becomeLike 98 = .ok (.invokestatic 47, 3) := by decide +kernel
theorem dX2_becomeLike_101 : decode cX2_becomeLike 101 = .ok (.aload_n 1, 1) := by decide +kernel
theorem dX2_becomeLike_102 : decode cX2_becomeLike 102 = .ok (.getfield 34, 3) := by decide +kernel
theorem dX2_becomeLike_105 : decode cX2_becomeLike 105 = .ok (.iconst 0, 1) := by decide +kernel
theorem dX2_becomeLike_106 : decode cX2_becomeLike 106 = .ok (.aload_n 0, 1) := by decide +kernel
theorem dX2_becomeLike_107 : decode cX2_becomeLike 107 = .ok (.getfield 34, 3) := by decide +kernel
theorem dX2_becomeLike_110 : decode cX2_becomeLike 110 = .ok (.iconst 0, 1) := by decide +kernel
theorem dX2_becomeLike_111 : decode cX2_becomeLike 111 = .ok (.bipush 15, 2) := by decide +kernel
theorem dX2_becomeLike_113 : decode cX2_becomeLike 113 = .ok (.invokestatic 47, 3) := by decide +kernel
theorem dX2_becomeLike_116 : decode cX2_becomeLike 116 = .ok (.aload_n 0, 1) := by decide +kernel
theorem dX2_becomeLike_117 : decode cX2_becomeLike 117 = .ok (.aload_n 1, 1) := by decide +kernel
theorem dX2_becomeLike_118 : decode cX2_becomeLike 118 = .ok (.getfield 37, 3) := by decide +kernel
theorem dX2_becomeLike_121 : decode cX2_becomeLike 121 = .ok (.putfield 37, 3) := by decide +kernel
theorem dX2_becomeLike_124 : decode cX2_becomeLike 124 = .ok (.aload_n 0, 1) := by decide +kernel
theorem dX2_becomeLike_125 : decode cX2_becomeLike 125 = .ok (.aload_n 1, 1) := by decide +kernel
theorem dX2_becomeLike_126 : decode cX2_becomeLike 126 = .ok (.getfield 41, 3) := by decide +kernel
theorem dX2_becomeLike_129 : decode cX2_becomeLike 129 = .ok (.putfield 41, 3) := by decide +kernel
theorem dX2_becomeLike_132 : decode cX2_becomeLike 132 = .ok (.aload_n 0, 1) := by decide +kernel
theorem dX2_becomeLike_133 : decode cX2_becomeLike 133 = .ok (.aload_n 1, 1) := by decide +kernel
theorem dX2_becomeLike_134 : decode cX2_becomeLike 134 = .ok (.getfield 44, 3) := by decide +kernel
theorem dX2_becomeLike_137 : decode cX2_becomeLike 137 = .ok (.putfield 44, 3) := by decide +kernel
theorem dX2_becomeLike_140 : decode cX2_becomeLike 140 = .ok (.return_, 1) := by decide +kernel
theorem dX2_readText_0 : decode cX2_readText 0 = .ok (.aload_n 0, 1) := by decide +kernel
theorem dX2_readText_1 : decode cX2_readText 1 = .ok (.iconst 0, 1) := by decide +kernel
theorem dX2_readText_2 : decode cX2_readText 2 = .ok (.putfield 37, 3) := by decide +kernel
theorem dX2_readText_5 : decode cX2_readText 5 = .ok (.aload_n 0, 1) := by decide +kernel
theorem dX2_readText_6 : decode cX2_readText 6 = .ok (.iconst 0, 1) := by decide +kernel
theorem dX2_readText_7 : decode cX2_readText 7 = .ok (.putfield 41, 3) := by decide +kernel
theorem dX2_readText_10 : decode cX2_readText 10 = .ok (.iconst 0, 1) := by decide +kernel
theorem dX2_readText_11 : decode cX2_readText 11 = .ok (.istore 4, 2) := by decide +kernel
theorem dX2_readText_13 : decode cX2_readText 13 = .ok (.iconst 0, 1) := by decide +kernel
theorem dX2_readText_14 : decode cX2_readText 14 = .ok (.istore 5, 2) := by decide +kernel
theorem dX2_readText_16 : decode cX2_readText 16 = .ok (.iload 5, 2) := by decide +kernel
theorem dX2_readText_18 : decode cX2_readText 18 = .ok (.iload_n 3, 1) := by decide +kernel
theorem dX2_readText_19 : decode cX2_readText 19 = .ok (.if_icmp .ge 36, 3) := by decide +kernel
theorem dX2_readText_22 : decode cX2_readText 22 = .ok (.aload_n 0, 1) := by decide +kernel
theorem dX2_readText_23 : decode cX2_readText 23 = .ok (.iload 4, 2) := by decide +kernel
theorem dX2_readText_25 : decode cX2_readText 25 = .ok (.aload_n 1, 1) := by decide +kernel
theorem dX2_readText_26 : decode cX2_readText 26 = .ok (.getfield 53, 3) := by decide +kernel
theorem dX2_readText_29 : decode cX2_readText 29 = .ok (.iload_n 2, 1) := by decide +kernel
theorem dX2_readText_30 : decode cX2_readText 30 = .ok (.iload 5, 2) := by decide +kernel
theorem dX2_readText_32 : decode cX2_readText 32 = .ok (.iadd, 1) := by decide +kernel
theorem dX2_readText_33 : decode cX2_readText 33 = .ok (.iaload, 1) := by decide +kernel
theorem dX2_readText_34 : decode cX2_readText 34 = .ok (.invokevirtual 58, 3) := by decide +kernel
theorem dX2_readText_37 : decode cX2_readText 37 = .ok (.istore 4, 2) := by decide +kernel
theorem dX2_readText_39 : decode cX2_readText 39 = .ok (.iload 4, 2) := by decide +kernel
theorem dX2_readText_41 : decode cX2_readText 41 = .ok (.bipush 6, 2) := by decide +kernel
theorem dX2_readText_43 : decode cX2_readText 43 = .ok (.if_icmp .ne 6, 3) := by decide +kernel
theorem dX2_readText_46 : decode cX2_readText 46 = .ok (.iload 5, 2) := by decide +kernel
theorem dX2_readText_48 : decode cX2_readText 48 = .ok (.ireturn, 1) := by decide +kernel
theorem dX2_readText_49 : decode cX2_readText 49 = .ok (.iinc 5 1, 3) := by decide +kernel
theorem dX2_readText_52 : decode cX2_readText 52 = .ok (.goto (-36), 3) := by decide +kernel
theorem dX2_readText_55 : decode cX2_readText 55 = .ok (.iload 4, 2) := by decide +kernel
theorem dX2_readText_57 : decode cX2_readText 57 = .ok (.iconst 5, 1) := by decide +kernel
theorem dX2_readText_58 : decode cX2_readText 58 = .ok (.if_icmp .ne 8, 3) := by decide +kernel
theorem dX2_readText_61 : decode cX2_readText 61 = .ok (.bipush (-9), 2) := by decide +kernel
theorem dX2_readText_63 : decode cX2_readText 63 = .ok (.goto 4, 3) := by decide +kernel
theorem dX2_readText_66 : decode cX2_readText 66 = .ok (.iload_n 3, 1) := by decide +kernel
theorem dX2_readText_67 : decode cX2_readText 67 = .ok (.ireturn, 1) := by decide +kernel
theorem dX2_takeCode_0 : decode cX2_takeCode 0 = .ok (.iload_n 1, 1) := by decide +kernel
theorem dX2_takeCode_1 : decode cX2_takeCode 1 = .ok (.tableswitch 95 0 5 #[39, 52, 61, 74, 80, 89], 39) := by decide +kernel
theorem dX2_takeCode_40 : decode cX2_takeCode 40 = .ok (.iload_n 2, 1) := by decide +kernel
theorem dX2_takeCode_41 : decode cX2_takeCode 41 = .ok (.bipush 119, 2) := by decide +kernel
theorem dX2_takeCode_43 : decode cX2_takeCode 43 = .ok (.if_icmp .ne 7, 3) := by decide +kernel
theorem dX2_takeCode_46 : decode cX2_takeCode 46 = .ok (.iconst 1, 1) := by decide +kernel
theorem dX2_takeCode_47 : decode cX2_takeCode 47 = .ok (.goto 5, 3) := by decide +kernel
theorem dX2_takeCode_50 : decode cX2_takeCode 50 = .ok (.bipush 6, 2) := by decide +kernel
theorem dX2_takeCode_52 : decode cX2_takeCode 52 = .ok (.ireturn, 1) := by decide +kernel
theorem dX2_takeCode_53 : decode cX2_takeCode 53 = .ok (.aload_n 0, 1) := by decide +kernel
theorem dX2_takeCode_54 : decode cX2_takeCode 54 = .ok (.iload_n 2, 1) := by decide +kernel
theorem dX2_takeCode_55 : decode cX2_takeCode 55 = .ok (.bipush 48, 2) := by decide +kernel
theorem dX2_takeCode_57 : decode cX2_takeCode 57 = .ok (.isub, 1) := by decide +kernel
theorem dX2_takeCode_58 : decode cX2_takeCode 58 = .ok (.invokevirtual 62, 3) := by decide +kernel
theorem dX2_takeCode_61 : decode cX2_takeCode 61 = .ok (.ireturn, 1) := by decide +kernel
theorem dX2_takeCode_62 : decode cX2_takeCode 62 = .ok (.iload_n 2, 1) := by decide +kernel
theorem dX2_takeCode_63 : decode cX2_takeCode 63 = .ok (.bipush 59, 2) := by decide +kernel
theorem dX2_takeCode_65 : decode cX2_takeCode 65 = .ok (.if_icmp .ne 7, 3) := by decide +kernel
theorem dX2_takeCode_68 : decode cX2_takeCode 68 = .ok (.iconst 3, 1) := by decide +kernel
theorem dX2_takeCode_69 : decode cX2_takeCode 69 = .ok (.goto 5, 3) := by decide +kernel
theorem dX2_takeCode_72 : decode cX2_takeCode 72 = .ok (.bipush 6, 2) := by decide +kernel
theorem dX2_takeCode_74 : decode cX2_takeCode 74 = .ok (.ireturn, 1) := by decide +kernel
theorem dX2_takeCode_75 : decode cX2_takeCode 75 = .ok (.aload_n 0, 1) := by decide +kernel
theorem dX2_takeCode_76 : decode cX2_takeCode 76 = .ok (.iload_n 2, 1) := by decide +kernel
theorem dX2_takeCode_77 : decode cX2_takeCode 77 = .ok (.invokevirtual 66, 3) := by decide +kernel
theorem dX2_takeCode_80 : decode cX2_takeCode 80 = .ok (.ireturn, 1) := by decide +kernel
theorem dX2_takeCode_81 : decode cX2_takeCode 81 = .ok (.aload_n 0, 1) := by decide +kernel
theorem dX2_takeCode_82 : decode cX2_takeCode 82 = .ok (.iload_n 2, 1) := by decide +kernel
theorem dX2_takeCode_83 : decode cX2_takeCode 83 = .ok (.bipush 48, 2) := by decide +kernel
theorem dX2_takeCode_85 : decode cX2_takeCode 85 = .ok (.isub, 1) := by decide +kernel
theorem dX2_takeCode_86 : decode cX2_takeCode 86 = .ok (.invokevirtual 69, 3) := by decide +kernel
theorem dX2_takeCode_89 : decode cX2_takeCode 89 = .ok (.ireturn, 1) := by decide +kernel
theorem dX2_takeCode_90 : decode cX2_takeCode 90 = .ok (.aload_n 0, 1) := by decide +kernel
theorem dX2_takeCode_91 : decode cX2_takeCode 91 = .ok (.iload_n 2, 1) := by decide +kernel
theorem dX2_takeCode_92 : decode cX2_takeCode 92 = .ok (.invokevirtual 72, 3) := by decide +kernel
theorem dX2_takeCode_95 : decode cX2_takeCode 95 = .ok (.ireturn, 1) := by decide +kernel
theorem dX2_takeCode_96 : decode cX2_takeCode 96 = .ok (.bipush 6, 2) := by decide +kernel
theorem dX2_takeCode_98 : decode cX2_takeCode 98 = .ok (.ireturn, 1) := by decide +kernel
theorem dX2_takeCut_0 : decode cX2_takeCut 0 = .ok (.iload_n 1, 1) := by decide +kernel
theorem dX2_takeCut_1 : decode cX2_takeCut 1 = .ok (.invokestatic 75, 3) := by decide +kernel
theorem dX2_takeCut_4 : decode cX2_takeCut 4 = .ok (.ifCond .ne 6, 3) := by decide +kernel
theorem dX2_takeCut_7 : decode cX2_takeCut 7 = .ok (.bipush 6, 2) := by decide +kernel
theorem dX2_takeCut_9 : decode cX2_takeCut 9 = .ok (.ireturn, 1) := by decide +kernel
theorem dX2_takeCut_10 : decode cX2_takeCut 10 = .ok (.aload_n 0, 1) := by decide +kernel
theorem dX2_takeCut_11 : decode cX2_takeCut 11 = .ok (.iload_n 1, 1) := by decide +kernel
theorem dX2_takeCut_12 : decode cX2_takeCut 12 = .ok (.invokevirtual 79, 3) := by decide +kernel
theorem dX2_takeCut_15 : decode cX2_takeCut 15 = .ok (.iconst 2, 1) := by decide +kernel
theorem dX2_takeCut_16 : decode cX2_takeCut 16 = .ok (.ireturn, 1) := by decide +kernel
theorem dX2_takeLetter_0 : decode cX2_takeLetter 0 = .ok (.iload_n 1, 1) := by decide +kernel
theorem dX2_takeLetter_1 : decode cX2_takeLetter 1 = .ok (.lookupswitch 53 #[(98, 47), (104, 41), (112, 35)], 35) := by decide +kernel
theorem dX2_takeLetter_36 : decode cX2_takeLetter 36 = .ok (.aload_n 0, 1) := by decide +kernel
theorem dX2_takeLetter_37 : decode cX2_takeLetter 37 = .ok (.iconst 0, 1) := by decide +kernel
theorem dX2_takeLetter_38 : decode cX2_takeLetter 38 = .ok (.invokevirtual 83, 3) := by decide +kernel
theorem dX2_takeLetter_41 : decode cX2_takeLetter 41 = .ok (.ireturn, 1) := by decide +kernel
theorem dX2_takeLetter_42 : decode cX2_takeLetter 42 = .ok (.aload_n 0, 1) := by decide +kernel
theorem dX2_takeLetter_43 : decode cX2_takeLetter 43 = .ok (.iconst 1, 1) := by decide +kernel
theorem dX2_takeLetter_44 : decode cX2_takeLetter 44 = .ok (.invokevirtual 83, 3) := by decide +kernel
theorem dX2_takeLetter_47 : decode cX2_takeLetter 47 = .ok (.ireturn, 1) := by decide +kernel
theorem dX2_takeLetter_48 : decode cX2_takeLetter 48 = .ok (.aload_n 0, 1) := by decide +kernel
theorem dX2_takeLetter_49 : decode cX2_takeLetter 49 = .ok (.iconst 2, 1) := by decide +kernel
theorem dX2_takeLetter_50 : decode cX2_takeLetter 50 = .ok (.invokevirtual 83, 3) := by decide +kernel
theorem dX2_takeLetter_53 : decode cX2_takeLetter 53 = .ok (.ireturn, 1) := by decide +kernel
theorem dX2_takeLetter_54 : decode cX2_takeLetter 54 = .ok (.bipush 6, 2) := by decide +kernel
theorem dX2_takeLetter_56 : decode cX2_takeLetter 56 = .ok (.ireturn, 1) := by decide +kernel
theorem dX2_addModule_0 : decode cX2_addModule 0 = .ok (.aload_n 0, 1) := by decide +kernel
theorem dX2_addModule_1 : decode cX2_addModule 1 = .ok (.getfield 37, 3) := by decide +kernel
theorem dX2_addModule_4 : decode cX2_addModule 4 = .ok (.iconst 4, 1) := by decide +kernel
theorem dX2_addModule_5 : decode cX2_addModule 5 = .ok (.if_icmp .lt 6, 3) := by decide +kernel
theorem dX2_addModule_8 : decode cX2_addModule 8 = .ok (.bipush 6, 2) := by decide +kernel
theorem dX2_addModule_10 : decode cX2_addModule 10 = .ok (.ireturn, 1) := by decide +kernel
theorem dX2_addModule_11 : decode cX2_addModule 11 = .ok (.aload_n 0, 1) := by decide +kernel
theorem dX2_addModule_12 : decode cX2_addModule 12 = .ok (.getfield 9, 3) := by decide +kernel
theorem dX2_addModule_15 : decode cX2_addModule 15 = .ok (.aload_n 0, 1) := by decide +kernel
theorem dX2_addModule_16 : decode cX2_addModule 16 = .ok (.getfield 37, 3) := by decide +kernel
theorem dX2_addModule_19 : decode cX2_addModule 19 = .ok (.iload_n 1, 1) := by decide +kernel
theorem dX2_addModule_20 : decode cX2_addModule 20 = .ok (.iastore, 1) := by decide +kernel
theorem dX2_addModule_21 : decode cX2_addModule 21 = .ok (.aload_n 0, 1) := by decide +kernel
theorem dX2_addModule_22 : decode cX2_addModule 22 = .ok (.getfield 15, 3) := by decide +kernel
theorem dX2_addModule_25 : decode cX2_addModule 25 = .ok (.aload_n 0, 1) := by decide +kernel
theorem dX2_addModule_26 : decode cX2_addModule 26 = .ok (.getfield 37, 3) := by decide +kernel
theorem dX2_addModule_29 : decode cX2_addModule 29 = .ok (.aload_n 0, 1) := by decide +kernel
theorem dX2_addModule_30 : decode cX2_addModule 30 = .ok (.getfield 41, 3) := by decide +kernel
theorem dX2_addModule_33 : decode cX2_addModule 33 = .ok (.iastore, 1) := by decide +kernel
theorem dX2_addModule_34 : decode cX2_addModule 34 = .ok (.aload_n 0, 1) := by decide +kernel
theorem dX2_addModule_35 : decode cX2_addModule 35 = .ok (.getfield 18, 3) := by decide +kernel
theorem dX2_addModule_38 : decode cX2_addModule 38 = .ok (.aload_n 0, 1) := by decide +kernel
theorem dX2_addModule_39 : decode cX2_addModule 39 = .ok (.getfield 37, 3) := by decide +kernel
theorem dX2_addModule_42 : decode cX2_addModule 42 = .ok (.iconst 0, 1) := by decide +kernel
theorem dX2_addModule_43 : decode cX2_addModule 43 = .ok (.iastore, 1) := by decide +kernel
theorem dX2_addModule_44 : decode cX2_addModule 44 = .ok (.aload_n 0, 1) := by decide +kernel
theorem dX2_addModule_45 : decode cX2_addModule 45 = .ok (.getfield 21, 3) := by decide +kernel
theorem dX2_addModule_48 : decode cX2_addModule 48 = .ok (.aload_n 0, 1) := by decide +kernel
theorem dX2_addModule_49 : decode cX2_addModule 49 = .ok (.getfield 37, 3) := by decide +kernel
theorem dX2_addModule_52 : decode cX2_addModule 52 = .ok (.iconst 0, 1) := by decide +kernel
theorem dX2_addModule_53 : decode cX2_addModule 53 = .ok (.bastore, 1) := by decide +kernel
theorem dX2_addModule_54 : decode cX2_addModule 54 = .ok (.aload_n 0, 1) := by decide +kernel
theorem dX2_addModule_55 : decode cX2_addModule 55 = .ok (.dup, 1) := by decide +kernel
theorem dX2_addModule_56 : decode cX2_addModule 56 = .ok (.getfield 37, 3) := by decide +kernel
theorem dX2_addModule_59 : decode cX2_addModule 59 = .ok (.iconst 1, 1) := by decide +kernel
theorem dX2_addModule_60 : decode cX2_addModule 60 = .ok (.iadd, 1) := by decide +kernel
theorem dX2_addModule_61 : decode cX2_addModule 61 = .ok (.putfield 37, 3) := by decide +kernel
theorem dX2_addModule_64 : decode cX2_addModule 64 = .ok (.iconst 4, 1) := by decide +kernel
theorem dX2_addModule_65 : decode cX2_addModule 65 = .ok (.ireturn, 1) := by decide +kernel
theorem dX2_takeLevel_0 : decode cX2_takeLevel 0 = .ok (.aload_n 0, 1) := by decide +kernel
theorem dX2_takeLevel_1 : decode cX2_takeLevel 1 = .ok (.getfield 37, 3) := by decide +kernel
theorem dX2_takeLevel_4 : decode cX2_takeLevel 4 = .ok (.iconst 1, 1) := by decide +kernel
theorem dX2_takeLevel_5 : decode cX2_takeLevel 5 = .ok (.isub, 1) := by decide +kernel
theorem dX2_takeLevel_6 : decode cX2_takeLevel 6 = .ok (.istore_n 2, 1) := by decide +kernel
theorem dX2_takeLevel_7 : decode cX2_takeLevel 7 = .ok (.iload_n 1, 1) := by decide +kernel
theorem dX2_takeLevel_8 : decode cX2_takeLevel 8 = .ok (.invokestatic 86, 3) := by decide +kernel
theorem dX2_takeLevel_11 : decode cX2_takeLevel 11 = .ok (.ifCond .eq 26, 3) := by decide +kernel
theorem dX2_takeLevel_14 : decode cX2_takeLevel 14 = .ok (.iload_n 2, 1) := by decide +kernel
theorem dX2_takeLevel_15 : decode cX2_takeLevel 15 = .ok (.ifCond .lt 22, 3) := by decide +kernel
theorem dX2_takeLevel_18 : decode cX2_takeLevel 18 = .ok (.aload_n 0, 1) := by decide +kernel
theorem dX2_takeLevel_19 : decode cX2_takeLevel 19 = .ok (.getfield 18, 3) := by decide +kernel
theorem dX2_takeLevel_22 : decode cX2_takeLevel 22 = .ok (.iload_n 2, 1) := by decide +kernel
theorem dX2_takeLevel_23 : decode cX2_takeLevel 23 = .ok (.iaload, 1) := by decide +kernel
theorem dX2_takeLevel_24 : decode cX2_takeLevel 24 = .ok (.iconst 4, 1) := by decide +kernel
theorem dX2_takeLevel_25 : decode cX2_takeLevel 25 = .ok (.if_icmp .ge 12, 3) := by decide +kernel
theorem dX2_takeLevel_28 : decode cX2_takeLevel 28 = .ok (.aload_n 0, 1) := by decide +kernel
theorem dX2_takeLevel_29 : decode cX2_takeLevel 29 = .ok (.getfield 41, 3) := by decide +kernel
theorem dX2_takeLevel_32 : decode cX2_takeLevel 32 = .ok (.bipush 16, 2) := by decide +kernel
theorem dX2_takeLevel_34 : decode cX2_takeLevel 34 = .ok (.if_icmp .lt 6, 3) := by decide +kernel
theorem dX2_takeLevel_37 : decode cX2_takeLevel 37 = .ok (.bipush 6, 2) := by decide +kernel
theorem dX2_takeLevel_39 : decode cX2_takeLevel 39 = .ok (.ireturn, 1) := by decide +kernel
theorem dX2_takeLevel_40 : decode cX2_takeLevel 40 = .ok (.aload_n 0, 1) := by decide +kernel
theorem dX2_takeLevel_41 : decode cX2_takeLevel 41 = .ok (.getfield 25, 3) := by decide +kernel
theorem dX2_takeLevel_44 : decode cX2_takeLevel 44 = .ok (.aload_n 0, 1) := by decide +kernel
theorem dX2_takeLevel_45 : decode cX2_takeLevel 45 = .ok (.getfield 41, 3) := by decide +kernel
theorem dX2_takeLevel_48 : decode cX2_takeLevel 48 = .ok (.iload_n 1, 1) := by decide +kernel
theorem dX2_takeLevel_49 : decode cX2_takeLevel 49 = .ok (.iastore, 1) := by decide +kernel
theorem dX2_takeLevel_50 : decode cX2_takeLevel 50 = .ok (.aload_n 0, 1) := by decide +kernel
theorem dX2_takeLevel_51 : decode cX2_takeLevel 51 = .ok (.getfield 28, 3) := by decide +kernel
theorem dX2_takeLevel_54 : decode cX2_takeLevel 54 = .ok (.aload_n 0, 1) := by decide +kernel
theorem dX2_takeLevel_55 : decode cX2_takeLevel 55 = .ok (.getfield 41, 3) := by decide +kernel
theorem dX2_takeLevel_58 : decode cX2_takeLevel 58 = .ok (.iload_n 2, 1) := by decide +kernel
theorem dX2_takeLevel_59 : decode cX2_takeLevel 59 = .ok (.iastore, 1) := by decide +kernel
theorem dX2_takeLevel_60 : decode cX2_takeLevel 60 = .ok (.aload_n 0, 1) := by decide +kernel
theorem dX2_takeLevel_61 : decode cX2_takeLevel 61 = .ok (.dup, 1) := by decide +kernel
theorem dX2_takeLevel_62 : decode cX2_takeLevel 62 = .ok (.getfield 41, 3) := by decide +kernel
theorem dX2_takeLevel_65 : decode cX2_takeLevel 65 = .ok (.iconst 1, 1) := by decide +kernel
theorem dX2_takeLevel_66 : decode cX2_takeLevel 66 = .ok (.iadd, 1) := by decide +kernel
theorem dX2_takeLevel_67 : decode cX2_takeLevel 67 = .ok (.putfield 41, 3) := by decide +kernel
theorem dX2_takeLevel_70 : decode cX2_takeLevel 70 = .ok (.aload_n 0, 1) := by decide +kernel
theorem dX2_takeLevel_71 : decode cX2_takeLevel 71 = .ok (.getfield 18, 3) := by decide +kernel
theorem dX2_takeLevel_74 : decode cX2_takeLevel 74 = .ok (.iload_n 2, 1) := by decide +kernel
theorem dX2_takeLevel_75 : decode cX2_takeLevel 75 = .ok (.dup2, 1) := by decide +kernel
theorem dX2_takeLevel_76 : decode cX2_takeLevel 76 = .ok (.iaload, 1) := by decide +kernel
theorem dX2_takeLevel_77 : decode cX2_takeLevel 77 = .ok (.iconst 1, 1) := by decide +kernel
theorem dX2_takeLevel_78 : decode cX2_takeLevel 78 = .ok (.iadd, 1) := by decide +kernel
theorem dX2_takeLevel_79 : decode cX2_takeLevel 79 = .ok (.iastore, 1) := by decide +kernel
theorem dX2_takeLevel_80 : decode cX2_takeLevel 80 = .ok (.iconst 5, 1) := by decide +kernel
theorem dX2_takeLevel_81 : decode cX2_takeLevel 81 = .ok (.ireturn, 1) := by decide +kernel
theorem dX2_takeMore_0 : decode cX2_takeMore 0 = .ok (.iload_n 1, 1) := by decide +kernel
theorem dX2_takeMore_1 : decode cX2_takeMore 1 = .ok (.bipush 59, 2) := by decide +kernel
theorem dX2_takeMore_3 : decode cX2_takeMore 3 = .ok (.if_icmp .ne 18, 3) := by decide +kernel
theorem dX2_takeMore_6 : decode cX2_takeMore 6 = .ok (.aload_n 0, 1) := by decide +kernel
theorem dX2_takeMore_7 : decode cX2_takeMore 7 = .ok (.getfield 37, 3) := by decide +kernel
theorem dX2_takeMore_10 : decode cX2_takeMore 10 = .ok (.iconst 4, 1) := by decide +kernel
theorem dX2_takeMore_11 : decode cX2_takeMore 11 = .ok (.if_icmp .ge 7, 3) := by decide +kernel
theorem dX2_takeMore_14 : decode cX2_takeMore 14 = .ok (.iconst 3, 1) := by decide +kernel
theorem dX2_takeMore_15 : decode cX2_takeMore 15 = .ok (.goto 5, 3) := by decide +kernel
theorem dX2_takeMore_18 : decode cX2_takeMore 18 = .ok (.bipush 6, 2) := by decide +kernel
theorem dX2_takeMore_20 : decode cX2_takeMore 20 = .ok (.ireturn, 1) := by decide +kernel
theorem dX2_takeMore_21 : decode cX2_takeMore 21 = .ok (.aload_n 0, 1) := by decide +kernel
theorem dX2_takeMore_22 : decode cX2_takeMore 22 = .ok (.iload_n 1, 1) := by decide +kernel
theorem dX2_takeMore_23 : decode cX2_takeMore 23 = .ok (.bipush 48, 2) := by decide +kernel
theorem dX2_takeMore_25 : decode cX2_takeMore 25 = .ok (.isub, 1) := by decide +kernel
theorem dX2_takeMore_26 : decode cX2_takeMore 26 = .ok (.invokevirtual 69, 3) := by decide +kernel
theorem dX2_takeMore_29 : decode cX2_takeMore 29 = .ok (.ireturn, 1) := by decide +kernel
theorem dX2_placeAmongLiving_0 : decode cX2_placeAmongLiving 0 = .ok (.aload_n 0, 1) := by decide +kernel
theorem dX2_placeAmongLiving_1 : decode cX2_placeAmongLiving 1 = .ok (.getfield 21, 3) := by decide +kernel
theorem dX2_placeAmongLiving_4 : decode cX2_placeAmongLiving 4 = .ok (.iload_n 1, 1) := by decide +kernel
theorem dX2_placeAmongLiving_5 : decode cX2_placeAmongLiving 5 = .ok (.baload, 1) := by decide +kernel
theorem dX2_placeAmongLiving_6 : decode cX2_placeAmongLiving 6 = .ok (.ifCond .eq 6, 3) := by decide +kernel
theorem dX2_placeAmongLiving_9 : decode cX2_placeAmongLiving 9 = .ok (.bipush (-9), 2) := by decide +kernel
theorem dX2_placeAmongLiving_11 : decode cX2_placeAmongLiving 11 = .ok (.ireturn, 1) := by decide +kernel
theorem dX2_placeAmongLiving_12 : decode cX2_placeAmongLiving 12 = .ok (.iconst 0, 1) := by decide +kernel
theorem dX2_placeAmongLiving_13 : decode cX2_placeAmongLiving 13 = .ok (.istore_n 2, 1) := by decide +kernel
theorem dX2_placeAmongLiving_14 : decode cX2_placeAmongLiving 14 = .ok (.iconst 0, 1) := by decide +kernel
theorem dX2_placeAmongLiving_15 : decode cX2_placeAmongLiving 15 = .ok (.istore_n 3, 1) := by decide +kernel
theorem dX2_placeAmongLiving_16 : decode cX2_placeAmongLiving 16 = .ok (.iload_n 3, 1) := by decide +kernel
theorem dX2_placeAmongLiving_17 : decode cX2_placeAmongLiving 17 = .ok (.iload_n 1, 1) := by decide +kernel
theorem dX2_placeAmongLiving_18 : decode cX2_placeAmongLiving 18 = .ok (.if_icmp .ge 26, 3) := by decide +kernel
theorem dX2_placeAmongLiving_21 : decode cX2_placeAmongLiving 21 = .ok (.iload_n 2, 1) := by decide +kernel
theorem dX2_placeAmongLiving_22 : decode cX2_placeAmongLiving 22 = .ok (.aload_n 0, 1) := by decide +kernel
theorem dX2_placeAmongLiving_23 : decode cX2_placeAmongLiving 23 = .ok (.getfield 21, 3) := by decide +kernel
theorem dX2_placeAmongLiving_26 : decode cX2_placeAmongLiving 26 = .ok (.iload_n 3, 1) := by decide +kernel
theorem dX2_placeAmongLiving_27 : decode cX2_placeAmongLiving 27 = .ok (.baload, 1) := by decide +kernel
theorem dX2_placeAmongLiving_28 : decode cX2_placeAmongLiving 28 = .ok (.ifCond .eq 7, 3) := by decide +kernel
theorem dX2_placeAmongLiving_31 : decode cX2_placeAmongLiving 31 = .ok (.iconst 0, 1) := by decide +kernel
theorem dX2_placeAmongLiving_32 : decode cX2_placeAmongLiving 32 = .ok (.goto 4, 3) := by decide +kernel
theorem dX2_placeAmongLiving_35 : decode cX2_placeAmongLiving 35 = .ok (.iconst 1, 1) := by decide +kernel
theorem dX2_placeAmongLiving_36 : decode cX2_placeAmongLiving 36 = .ok (.iadd, 1) := by decide +kernel
theorem dX2_placeAmongLiving_37 : decode cX2_placeAmongLiving 37 = .ok (.istore_n 2, 1) := by decide +kernel
theorem dX2_placeAmongLiving_38 : decode cX2_placeAmongLiving 38 = .ok (.iinc 3 1, 3) := by decide +kernel
theorem dX2_placeAmongLiving_41 : decode cX2_placeAmongLiving 41 = .ok (.goto (-25), 3) := by decide +kernel
theorem dX2_placeAmongLiving_44 : decode cX2_placeAmongLiving 44 = .ok (.iload_n 2, 1) := by decide +kernel
theorem dX2_placeAmongLiving_45 : decode cX2_placeAmongLiving 45 = .ok (.ireturn, 1) := by decide +kernel
theorem dX2_deadModules_0 : decode cX2_deadModules 0 = .ok (.iconst 0, 1) := by decide +kernel
theorem dX2_deadModules_1 : decode cX2_deadModules 1 = .ok (.istore_n 1, 1) := by decide +kernel
theorem dX2_deadModules_2 : decode cX2_deadModules 2 = .ok (.iconst 0, 1) := by decide +kernel
theorem dX2_deadModules_3 : decode cX2_deadModules 3 = .ok (.istore_n 2, 1) := by decide +kernel
theorem dX2_deadModules_4 : decode cX2_deadModules 4 = .ok (.iload_n 2, 1) := by decide +kernel
theorem dX2_deadModules_5 : decode cX2_deadModules 5 = .ok (.aload_n 0, 1) := by decide +kernel
theorem dX2_deadModules_6 : decode cX2_deadModules 6 = .ok (.getfield 37, 3) := by decide +kernel
theorem dX2_deadModules_9 : decode cX2_deadModules 9 = .ok (.if_icmp .ge 26, 3) := by decide +kernel
theorem dX2_deadModules_12 : decode cX2_deadModules 12 = .ok (.iload_n 1, 1) := by decide +kernel
theorem dX2_deadModules_13 : decode cX2_deadModules 13 = .ok (.aload_n 0, 1) := by decide +kernel
theorem dX2_deadModules_14 : decode cX2_deadModules 14 = .ok (.getfield 21, 3) := by decide +kernel
theorem dX2_deadModules_17 : decode cX2_deadModules 17 = .ok (.iload_n 2, 1) := by decide +kernel
theorem dX2_deadModules_18 : decode cX2_deadModules 18 = .ok (.baload, 1) := by decide +kernel
theorem dX2_deadModules_19 : decode cX2_deadModules 19 = .ok (.ifCond .eq 7, 3) := by decide +kernel
theorem dX2_deadModules_22 : decode cX2_deadModules 22 = .ok (.iconst 1, 1) := by decide +kernel
theorem dX2_deadModules_23 : decode cX2_deadModules 23 = .ok (.goto 4, 3) := by decide +kernel
theorem dX2_deadModules_26 : decode cX2_deadModules 26 = .ok (.iconst 0, 1) := by decide +kernel
theorem dX2_deadModules_27 : decode cX2_deadModules 27 = .ok (.iadd, 1) := by decide +kernel
theorem dX2_deadModules_28 : decode cX2_deadModules 28 = .ok (.istore_n 1, 1) := by decide +kernel
theorem dX2_deadModules_29 : decode cX2_deadModules 29 = .ok (.iinc 2 1, 3) := by decide +kernel
theorem dX2_deadModules_32 : decode cX2_deadModules 32 = .ok (.goto (-28), 3) := by decide +kernel
theorem dX2_deadModules_35 : decode cX2_deadModules 35 = .ok (.iload_n 1, 1) := by decide +kernel
theorem dX2_deadModules_36 : decode cX2_deadModules 36 = .ok (.ireturn, 1) := by decide +kernel
theorem dX2_levelsTogether_0 : decode cX2_levelsTogether 0 = .ok (.iconst 0, 1) := by decide +kernel
theorem dX2_levelsTogether_1 : decode cX2_levelsTogether 1 = .ok (.istore_n 2, 1) := by decide +kernel
theorem dX2_levelsTogether_2 : decode cX2_levelsTogether 2 = .ok (.aload_n 0, 1) := by decide +kernel
theorem dX2_levelsTogether_3 : decode cX2_levelsTogether 3 = .ok (.getfield 15, 3) := by decide +kernel
theorem dX2_levelsTogether_6 : decode cX2_levelsTogether 6 = .ok (.iload_n 1, 1) := by decide +kernel
theorem dX2_levelsTogether_7 : decode cX2_levelsTogether 7 = .ok (.iaload, 1) := by decide +kernel
theorem dX2_levelsTogether_8 : decode cX2_levelsTogether 8 = .ok (.istore_n 3, 1) := by decide +kernel
theorem dX2_levelsTogether_9 : decode cX2_levelsTogether 9 = .ok (.iload_n 3, 1) := by decide +kernel
theorem dX2_levelsTogether_10 : decode cX2_levelsTogether 10 = .ok (.aload_n 0, 1) := by decide +kernel
theorem dX2_levelsTogether_11 : decode cX2_levelsTogether 11 = .ok (.getfield 15, 3) := by decide +kernel
theorem dX2_levelsTogether_14 : decode cX2_levelsTogether 14 = .ok (.iload_n 1, 1) := by decide +kernel
theorem dX2_levelsTogether_15 : decode cX2_levelsTogether 15 = .ok (.iaload, 1) := by decide +kernel
theorem dX2_levelsTogether_16 : decode cX2_levelsTogether 16 = .ok (.aload_n 0, 1) := by decide +kernel
theorem dX2_levelsTogether_17 : decode cX2_levelsTogether 17 = .ok (.getfield 18, 3) := by decide +kernel
theorem dX2_levelsTogether_20 : decode cX2_levelsTogether 20 = .ok (.iload_n 1, 1) := by decide +kernel
theorem dX2_levelsTogether_21 : decode cX2_levelsTogether 21 = .ok (.iaload, 1) := by decide +kernel
theorem dX2_levelsTogether_22 : decode cX2_levelsTogether 22 = .ok (.iadd, 1) := by decide +kernel
theorem dX2_levelsTogether_23 : decode cX2_levelsTogether 23 = .ok (.if_icmp .ge 18, 3) := by decide +kernel
theorem dX2_levelsTogether_26 : decode cX2_levelsTogether 26 = .ok (.iload_n 2, 1) := by decide +kernel
theorem dX2_levelsTogether_27 : decode cX2_levelsTogether 27 = .ok (.aload_n 0, 1) := by decide +kernel
theorem dX2_levelsTogether_28 : decode cX2_levelsTogether 28 = .ok (.getfield 25, 3) := by decide +kernel
theorem dX2_levelsTogether_31 : decode cX2_levelsTogether 31 = .ok (.iload_n 3, 1) := by decide +kernel
theorem dX2_levelsTogether_32 : decode cX2_levelsTogether 32 = .ok (.iaload, 1) := by decide +kernel
theorem dX2_levelsTogether_33 : decode cX2_levelsTogether 33 = .ok (.iadd, 1) := by decide +kernel
theorem dX2_levelsTogether_34 : decode cX2_levelsTogether 34 = .ok (.istore_n 2, 1) := by decide +kernel
theorem dX2_levelsTogether_35 : decode cX2_levelsTogether 35 = .ok (.iinc 3 1, 3) := by decide +kernel
theorem dX2_levelsTogether_38 : decode cX2_levelsTogether 38 = .ok (.goto (-29), 3) := by decide +kernel
theorem dX2_levelsTogether_41 : decode cX2_levelsTogether 41 = .ok (.iload_n 2, 1) := by decide +kernel
theorem dX2_levelsTogether_42 : decode cX2_levelsTogether 42 = .ok (.ireturn, 1) := by decide +kernel
theorem dX2_takeLevels_0 : decode cX2_takeLevels 0 = .ok (.iconst 0, 1) := by decide +kernel
theorem dX2_takeLevels_1 : decode cX2_takeLevels 1 = .ok (.istore 4, 2) := by decide +kernel
theorem dX2_takeLevels_3 : decode cX2_takeLevels 3 = .ok (.iconst 0, 1) := by decide +kernel
theorem dX2_takeLevels_4 : decode cX2_takeLevels 4 = .ok (.istore 5, 2) := by decide +kernel
theorem dX2_takeLevels_6 : decode cX2_takeLevels 6 = .ok (.iload 5, 2) := by decide +kernel
theorem dX2_takeLevels_8 : decode cX2_takeLevels 8 = .ok (.aload_n 0, 1) := by decide +kernel
theorem dX2_takeLevels_9 : decode cX2_takeLevels 9 = .ok (.getfield 37, 3) := by decide +kernel
theorem dX2_takeLevels_12 : decode cX2_takeLevels 12 = .ok (.if_icmp .ge 80, 3) := by decide +kernel
theorem dX2_takeLevels_15 : decode cX2_takeLevels 15 = .ok (.aload_n 0, 1) := by decide +kernel
theorem dX2_takeLevels_16 : decode cX2_takeLevels 16 = .ok (.getfield 21, 3) := by decide +kernel
theorem dX2_takeLevels_19 : decode cX2_takeLevels 19 = .ok (.iload 5, 2) := by decide +kernel
theorem dX2_takeLevels_21 : decode cX2_takeLevels 21 = .ok (.baload, 1) := by decide +kernel
theorem dX2_takeLevels_22 : decode cX2_takeLevels 22 = .ok (.ifCond .eq 6, 3) := by decide +kernel
theorem dX2_takeLevels_25 : decode cX2_takeLevels 25 = .ok (.goto 61, 3) := by decide +kernel
theorem dX2_takeLevels_28 : decode cX2_takeLevels 28 = .ok (.aload_n 0, 1) := by decide +kernel
theorem dX2_takeLevels_29 : decode cX2_takeLevels 29 = .ok (.getfield 18, 3) := by decide +kernel
theorem dX2_takeLevels_32 : decode cX2_takeLevels 32 = .ok (.iload 5, 2) := by decide +kernel
theorem dX2_takeLevels_34 : decode cX2_takeLevels 34 = .ok (.iaload, 1) := by decide +kernel
theorem dX2_takeLevels_35 : decode cX2_takeLevels 35 = .ok (.iload_n 3, 1) := by decide +kernel
theorem dX2_takeLevels_36 : decode cX2_takeLevels 36 = .ok (.iload 4, 2) := by decide +kernel
theorem dX2_takeLevels_38 : decode cX2_takeLevels 38 = .ok (.isub, 1) := by decide +kernel
theorem dX2_takeLevels_39 : decode cX2_takeLevels 39 = .ok (.if_icmp .le 6, 3) := by decide +kernel
theorem dX2_takeLevels_42 : decode cX2_takeLevels 42 = .ok (.goto 50, 3) := by decide +kernel
theorem dX2_takeLevels_45 : decode cX2_takeLevels 45 = .ok (.aload_n 1, 1) := by decide +kernel
theorem dX2_takeLevels_46 : decode cX2_takeLevels 46 = .ok (.getfield 53, 3) := by decide +kernel
theorem dX2_takeLevels_49 : decode cX2_takeLevels 49 = .ok (.iload_n 2, 1) := by decide +kernel
theorem dX2_takeLevels_50 : decode cX2_takeLevels 50 = .ok (.iload 4, 2) := by decide +kernel
theorem dX2_takeLevels_52 : decode cX2_takeLevels 52 = .ok (.iadd, 1) := by decide +kernel
theorem dX2_takeLevels_53 : decode cX2_takeLevels 53 = .ok (.aload_n 0, 1) := by decide +kernel
theorem dX2_takeLevels_54 : decode cX2_takeLevels 54 = .ok (.getfield 25, 3) := by decide +kernel
theorem dX2_takeLevels_57 : decode cX2_takeLevels 57 = .ok (.aload_n 0, 1) := by decide +kernel
theorem dX2_takeLevels_58 : decode cX2_takeLevels 58 = .ok (.getfield 15, 3) := by decide +kernel
theorem dX2_takeLevels_61 : decode cX2_takeLevels 61 = .ok (.iload 5, 2) := by decide +kernel
theorem dX2_takeLevels_63 : decode cX2_takeLevels 63 = .ok (.iaload, 1) := by decide +kernel
theorem dX2_takeLevels_64 : decode cX2_takeLevels 64 = .ok (.aload_n 0, 1) := by decide +kernel
theorem dX2_takeLevels_65 : decode cX2_takeLevels 65 = .ok (.getfield 18, 3) := by decide +kernel
theorem dX2_takeLevels_68 : decode cX2_takeLevels 68 = .ok (.iload 5, 2) := by decide +kernel
theorem dX2_takeLevels_70 : decode cX2_takeLevels 70 = .ok (.iaload, 1) := by decide +kernel
theorem dX2_takeLevels_71 : decode cX2_takeLevels 71 = .ok (.invokestatic 47, 3) := by decide +kernel
theorem dX2_takeLevels_74 : decode cX2_takeLevels 74 = .ok (.iload 4, 2) := by decide +kernel
theorem dX2_takeLevels_76 : decode cX2_takeLevels 76 = .ok (.aload_n 0, 1) := by decide +kernel
theorem dX2_takeLevels_77 : decode cX2_takeLevels 77 = .ok (.getfield 18, 3) := by decide +kernel
theorem dX2_takeLevels_80 : decode cX2_takeLevels 80 = .ok (.iload 5, 2) := by decide +kernel
theorem dX2_takeLevels_82 : decode cX2_takeLevels 82 = .ok (.iaload, 1) := by decide +kernel
theorem dX2_takeLevels_83 : decode cX2_takeLevels 83 = .ok (.iadd, 1) := by decide +kernel
theorem dX2_takeLevels_84 : decode cX2_takeLevels 84 = .ok (.istore 4, 2) := by decide +kernel
theorem dX2_takeLevels_86 : decode cX2_takeLevels 86 = .ok (.iinc 5 1, 3) := by decide +kernel
theorem dX2_takeLevels_89 : decode cX2_takeLevels 89 = .ok (.goto (-83), 3) := by decide +kernel
theorem dX2_takeLevels_92 : decode cX2_takeLevels 92 = .ok (.iload 4, 2) := by decide +kernel
theorem dX2_takeLevels_94 : decode cX2_takeLevels 94 = .ok (.ireturn, 1) := by decide +kernel
theorem dX2_live_0 : decode cX2_live 0 = .ok (.iconst 0, 1) := by decide +kernel
theorem dX2_live_1 : decode cX2_live 1 = .ok (.istore 4, 2) := by decide +kernel
theorem dX2_live_3 : decode cX2_live 3 = .ok (.iload 4, 2) := by decide +kernel
theorem dX2_live_5 : decode cX2_live 5 = .ok (.iload_n 3, 1) := by decide +kernel
theorem dX2_live_6 : decode cX2_live 6 = .ok (.if_icmp .ge 43, 3) := by decide +kernel
theorem dX2_live_9 : decode cX2_live 9 = .ok (.aload_n 0, 1) := by decide +kernel
theorem dX2_live_10 : decode cX2_live 10 = .ok (.aload_n 1, 1) := by decide +kernel
theorem dX2_live_11 : decode cX2_live 11 = .ok (.getfield 53, 3) := by decide +kernel
theorem dX2_live_14 : decode cX2_live 14 = .ok (.iload_n 2, 1) := by decide +kernel
theorem dX2_live_15 : decode cX2_live 15 = .ok (.iconst 2, 1) := by decide +kernel
theorem dX2_live_16 : decode cX2_live 16 = .ok (.iload 4, 2) := by decide +kernel
theorem dX2_live_18 : decode cX2_live 18 = .ok (.imul, 1) := by decide +kernel
theorem dX2_live_19 : decode cX2_live 19 = .ok (.iadd, 1) := by decide +kernel
theorem dX2_live_20 : decode cX2_live 20 = .ok (.iaload, 1) := by decide +kernel
theorem dX2_live_21 : decode cX2_live 21 = .ok (.aload_n 1, 1) := by decide +kernel
theorem dX2_live_22 : decode cX2_live 22 = .ok (.getfield 53, 3) := by decide +kernel
theorem dX2_live_25 : decode cX2_live 25 = .ok (.iload_n 2, 1) := by decide +kernel
theorem dX2_live_26 : decode cX2_live 26 = .ok (.iconst 2, 1) := by decide +kernel
theorem dX2_live_27 : decode cX2_live 27 = .ok (.iload 4, 2) := by decide +kernel
theorem dX2_live_29 : decode cX2_live 29 = .ok (.imul, 1) := by decide +kernel
theorem dX2_live_30 : decode cX2_live 30 = .ok (.iadd, 1) := by decide +kernel
theorem dX2_live_31 : decode cX2_live 31 = .ok (.iconst 1, 1) := by decide +kernel
theorem dX2_live_32 : decode cX2_live 32 = .ok (.iadd, 1) := by decide +kernel
theorem dX2_live_33 : decode cX2_live 33 = .ok (.iaload, 1) := by decide +kernel
theorem dX2_live_34 : decode cX2_live 34 = .ok (.invokevirtual 89, 3) := by decide +kernel
theorem dX2_live_37 : decode cX2_live 37 = .ok (.ifCond .ne 6, 3) := by decide +kernel
theorem dX2_live_40 : decode cX2_live 40 = .ok (.iload 4, 2) := by decide +kernel
theorem dX2_live_42 : decode cX2_live 42 = .ok (.ireturn, 1) := by decide +kernel
theorem dX2_live_43 : decode cX2_live 43 = .ok (.iinc 4 1, 3) := by decide +kernel
theorem dX2_live_46 : decode cX2_live 46 = .ok (.goto (-43), 3) := by decide +kernel
theorem dX2_live_49 : decode cX2_live 49 = .ok (.bipush (-9), 2) := by decide +kernel
theorem dX2_live_51 : decode cX2_live 51 = .ok (.ireturn, 1) := by decide +kernel
theorem dX2_canAct_0 : decode cX2_canAct 0 = .ok (.iload_n 2, 1) := by decide +kernel
theorem dX2_canAct_1 : decode cX2_canAct 1 = .ok (.bipush 20, 2) := by decide +kernel
theorem dX2_canAct_3 : decode cX2_canAct 3 = .ok (.if_icmp .ne 10, 3) := by decide +kernel
theorem dX2_canAct_6 : decode cX2_canAct 6 = .ok (.aload_n 0, 1) := by decide +kernel
theorem dX2_canAct_7 : decode cX2_canAct 7 = .ok (.iload_n 1, 1) := by decide +kernel
theorem dX2_canAct_8 : decode cX2_canAct 8 = .ok (.invokevirtual 79, 3) := by decide +kernel
theorem dX2_canAct_11 : decode cX2_canAct 11 = .ok (.iconst 1, 1) := by decide +kernel
theorem dX2_canAct_12 : decode cX2_canAct 12 = .ok (.ireturn, 1) := by decide +kernel
theorem dX2_canAct_13 : decode cX2_canAct 13 = .ok (.iload_n 2, 1) := by decide +kernel
theorem dX2_canAct_14 : decode cX2_canAct 14 = .ok (.bipush 30, 2) := by decide +kernel
theorem dX2_canAct_16 : decode cX2_canAct 16 = .ok (.if_icmp .lt 40, 3) := by decide +kernel
theorem dX2_canAct_19 : decode cX2_canAct 19 = .ok (.iload_n 2, 1) := by decide +kernel
theorem dX2_canAct_20 : decode cX2_canAct 20 = .ok (.bipush 30, 2) := by decide +kernel
theorem dX2_canAct_22 : decode cX2_canAct 22 = .ok (.isub, 1) := by decide +kernel
theorem dX2_canAct_23 : decode cX2_canAct 23 = .ok (.istore_n 3, 1) := by decide +kernel
theorem dX2_canAct_24 : decode cX2_canAct 24 = .ok (.aload_n 0, 1) := by decide +kernel
theorem dX2_canAct_25 : decode cX2_canAct 25 = .ok (.iload_n 3, 1) := by decide +kernel
theorem dX2_canAct_26 : decode cX2_canAct 26 = .ok (.invokevirtual 93, 3) := by decide +kernel
theorem dX2_canAct_29 : decode cX2_canAct 29 = .ok (.ifCond .ne 5, 3) := by decide +kernel
theorem dX2_canAct_32 : decode cX2_canAct 32 = .ok (.iconst 0, 1) := by decide +kernel
theorem dX2_canAct_33 : decode cX2_canAct 33 = .ok (.ireturn, 1) := by decide +kernel
theorem dX2_canAct_34 : decode cX2_canAct 34 = .ok (.aload_n 0, 1) := by decide +kernel
theorem dX2_canAct_35 : decode cX2_canAct 35 = .ok (.getfield 21, 3) := by decide +kernel
theorem dX2_canAct_38 : decode cX2_canAct 38 = .ok (.iload_n 3, 1) := by decide +kernel
theorem dX2_canAct_39 : decode cX2_canAct 39 = .ok (.aload_n 0, 1) := by decide +kernel
theorem dX2_canAct_40 : decode cX2_canAct 40 = .ok (.getfield 21, 3) := by decide +kernel
theorem dX2_canAct_43 : decode cX2_canAct 43 = .ok (.iload_n 3, 1) := by decide +kernel
theorem dX2_canAct_44 : decode cX2_canAct 44 = .ok (.baload, 1) := by decide +kernel
theorem dX2_canAct_45 : decode cX2_canAct 45 = .ok (.ifCond .ne 7, 3) := by decide +kernel
theorem dX2_canAct_48 : decode cX2_canAct 48 = .ok (.iconst 1, 1) := by decide +kernel
theorem dX2_canAct_49 : decode cX2_canAct 49 = .ok (.goto 4, 3) := by decide +kernel
theorem dX2_canAct_52 : decode cX2_canAct 52 = .ok (.iconst 0, 1) := by decide +kernel
theorem dX2_canAct_53 : decode cX2_canAct 53 = .ok (.bastore, 1) := by decide +kernel
theorem dX2_canAct_54 : decode cX2_canAct 54 = .ok (.iconst 1, 1) := by decide +kernel
theorem dX2_canAct_55 : decode cX2_canAct 55 = .ok (.ireturn, 1) := by decide +kernel
theorem dX2_canAct_56 : decode cX2_canAct 56 = .ok (.aload_n 0, 1) := by decide +kernel
theorem dX2_canAct_57 : decode cX2_canAct 57 = .ok (.iload_n 2, 1) := by decide +kernel
theorem dX2_canAct_58 : decode cX2_canAct 58 = .ok (.invokevirtual 96, 3) := by decide +kernel
theorem dX2_canAct_61 : decode cX2_canAct 61 = .ok (.ifCond .ne 5, 3) := by decide +kernel
theorem dX2_canAct_64 : decode cX2_canAct 64 = .ok (.iconst 0, 1) := by decide +kernel
theorem dX2_canAct_65 : decode cX2_canAct 65 = .ok (.ireturn, 1) := by decide +kernel
theorem dX2_canAct_66 : decode cX2_canAct 66 = .ok (.aload_n 0, 1) := by decide +kernel
theorem dX2_canAct_67 : decode cX2_canAct 67 = .ok (.getfield 25, 3) := by decide +kernel
theorem dX2_canAct_70 : decode cX2_canAct 70 = .ok (.iload_n 2, 1) := by decide +kernel
theorem dX2_canAct_71 : decode cX2_canAct 71 = .ok (.iload_n 1, 1) := by decide +kernel
theorem dX2_canAct_72 : decode cX2_canAct 72 = .ok (.iastore, 1) := by decide +kernel
theorem dX2_canAct_73 : decode cX2_canAct 73 = .ok (.iconst 1, 1) := by decide +kernel
theorem dX2_canAct_74 : decode cX2_canAct 74 = .ok (.ireturn, 1) := by decide +kernel
theorem dX2_layFrame_0 : decode cX2_layFrame 0 = .ok (.aload_n 0, 1) := by decide +kernel
theorem dX2_layFrame_1 : decode cX2_layFrame 1 = .ok (.iload_n 1, 1) := by decide +kernel
theorem dX2_layFrame_2 : decode cX2_layFrame 2 = .ok (.putfield 44, 3) := by decide +kernel
theorem dX2_layFrame_5 : decode cX2_layFrame 5 = .ok (.iconst 0, 1) := by decide +kernel
theorem dX2_layFrame_6 : decode cX2_layFrame 6 = .ok (.istore_n 2, 1) := by decide +kernel
theorem dX2_layFrame_7 : decode cX2_layFrame 7 = .ok (.iconst 0, 1) := by decide +kernel
theorem dX2_layFrame_8 : decode cX2_layFrame 8 = .ok (.istore_n 3, 1) := by decide +kernel
theorem dX2_layFrame_9 : decode cX2_layFrame 9 = .ok (.iload_n 3, 1) := by decide +kernel
theorem dX2_layFrame_10 : decode cX2_layFrame 10 = .ok (.bipush 8, 2) := by decide +kernel
theorem dX2_layFrame_12 : decode cX2_layFrame 12 = .ok (.if_icmp .ge 82, 3) := by decide +kernel
theorem dX2_layFrame_15 : decode cX2_layFrame 15 = .ok (.iconst 3, 1) := by decide +kernel
theorem dX2_layFrame_16 : decode cX2_layFrame 16 = .ok (.istore 4, 2) := by decide +kernel
theorem dX2_layFrame_18 : decode cX2_layFrame 18 = .ok (.iload 4, 2) := by decide +kernel
theorem dX2_layFrame_20 : decode cX2_layFrame 20 = .ok (.ifCond .lt 68, 3) := by decide +kernel
theorem dX2_layFrame_23 : decode cX2_layFrame 23 = .ok (.iload_n 3, 1) := by decide +kernel
theorem dX2_layFrame_24 : decode cX2_layFrame 24 = .ok (.iload_n 1, 1) := by decide +kernel
theorem dX2_layFrame_25 : decode cX2_layFrame 25 = .ok (.imul, 1) := by decide +kernel
theorem dX2_layFrame_26 : decode cX2_layFrame 26 = .ok (.istore 5, 2) := by decide +kernel
theorem dX2_layFrame_28 : decode cX2_layFrame 28 = .ok (.iload 5, 2) := by decide +kernel
theorem dX2_layFrame_30 : decode cX2_layFrame 30 = .ok (.iload_n 1, 1) := by decide +kernel
theorem dX2_layFrame_31 : decode cX2_layFrame 31 = .ok (.iadd, 1) := by decide +kernel
theorem dX2_layFrame_32 : decode cX2_layFrame 32 = .ok (.iconst 1, 1) := by decide +kernel
theorem dX2_layFrame_33 : decode cX2_layFrame 33 = .ok (.iload 4, 2) := by decide +kernel
theorem dX2_layFrame_35 : decode cX2_layFrame 35 = .ok (.ishl, 1) := by decide +kernel
theorem dX2_layFrame_36 : decode cX2_layFrame 36 = .ok (.invokestatic 99, 3) := by decide +kernel
theorem dX2_layFrame_39 : decode cX2_layFrame 39 = .ok (.istore 6, 2) := by decide +kernel
theorem dX2_layFrame_41 : decode cX2_layFrame 41 = .ok (.iload 5, 2) := by decide +kernel
theorem dX2_layFrame_43 : decode cX2_layFrame 43 = .ok (.istore 7, 2) := by decide +kernel
theorem dX2_layFrame_45 : decode cX2_layFrame 45 = .ok (.iload 7, 2) := by decide +kernel
theorem dX2_layFrame_47 : decode cX2_layFrame 47 = .ok (.iload 6, 2) := by decide +kernel
theorem dX2_layFrame_49 : decode cX2_layFrame 49 = .ok (.if_icmp .ge 33, 3) := by decide +kernel
theorem dX2_layFrame_52 : decode cX2_layFrame 52 = .ok (.iload_n 2, 1) := by decide +kernel
theorem dX2_layFrame_53 : decode cX2_layFrame 53 = .ok (.bipush 15, 2) := by decide +kernel
theorem dX2_layFrame_55 : decode cX2_layFrame 55 = .ok (.if_icmp .ge 27, 3) := by decide +kernel
theorem dX2_layFrame_58 : decode cX2_layFrame 58 = .ok (.aload_n 0, 1) := by decide +kernel
theorem dX2_layFrame_59 : decode cX2_layFrame 59 = .ok (.getfield 31, 3) := by decide +kernel
theorem dX2_layFrame_62 : decode cX2_layFrame 62 = .ok (.iload_n 2, 1) := by decide +kernel
theorem dX2_layFrame_63 : decode cX2_layFrame 63 = .ok (.iload 4, 2) := by decide +kernel
theorem dX2_layFrame_65 : decode cX2_layFrame 65 = .ok (.iastore, 1) := by decide +kernel
theorem dX2_layFrame_66 : decode cX2_layFrame 66 = .ok (.aload_n 0, 1) := by decide +kernel
theorem dX2_layFrame_67 : decode cX2_layFrame 67 = .ok (.getfield 34, 3) := by decide +kernel
theorem dX2_layFrame_70 : decode cX2_layFrame 70 = .ok (.iload_n 2, 1) := by decide +kernel
theorem dX2_layFrame_71 : decode cX2_layFrame 71 = .ok (.iload_n 3, 1) := by decide +kernel
theorem dX2_layFrame_72 : decode cX2_layFrame 72 = .ok (.iastore, 1) := by decide +kernel
theorem dX2_layFrame_73 : decode cX2_layFrame 73 = .ok (.iinc 2 1, 3) := by decide +kernel
theorem dX2_layFrame_76 : decode cX2_layFrame 76 = .ok (.iinc 7 1, 3) := by decide +kernel
theorem dX2_layFrame_79 : decode cX2_layFrame 79 = .ok (.goto (-34), 3) := by decide +kernel
theorem dX2_layFrame_82 : decode cX2_layFrame 82 = .ok (.iinc 4 (-1), 3) := by decide +kernel
theorem dX2_layFrame_85 : decode cX2_layFrame 85 = .ok (.goto (-67), 3) := by decide +kernel
theorem dX2_layFrame_88 : decode cX2_layFrame 88 = .ok (.iinc 3 1, 3) := by decide +kernel
theorem dX2_layFrame_91 : decode cX2_layFrame 91 = .ok (.goto (-82), 3) := by decide +kernel
theorem dX2_layFrame_94 : decode cX2_layFrame 94 = .ok (.return_, 1) := by decide +kernel
theorem dX2_slicesOf_0 : decode cX2_slicesOf 0 = .ok (.iconst 0, 1) := by decide +kernel
theorem dX2_slicesOf_1 : decode cX2_slicesOf 1 = .ok (.istore_n 2, 1) := by decide +kernel
theorem dX2_slicesOf_2 : decode cX2_slicesOf 2 = .ok (.iconst 0, 1) := by decide +kernel
theorem dX2_slicesOf_3 : decode cX2_slicesOf 3 = .ok (.istore_n 3, 1) := by decide +kernel
theorem dX2_slicesOf_4 : decode cX2_slicesOf 4 = .ok (.iload_n 3, 1) := by decide +kernel
theorem dX2_slicesOf_5 : decode cX2_slicesOf 5 = .ok (.bipush 15, 2) := by decide +kernel
theorem dX2_slicesOf_7 : decode cX2_slicesOf 7 = .ok (.if_icmp .ge 32, 3) := by decide +kernel
theorem dX2_slicesOf_10 : decode cX2_slicesOf 10 = .ok (.aload_n 0, 1) := by decide +kernel
theorem dX2_slicesOf_11 : decode cX2_slicesOf 11 = .ok (.getfield 31, 3) := by decide +kernel
theorem dX2_slicesOf_14 : decode cX2_slicesOf 14 = .ok (.iload_n 3, 1) := by decide +kernel
theorem dX2_slicesOf_15 : decode cX2_slicesOf 15 = .ok (.iaload, 1) := by decide +kernel
theorem dX2_slicesOf_16 : decode cX2_slicesOf 16 = .ok (.iload_n 1, 1) := by decide +kernel
theorem dX2_slicesOf_17 : decode cX2_slicesOf 17 = .ok (.if_icmp .ne 16, 3) := by decide +kernel
theorem dX2_slicesOf_20 : decode cX2_slicesOf 20 = .ok (.iload_n 2, 1) := by decide +kernel
theorem dX2_slicesOf_21 : decode cX2_slicesOf 21 = .ok (.aload_n 0, 1) := by decide +kernel
theorem dX2_slicesOf_22 : decode cX2_slicesOf 22 = .ok (.getfield 34, 3) := by decide +kernel
theorem dX2_slicesOf_25 : decode cX2_slicesOf 25 = .ok (.iload_n 3, 1) := by decide +kernel
theorem dX2_slicesOf_26 : decode cX2_slicesOf 26 = .ok (.iaload, 1) := by decide +kernel
theorem dX2_slicesOf_27 : decode cX2_slicesOf 27 = .ok (.iconst 1, 1) := by decide +kernel
theorem dX2_slicesOf_28 : decode cX2_slicesOf 28 = .ok (.iadd, 1) := by decide +kernel
theorem dX2_slicesOf_29 : decode cX2_slicesOf 29 = .ok (.invokestatic 104, 3) := by decide +kernel
theorem dX2_slicesOf_32 : decode cX2_slicesOf 32 = .ok (.istore_n 2, 1) := by decide +kernel
theorem dX2_slicesOf_33 : decode cX2_slicesOf 33 = .ok (.iinc 3 1, 3) := by decide +kernel
theorem dX2_slicesOf_36 : decode cX2_slicesOf 36 = .ok (.goto (-32), 3) := by decide +kernel
theorem dX2_slicesOf_39 : decode cX2_slicesOf 39 = .ok (.iload_n 2, 1) := by decide +kernel
theorem dX2_slicesOf_40 : decode cX2_slicesOf 40 = .ok (.ireturn, 1) := by decide +kernel
theorem dX2_lightOf_0 : decode cX2_lightOf 0 = .ok (.aload_n 0, 1) := by decide +kernel
theorem dX2_lightOf_1 : decode cX2_lightOf 1 = .ok (.getfield 28, 3) := by decide +kernel
theorem dX2_lightOf_4 : decode cX2_lightOf 4 = .ok (.iload_n 1, 1) := by decide +kernel
theorem dX2_lightOf_5 : decode cX2_lightOf 5 = .ok (.iaload, 1) := by decide +kernel
theorem dX2_lightOf_6 : decode cX2_lightOf 6 = .ok (.istore_n 2, 1) := by decide +kernel
theorem dX2_lightOf_7 : decode cX2_lightOf 7 = .ok (.aload_n 0, 1) := by decide +kernel
theorem dX2_lightOf_8 : decode cX2_lightOf 8 = .ok (.getfield 21, 3) := by decide +kernel
theorem dX2_lightOf_11 : decode cX2_lightOf 11 = .ok (.iload_n 2, 1) := by decide +kernel
theorem dX2_lightOf_12 : decode cX2_lightOf 12 = .ok (.baload, 1) := by decide +kernel
theorem dX2_lightOf_13 : decode cX2_lightOf 13 = .ok (.ifCond .eq 7, 3) := by decide +kernel
theorem dX2_lightOf_16 : decode cX2_lightOf 16 = .ok (.iconst 0, 1) := by decide +kernel
theorem dX2_lightOf_17 : decode cX2_lightOf 17 = .ok (.goto 18, 3) := by decide +kernel
theorem dX2_lightOf_20 : decode cX2_lightOf 20 = .ok (.aload_n 0, 1) := by decide +kernel
theorem dX2_lightOf_21 : decode cX2_lightOf 21 = .ok (.getfield 9, 3) := by decide +kernel
theorem dX2_lightOf_24 : decode cX2_lightOf 24 = .ok (.iload_n 2, 1) := by decide +kernel
theorem dX2_lightOf_25 : decode cX2_lightOf 25 = .ok (.iaload, 1) := by decide +kernel
theorem dX2_lightOf_26 : decode cX2_lightOf 26 = .ok (.aload_n 0, 1) := by decide +kernel
theorem dX2_lightOf_27 : decode cX2_lightOf 27 = .ok (.getfield 25, 3) := by decide +kernel
theorem dX2_lightOf_30 : decode cX2_lightOf 30 = .ok (.iload_n 1, 1) := by decide +kernel
theorem dX2_lightOf_31 : decode cX2_lightOf 31 = .ok (.iaload, 1) := by decide +kernel
theorem dX2_lightOf_32 : decode cX2_lightOf 32 = .ok (.invokestatic 107, 3) := by decide +kernel
theorem dX2_lightOf_35 : decode cX2_lightOf 35 = .ok (.ireturn, 1) := by decide +kernel
theorem dX2_lightTogether_0 : decode cX2_lightTogether 0 = .ok (.iconst 0, 1) := by decide +kernel
theorem dX2_lightTogether_1 : decode cX2_lightTogether 1 = .ok (.istore_n 1, 1) := by decide +kernel
theorem dX2_lightTogether_2 : decode cX2_lightTogether 2 = .ok (.iconst 0, 1) := by decide +kernel
theorem dX2_lightTogether_3 : decode cX2_lightTogether 3 = .ok (.istore_n 2, 1) := by decide +kernel
theorem dX2_lightTogether_4 : decode cX2_lightTogether 4 = .ok (.iload_n 2, 1) := by decide +kernel
theorem dX2_lightTogether_5 : decode cX2_lightTogether 5 = .ok (.aload_n 0, 1) := by decide +kernel
theorem dX2_lightTogether_6 : decode cX2_lightTogether 6 = .ok (.getfield 41, 3) := by decide +kernel
theorem dX2_lightTogether_9 : decode cX2_lightTogether 9 = .ok (.if_icmp .ge 17, 3) := by decide +kernel
theorem dX2_lightTogether_12 : decode cX2_lightTogether 12 = .ok (.iload_n 1, 1) := by decide +kernel
theorem dX2_lightTogether_13 : decode cX2_lightTogether 13 = .ok (.aload_n 0, 1) := by decide +kernel
theorem dX2_lightTogether_14 : decode cX2_lightTogether 14 = .ok (.iload_n 2, 1) := by decide +kernel
theorem dX2_lightTogether_15 : decode cX2_lightTogether 15 = .ok (.invokevirtual 110, 3) := by decide +kernel
theorem dX2_lightTogether_18 : decode cX2_lightTogether 18 = .ok (.iadd, 1) := by decide +kernel
theorem dX2_lightTogether_19 : decode cX2_lightTogether 19 = .ok (.istore_n 1, 1) := by decide +kernel
theorem dX2_lightTogether_20 : decode cX2_lightTogether 20 = .ok (.iinc 2 1, 3) := by decide +kernel
theorem dX2_lightTogether_23 : decode cX2_lightTogether 23 = .ok (.goto (-19), 3) := by decide +kernel
theorem dX2_lightTogether_26 : decode cX2_lightTogether 26 = .ok (.iload_n 1, 1) := by decide +kernel
theorem dX2_lightTogether_27 : decode cX2_lightTogether 27 = .ok (.ireturn, 1) := by decide +kernel
theorem dX2_isLit_0 : decode cX2_isLit 0 = .ok (.aload_n 0, 1) := by decide +kernel
theorem dX2_isLit_1 : decode cX2_isLit 1 = .ok (.iload_n 1, 1) := by decide +kernel
theorem dX2_isLit_2 : decode cX2_isLit 2 = .ok (.invokevirtual 110, 3) := by decide +kernel
theorem dX2_isLit_5 : decode cX2_isLit 5 = .ok (.aload_n 0, 1) := by decide +kernel
theorem dX2_isLit_6 : decode cX2_isLit 6 = .ok (.getfield 31, 3) := by decide +kernel
theorem dX2_isLit_9 : decode cX2_isLit 9 = .ok (.iload_n 2, 1) := by decide +kernel
theorem dX2_isLit_10 : decode cX2_isLit 10 = .ok (.iaload, 1) := by decide +kernel
theorem dX2_isLit_11 : decode cX2_isLit 11 = .ok (.invokestatic 113, 3) := by decide +kernel
theorem dX2_isLit_14 : decode cX2_isLit 14 = .ok (.ireturn, 1) := by decide +kernel
theorem dX2_litUnits_0 : decode cX2_litUnits 0 = .ok (.aload_n 0, 1) := by decide +kernel
theorem dX2_litUnits_1 : decode cX2_litUnits 1 = .ok (.iload_n 1, 1) := by decide +kernel
theorem dX2_litUnits_2 : decode cX2_litUnits 2 = .ok (.invokevirtual 110, 3) := by decide +kernel
theorem dX2_litUnits_5 : decode cX2_litUnits 5 = .ok (.istore_n 2, 1) := by decide +kernel
theorem dX2_litUnits_6 : decode cX2_litUnits 6 = .ok (.iconst 0, 1) := by decide +kernel
theorem dX2_litUnits_7 : decode cX2_litUnits 7 = .ok (.istore_n 3, 1) := by decide +kernel
theorem dX2_litUnits_8 : decode cX2_litUnits 8 = .ok (.iconst 0, 1) := by decide +kernel
theorem dX2_litUnits_9 : decode cX2_litUnits 9 = .ok (.istore 4, 2) := by decide +kernel
theorem dX2_litUnits_11 : decode cX2_litUnits 11 = .ok (.iload 4, 2) := by decide +kernel
theorem dX2_litUnits_13 : decode cX2_litUnits 13 = .ok (.bipush 15, 2) := by decide +kernel
theorem dX2_litUnits_15 : decode cX2_litUnits 15 = .ok (.if_icmp .ge 30, 3) := by decide +kernel
theorem dX2_litUnits_18 : decode cX2_litUnits 18 = .ok (.iload_n 2, 1) := by decide +kernel
theorem dX2_litUnits_19 : decode cX2_litUnits 19 = .ok (.aload_n 0, 1) := by decide +kernel
theorem dX2_litUnits_20 : decode cX2_litUnits 20 = .ok (.getfield 31, 3) := by decide +kernel
theorem dX2_litUnits_23 : decode cX2_litUnits 23 = .ok (.iload 4, 2) := by decide +kernel
theorem dX2_litUnits_25 : decode cX2_litUnits 25 = .ok (.iaload, 1) := by decide +kernel
theorem dX2_litUnits_26 : decode cX2_litUnits 26 = .ok (.invokestatic 113, 3) := by decide +kernel
theorem dX2_litUnits_29 : decode cX2_litUnits 29 = .ok (.ifCond .eq 10, 3) := by decide +kernel
theorem dX2_litUnits_32 : decode cX2_litUnits 32 = .ok (.iload_n 3, 1) := by decide +kernel
theorem dX2_litUnits_33 : decode cX2_litUnits 33 = .ok (.iconst 1, 1) := by decide +kernel
theorem dX2_litUnits_34 : decode cX2_litUnits 34 = .ok (.iload 4, 2) := by decide +kernel
theorem dX2_litUnits_36 : decode cX2_litUnits 36 = .ok (.ishl, 1) := by decide +kernel
theorem dX2_litUnits_37 : decode cX2_litUnits 37 = .ok (.ior, 1) := by decide +kernel
theorem dX2_litUnits_38 : decode cX2_litUnits 38 = .ok (.istore_n 3, 1) := by decide +kernel
theorem dX2_litUnits_39 : decode cX2_litUnits 39 = .ok (.iinc 4 1, 3) := by decide +kernel
theorem dX2_litUnits_42 : decode cX2_litUnits 42 = .ok (.goto (-31), 3) := by decide +kernel
theorem dX2_litUnits_45 : decode cX2_litUnits 45 = .ok (.iload_n 3, 1) := by decide +kernel
theorem dX2_litUnits_46 : decode cX2_litUnits 46 = .ok (.ireturn, 1) := by decide +kernel
theorem dX2_litLamps_0 : decode cX2_litLamps 0 = .ok (.iconst 0, 1) := by decide +kernel
theorem dX2_litLamps_1 : decode cX2_litLamps 1 = .ok (.istore_n 2, 1) := by decide +kernel
theorem dX2_litLamps_2 : decode cX2_litLamps 2 = .ok (.iconst 0, 1) := by decide +kernel
theorem dX2_litLamps_3 : decode cX2_litLamps 3 = .ok (.istore_n 3, 1) := by decide +kernel
theorem dX2_litLamps_4 : decode cX2_litLamps 4 = .ok (.iload_n 3, 1) := by decide +kernel
theorem dX2_litLamps_5 : decode cX2_litLamps 5 = .ok (.aload_n 0, 1) := by decide +kernel
theorem dX2_litLamps_6 : decode cX2_litLamps 6 = .ok (.getfield 41, 3) := by decide +kernel
theorem dX2_litLamps_9 : decode cX2_litLamps 9 = .ok (.if_icmp .ge 24, 3) := by decide +kernel
theorem dX2_litLamps_12 : decode cX2_litLamps 12 = .ok (.aload_n 0, 1) := by decide +kernel
theorem dX2_litLamps_13 : decode cX2_litLamps 13 = .ok (.iload_n 3, 1) := by decide +kernel
theorem dX2_litLamps_14 : decode cX2_litLamps 14 = .ok (.iload_n 1, 1) := by decide +kernel
theorem dX2_litLamps_15 : decode cX2_litLamps 15 = .ok (.invokevirtual 116, 3) := by decide +kernel
theorem dX2_litLamps_18 : decode cX2_litLamps 18 = .ok (.ifCond .eq 9, 3) := by decide +kernel
theorem dX2_litLamps_21 : decode cX2_litLamps 21 = .ok (.iload_n 2, 1) := by decide +kernel
theorem dX2_litLamps_22 : decode cX2_litLamps 22 = .ok (.iconst 1, 1) := by decide +kernel
theorem dX2_litLamps_23 : decode cX2_litLamps 23 = .ok (.iload_n 3, 1) := by decide +kernel
theorem dX2_litLamps_24 : decode cX2_litLamps 24 = .ok (.ishl, 1) := by decide +kernel
theorem dX2_litLamps_25 : decode cX2_litLamps 25 = .ok (.ior, 1) := by decide +kernel
theorem dX2_litLamps_26 : decode cX2_litLamps 26 = .ok (.istore_n 2, 1) := by decide +kernel
theorem dX2_litLamps_27 : decode cX2_litLamps 27 = .ok (.iinc 3 1, 3) := by decide +kernel
theorem dX2_litLamps_30 : decode cX2_litLamps 30 = .ok (.goto (-26), 3) := by decide +kernel
theorem dX2_litLamps_33 : decode cX2_litLamps 33 = .ok (.iload_n 2, 1) := by decide +kernel
theorem dX2_litLamps_34 : decode cX2_litLamps 34 = .ok (.ireturn, 1) := by decide +kernel
theorem dX2_currentOf_0 : decode cX2_currentOf 0 = .ok (.aload_n 0, 1) := by decide +kernel
theorem dX2_currentOf_1 : decode cX2_currentOf 1 = .ok (.iload_n 1, 1) := by decide +kernel
theorem dX2_currentOf_2 : decode cX2_currentOf 2 = .ok (.invokevirtual 119, 3) := by decide +kernel
theorem dX2_currentOf_5 : decode cX2_currentOf 5 = .ok (.invokestatic 122, 3) := by decide +kernel
theorem dX2_currentOf_8 : decode cX2_currentOf 8 = .ok (.ireturn, 1) := by decide +kernel
theorem dX2_greatestCurrentDimmed_0 : decode cX2_greatestCurrentDimmed 0 = .ok (.iconst 0, 1) := by decide +kernel
theorem dX2_greatestCurrentDimmed_1 : decode cX2_greatestCurrentDimmed 1 = .ok (.istore_n 2, 1) := by decide +kernel
theorem dX2_greatestCurrentDimmed_2 : decode cX2_greatestCurrentDimmed 2 = .ok (.iconst 0, 1) := by decide +kernel
theorem dX2_greatestCurrentDimmed_3 : decode cX2_greatestCurrentDimmed 3 = .ok (.istore_n 3, 1) := by decide +kernel
theorem dX2_greatestCurrentDimmed_4 : decode cX2_greatestCurrentDimmed 4 = .ok (.iload_n 3, 1) := by decide +kernel
theorem dX2_greatestCurrentDimmed_5 : decode cX2_greatestCurrentDimmed 5 = .ok (.bipush 15, 2) := by decide +kernel
theorem dX2_greatestCurrentDimmed_7 : decode cX2_greatestCurrentDimmed 7 = .ok (.if_icmp .ge 74, 3) := by decide +kernel
theorem dX2_greatestCurrentDimmed_10 : decode cX2_greatestCurrentDimmed 10 = .ok (.iconst 0, 1) := by decide +kernel
theorem dX2_greatestCurrentDimmed_11 : decode cX2_greatestCurrentDimmed 11 = .ok (.istore 4, 2) := by decide +kernel
theorem dX2_greatestCurrentDimmed_13 : decode cX2_greatestCurrentDimmed 13 = .ok (.iconst 0, 1) := by decide +kernel
theorem dX2_greatestCurrentDimmed_14 : decode cX2_greatestCurrentDimmed 14 = .ok (.istore 5, 2) := by decide +kernel
theorem dX2_greatestCurrentDimmed_16 : decode cX2_greatestCurrentDimmed 16 = .ok (.iload 5, 2) := by decide +kernel
theorem dX2_greatestCurrentDimmed_18 : decode cX2_greatestCurrentDimmed 18 = .ok (.aload_n 0, 1) := by decide +kernel
theorem dX2_greatestCurrentDimmed_19 : decode cX2_greatestCurrentDimmed 19 = .ok (.getfield 41, 3) := by decide +kernel
theorem dX2_greatestCurrentDimmed_22 : decode cX2_greatestCurrentDimmed 22 = .ok (.if_icmp .ge 46, 3) := by decide +kernel
theorem dX2_greatestCurrentDimmed_25 : decode cX2_greatestCurrentDimmed 25 = .ok (.aload_n 0, 1) := by decide +kernel
theorem dX2_greatestCurrentDimmed_26 : decode cX2_greatestCurrentDimmed 26 = .ok (.iload 5, 2) := by decide +kernel
theorem dX2_greatestCurrentDimmed_28 : decode cX2_greatestCurrentDimmed 28 = .ok (.invokevirtual 110, 3) := by decide +kernel
theorem dX2_greatestCurrentDimmed_31 : decode cX2_greatestCurrentDimmed 31 = .ok (.iload_n 1, 1) := by decide +kernel
theorem dX2_greatestCurrentDimmed_32 : decode cX2_greatestCurrentDimmed 32 = .ok (.imul, 1) := by decide +kernel
theorem dX2_greatestCurrentDimmed_33 : decode cX2_greatestCurrentDimmed 33 = .ok (.bipush 15, 2) := by decide +kernel
theorem dX2_greatestCurrentDimmed_35 : decode cX2_greatestCurrentDimmed 35 = .ok (.idiv, 1) := by decide +kernel
theorem dX2_greatestCurrentDimmed_36 : decode cX2_greatestCurrentDimmed 36 = .ok (.istore 6, 2) := by decide +kernel
theorem dX2_greatestCurrentDimmed_38 : decode cX2_greatestCurrentDimmed 38 = .ok (.iload 4, 2) := by decide +kernel
theorem dX2_greatestCurrentDimmed_40 : decode cX2_greatestCurrentDimmed 40 = .ok (.iload 6, 2) := by decide +kernel
theorem dX2_greatestCurrentDimmed_42 : decode cX2_greatestCurrentDimmed 42 = .ok (.aload_n 0, 1) := by decide +kernel
theorem dX2_greatestCurrentDimmed_43 : decode cX2_greatestCurrentDimmed 43 = .ok (.getfield 31, 3) := by decide +kernel
theorem dX2_greatestCurrentDimmed_46 : decode cX2_greatestCurrentDimmed 46 = .ok (.iload_n 3, 1) := by decide +kernel
theorem dX2_greatestCurrentDimmed_47 : decode cX2_greatestCurrentDimmed 47 = .ok (.iaload, 1) := by decide +kernel
theorem dX2_greatestCurrentDimmed_48 : decode cX2_greatestCurrentDimmed 48 = .ok (.invokestatic 113, 3) := by decide +kernel
theorem dX2_greatestCurrentDimmed_51 : decode cX2_greatestCurrentDimmed 51 = .ok (.ifCond .eq 7, 3) := by decide +kernel
theorem dX2_greatestCurrentDimmed_54 : decode cX2_greatestCurrentDimmed 54 = .ok (.iconst 1, 1) := by decide +kernel
theorem dX2_greatestCurrentDimmed_55 : decode cX2_greatestCurrentDimmed 55 = .ok (.goto 4, 3) := by decide +kernel
theorem dX2_greatestCurrentDimmed_58 : decode cX2_greatestCurrentDimmed 58 = .ok (.iconst 0, 1) := by decide +kernel
theorem dX2_greatestCurrentDimmed_59 : decode cX2_greatestCurrentDimmed 59 = .ok (.iadd, 1) := by decide +kernel
theorem dX2_greatestCurrentDimmed_60 : decode cX2_greatestCurrentDimmed 60 = .ok (.istore 4, 2) := by decide +kernel
theorem dX2_greatestCurrentDimmed_62 : decode cX2_greatestCurrentDimmed 62 = .ok (.iinc 5 1, 3) := by decide +kernel
theorem dX2_greatestCurrentDimmed_65 : decode cX2_greatestCurrentDimmed 65 = .ok (.goto (-49), 3) := by decide +kernel
theorem dX2_greatestCurrentDimmed_68 : decode cX2_greatestCurrentDimmed 68 = .ok (.iload_n 2, 1) := by decide +kernel
theorem dX2_greatestCurrentDimmed_69 : decode cX2_greatestCurrentDimmed 69 = .ok (.iload 4, 2) := by decide +kernel
theorem dX2_greatestCurrentDimmed_71 : decode cX2_greatestCurrentDimmed 71 = .ok (.invokestatic 104, 3) := by decide +kernel
theorem dX2_greatestCurrentDimmed_74 : decode cX2_greatestCurrentDimmed 74 = .ok (.istore_n 2, 1) := by decide +kernel
theorem dX2_greatestCurrentDimmed_75 : decode cX2_greatestCurrentDimmed 75 = .ok (.iinc 3 1, 3) := by decide +kernel
theorem dX2_greatestCurrentDimmed_78 : decode cX2_greatestCurrentDimmed 78 = .ok (.goto (-74), 3) := by decide +kernel
theorem dX2_greatestCurrentDimmed_81 : decode cX2_greatestCurrentDimmed 81 = .ok (.iload_n 2, 1) := by decide +kernel
theorem dX2_greatestCurrentDimmed_82 : decode cX2_greatestCurrentDimmed 82 = .ok (.ireturn, 1) := by decide +kernel
theorem dX2_darkTogether_0 : decode cX2_darkTogether 0 = .ok (.iconst 0, 1) := by decide +kernel
theorem dX2_darkTogether_1 : decode cX2_darkTogether 1 = .ok (.istore_n 1, 1) := by decide +kernel
theorem dX2_darkTogether_2 : decode cX2_darkTogether 2 = .ok (.iconst 0, 1) := by decide +kernel
theorem dX2_darkTogether_3 : decode cX2_darkTogether 3 = .ok (.istore_n 2, 1) := by decide +kernel
theorem dX2_darkTogether_4 : decode cX2_darkTogether 4 = .ok (.iload_n 2, 1) := by decide +kernel
theorem dX2_darkTogether_5 : decode cX2_darkTogether 5 = .ok (.aload_n 0, 1) := by decide +kernel
theorem dX2_darkTogether_6 : decode cX2_darkTogether 6 = .ok (.getfield 41, 3) := by decide +kernel
theorem dX2_darkTogether_9 : decode cX2_darkTogether 9 = .ok (.if_icmp .ge 20, 3) := by decide +kernel
theorem dX2_darkTogether_12 : decode cX2_darkTogether 12 = .ok (.iload_n 1, 1) := by decide +kernel
theorem dX2_darkTogether_13 : decode cX2_darkTogether 13 = .ok (.aload_n 0, 1) := by decide +kernel
theorem dX2_darkTogether_14 : decode cX2_darkTogether 14 = .ok (.iload_n 2, 1) := by decide +kernel
theorem dX2_darkTogether_15 : decode cX2_darkTogether 15 = .ok (.invokevirtual 127, 3) := by decide +kernel
theorem dX2_darkTogether_18 : decode cX2_darkTogether 18 = .ok (.invokestatic 130, 3) := by decide +kernel
theorem dX2_darkTogether_21 : decode cX2_darkTogether 21 = .ok (.iadd, 1) := by decide +kernel
theorem dX2_darkTogether_22 : decode cX2_darkTogether 22 = .ok (.istore_n 1, 1) := by decide +kernel
theorem dX2_darkTogether_23 : decode cX2_darkTogether 23 = .ok (.iinc 2 1, 3) := by decide +kernel
theorem dX2_darkTogether_26 : decode cX2_darkTogether 26 = .ok (.goto (-22), 3) := by decide +kernel
theorem dX2_darkTogether_29 : decode cX2_darkTogether 29 = .ok (.iload_n 1, 1) := by decide +kernel
theorem dX2_darkTogether_30 : decode cX2_darkTogether 30 = .ok (.ireturn, 1) := by decide +kernel
theorem dX2_ghostUnits_0 : decode cX2_ghostUnits 0 = .ok (.iload_n 1, 1) := by decide +kernel
theorem dX2_ghostUnits_1 : decode cX2_ghostUnits 1 = .ok (.aload_n 0, 1) := by decide +kernel
theorem dX2_ghostUnits_2 : decode cX2_ghostUnits 2 = .ok (.getfield 15, 3) := by decide +kernel
theorem dX2_ghostUnits_5 : decode cX2_ghostUnits 5 = .ok (.aload_n 0, 1) := by decide +kernel
theorem dX2_ghostUnits_6 : decode cX2_ghostUnits 6 = .ok (.getfield 28, 3) := by decide +kernel
theorem dX2_ghostUnits_9 : decode cX2_ghostUnits 9 = .ok (.iload_n 1, 1) := by decide +kernel
theorem dX2_ghostUnits_10 : decode cX2_ghostUnits 10 = .ok (.iaload, 1) := by decide +kernel
theorem dX2_ghostUnits_11 : decode cX2_ghostUnits 11 = .ok (.iaload, 1) := by decide +kernel
theorem dX2_ghostUnits_12 : decode cX2_ghostUnits 12 = .ok (.if_icmp .ne 7, 3) := by decide +kernel
theorem dX2_ghostUnits_15 : decode cX2_ghostUnits 15 = .ok (.iconst 1, 1) := by decide +kernel
theorem dX2_ghostUnits_16 : decode cX2_ghostUnits 16 = .ok (.goto 4, 3) := by decide +kernel
theorem dX2_ghostUnits_19 : decode cX2_ghostUnits 19 = .ok (.iconst 0, 1) := by decide +kernel
theorem dX2_ghostUnits_20 : decode cX2_ghostUnits 20 = .ok (.istore_n 2, 1) := by decide +kernel
theorem dX2_ghostUnits_21 : decode cX2_ghostUnits 21 = .ok (.iload_n 2, 1) := by decide +kernel
theorem dX2_ghostUnits_22 : decode cX2_ghostUnits 22 = .ok (.ifCond .eq 7, 3) := by decide +kernel
theorem dX2_ghostUnits_25 : decode cX2_ghostUnits 25 = .ok (.iconst 0, 1) := by decide +kernel
theorem dX2_ghostUnits_26 : decode cX2_ghostUnits 26 = .ok (.goto 18, 3) := by decide +kernel
theorem dX2_ghostUnits_29 : decode cX2_ghostUnits 29 = .ok (.aload_n 0, 1) := by decide +kernel
theorem dX2_ghostUnits_30 : decode cX2_ghostUnits 30 = .ok (.iload_n 1, 1) := by decide +kernel
theorem dX2_ghostUnits_31 : decode cX2_ghostUnits 31 = .ok (.iconst 1, 1) := by decide +kernel
theorem dX2_ghostUnits_32 : decode cX2_ghostUnits 32 = .ok (.isub, 1) := by decide +kernel
theorem dX2_ghostUnits_33 : decode cX2_ghostUnits 33 = .ok (.invokevirtual 127, 3) := by decide +kernel
theorem dX2_ghostUnits_36 : decode cX2_ghostUnits 36 = .ok (.aload_n 0, 1) := by decide +kernel
theorem dX2_ghostUnits_37 : decode cX2_ghostUnits 37 = .ok (.iload_n 1, 1) := by decide +kernel
theorem dX2_ghostUnits_38 : decode cX2_ghostUnits 38 = .ok (.invokevirtual 127, 3) := by decide +kernel
theorem dX2_ghostUnits_41 : decode cX2_ghostUnits 41 = .ok (.iconst (-1), 1) := by decide +kernel
theorem dX2_ghostUnits_42 : decode cX2_ghostUnits 42 = .ok (.ixor, 1) := by decide +kernel
theorem dX2_ghostUnits_43 : decode cX2_ghostUnits 43 = .ok (.iand, 1) := by decide +kernel
theorem dX2_ghostUnits_44 : decode cX2_ghostUnits 44 = .ok (.ireturn, 1) := by decide +kernel
theorem dX2_ghostsIn_0 : decode cX2_ghostsIn 0 = .ok (.iconst 0, 1) := by decide +kernel
theorem dX2_ghostsIn_1 : decode cX2_ghostsIn 1 = .ok (.istore_n 2, 1) := by decide +kernel
theorem dX2_ghostsIn_2 : decode cX2_ghostsIn 2 = .ok (.iconst 0, 1) := by decide +kernel
theorem dX2_ghostsIn_3 : decode cX2_ghostsIn 3 = .ok (.istore_n 3, 1) := by decide +kernel
theorem dX2_ghostsIn_4 : decode cX2_ghostsIn 4 = .ok (.iload_n 3, 1) := by decide +kernel
theorem dX2_ghostsIn_5 : decode cX2_ghostsIn 5 = .ok (.aload_n 0, 1) := by decide +kernel
theorem dX2_ghostsIn_6 : decode cX2_ghostsIn 6 = .ok (.getfield 41, 3) := by decide +kernel
theorem dX2_ghostsIn_9 : decode cX2_ghostsIn 9 = .ok (.if_icmp .ge 29, 3) := by decide +kernel
theorem dX2_ghostsIn_12 : decode cX2_ghostsIn 12 = .ok (.iload_n 2, 1) := by decide +kernel
theorem dX2_ghostsIn_13 : decode cX2_ghostsIn 13 = .ok (.aload_n 0, 1) := by decide +kernel
theorem dX2_ghostsIn_14 : decode cX2_ghostsIn 14 = .ok (.iload_n 3, 1) := by decide +kernel
theorem dX2_ghostsIn_15 : decode cX2_ghostsIn 15 = .ok (.invokevirtual 133, 3) := by decide +kernel
theorem dX2_ghostsIn_18 : decode cX2_ghostsIn 18 = .ok (.iload_n 1, 1) := by decide +kernel
theorem dX2_ghostsIn_19 : decode cX2_ghostsIn 19 = .ok (.invokestatic 113, 3) := by decide +kernel
theorem dX2_ghostsIn_22 : decode cX2_ghostsIn 22 = .ok (.ifCond .eq 7, 3) := by decide +kernel
theorem dX2_ghostsIn_25 : decode cX2_ghostsIn 25 = .ok (.iconst 1, 1) := by decide +kernel
theorem dX2_ghostsIn_26 : decode cX2_ghostsIn 26 = .ok (.goto 4, 3) := by decide +kernel
theorem dX2_ghostsIn_29 : decode cX2_ghostsIn 29 = .ok (.iconst 0, 1) := by decide +kernel
theorem dX2_ghostsIn_30 : decode cX2_ghostsIn 30 = .ok (.iadd, 1) := by decide +kernel
theorem dX2_ghostsIn_31 : decode cX2_ghostsIn 31 = .ok (.istore_n 2, 1) := by decide +kernel
theorem dX2_ghostsIn_32 : decode cX2_ghostsIn 32 = .ok (.iinc 3 1, 3) := by decide +kernel
theorem dX2_ghostsIn_35 : decode cX2_ghostsIn 35 = .ok (.goto (-31), 3) := by decide +kernel
theorem dX2_ghostsIn_38 : decode cX2_ghostsIn 38 = .ok (.iload_n 2, 1) := by decide +kernel
theorem dX2_ghostsIn_39 : decode cX2_ghostsIn 39 = .ok (.ireturn, 1) := by decide +kernel
theorem dX2_ghostsTogether_0 : decode cX2_ghostsTogether 0 = .ok (.iconst 0, 1) := by decide +kernel
theorem dX2_ghostsTogether_1 : decode cX2_ghostsTogether 1 = .ok (.istore_n 1, 1) := by decide +kernel
theorem dX2_ghostsTogether_2 : decode cX2_ghostsTogether 2 = .ok (.iconst 0, 1) := by decide +kernel
theorem dX2_ghostsTogether_3 : decode cX2_ghostsTogether 3 = .ok (.istore_n 2, 1) := by decide +kernel
theorem dX2_ghostsTogether_4 : decode cX2_ghostsTogether 4 = .ok (.iload_n 2, 1) := by decide +kernel
theorem dX2_ghostsTogether_5 : decode cX2_ghostsTogether 5 = .ok (.aload_n 0, 1) := by decide +kernel
theorem dX2_ghostsTogether_6 : decode cX2_ghostsTogether 6 = .ok (.getfield 41, 3) := by decide +kernel
theorem dX2_ghostsTogether_9 : decode cX2_ghostsTogether 9 = .ok (.if_icmp .ge 20, 3) := by decide +kernel
theorem dX2_ghostsTogether_12 : decode cX2_ghostsTogether 12 = .ok (.iload_n 1, 1) := by decide +kernel
theorem dX2_ghostsTogether_13 : decode cX2_ghostsTogether 13 = .ok (.aload_n 0, 1) := by decide +kernel
theorem dX2_ghostsTogether_14 : decode cX2_ghostsTogether 14 = .ok (.iload_n 2, 1) := by decide +kernel
theorem dX2_ghostsTogether_15 : decode cX2_ghostsTogether 15 = .ok (.invokevirtual 133, 3) := by decide +kernel
theorem dX2_ghostsTogether_18 : decode cX2_ghostsTogether 18 = .ok (.invokestatic 122, 3) := by decide +kernel
theorem dX2_ghostsTogether_21 : decode cX2_ghostsTogether 21 = .ok (.iadd, 1) := by decide +kernel
theorem dX2_ghostsTogether_22 : decode cX2_ghostsTogether 22 = .ok (.istore_n 1, 1) := by decide +kernel
theorem dX2_ghostsTogether_23 : decode cX2_ghostsTogether 23 = .ok (.iinc 2 1, 3) := by decide +kernel
theorem dX2_ghostsTogether_26 : decode cX2_ghostsTogether 26 = .ok (.goto (-22), 3) := by decide +kernel
theorem dX2_ghostsTogether_29 : decode cX2_ghostsTogether 29 = .ok (.iload_n 1, 1) := by decide +kernel
theorem dX2_ghostsTogether_30 : decode cX2_ghostsTogether 30 = .ok (.ireturn, 1) := by decide +kernel
theorem dJ6_bitCount_0f7a4_0 : decode cJ6_bitCount_0f7a4 0 = .ok (.iload_n 0, 1) := by decide +kernel
theorem dJ6_bitCount_0f7a4_1 : decode cJ6_bitCount_0f7a4 1 = .ok (.iload_n 0, 1) := by decide +kernel
theorem dJ6_bitCount_0f7a4_2 : decode cJ6_bitCount_0f7a4 2 = .ok (.iconst 1, 1) := by decide +kernel
theorem dJ6_bitCount_0f7a4_3 : decode cJ6_bitCount_0f7a4 3 = .ok (.iushr, 1) := by decide +kernel
theorem dJ6_bitCount_0f7a4_4 : decode cJ6_bitCount_0f7a4 4 = .ok (.ldc_w 265, 3) := by decide +kernel
theorem dJ6_bitCount_0f7a4_7 : decode cJ6_bitCount_0f7a4 7 = .ok (.iand, 1) := by decide +kernel
theorem dJ6_bitCount_0f7a4_8 : decode cJ6_bitCount_0f7a4 8 = .ok (.isub, 1) := by decide +kernel
theorem dJ6_bitCount_0f7a4_9 : decode cJ6_bitCount_0f7a4 9 = .ok (.istore_n 0, 1) := by decide +kernel
theorem dJ6_bitCount_0f7a4_10 : decode cJ6_bitCount_0f7a4 10 = .ok (.iload_n 0, 1) := by decide +kernel
theorem dJ6_bitCount_0f7a4_11 : decode cJ6_bitCount_0f7a4 11 = .ok (.ldc_w 266, 3) := by decide +kernel
theorem dJ6_bitCount_0f7a4_14 : decode cJ6_bitCount_0f7a4 14 = .ok (.iand, 1) := by decide +kernel
theorem dJ6_bitCount_0f7a4_15 : decode cJ6_bitCount_0f7a4 15 = .ok (.iload_n 0, 1) := by decide +kernel
theorem dJ6_bitCount_0f7a4_16 : decode cJ6_bitCount_0f7a4 16 = .ok (.iconst 2, 1) := by decide +kernel
theorem dJ6_bitCount_0f7a4_17 : decode cJ6_bitCount_0f7a4 17 = .ok (.iushr, 1) := by decide +kernel
theorem dJ6_bitCount_0f7a4_18 : decode cJ6_bitCount_0f7a4 18 = .ok (.ldc_w 266, 3) := by decide +kernel
theorem dJ6_bitCount_0f7a4_21 : decode cJ6_bitCount_0f7a4 21 = .ok (.iand, 1) := by decide +kernel
theorem dJ6_bitCount_0f7a4_22 : decode cJ6_bitCount_0f7a4 22 = .ok (.iadd, 1) := by decide +kernel
theorem dJ6_bitCount_0f7a4_23 : decode cJ6_bitCount_0f7a4 23 = .ok (.istore_n 0, 1) := by decide +kernel
theorem dJ6_bitCount_0f7a4_24 : decode cJ6_bitCount_0f7a4 24 = .ok (.iload_n 0, 1) := by decide +kernel
theorem dJ6_bitCount_0f7a4_25 : decode cJ6_bitCount_0f7a4 25 = .ok (.iload_n 0, 1) := by decide +kernel
theorem dJ6_bitCount_0f7a4_26 : decode cJ6_bitCount_0f7a4 26 = .ok (.iconst 4, 1) := by decide +kernel
theorem dJ6_bitCount_0f7a4_27 : decode cJ6_bitCount_0f7a4 27 = .ok (.iushr, 1) := by decide +kernel
theorem dJ6_bitCount_0f7a4_28 : decode cJ6_bitCount_0f7a4 28 = .ok (.iadd, 1) := by decide +kernel
theorem dJ6_bitCount_0f7a4_29 : decode cJ6_bitCount_0f7a4 29 = .ok (.ldc_w 267, 3) := by decide +kernel
theorem dJ6_bitCount_0f7a4_32 : decode cJ6_bitCount_0f7a4 32 = .ok (.iand, 1) := by decide +kernel
theorem dJ6_bitCount_0f7a4_33 : decode cJ6_bitCount_0f7a4 33 = .ok (.istore_n 0, 1) := by decide +kernel
theorem dJ6_bitCount_0f7a4_34 : decode cJ6_bitCount_0f7a4 34 = .ok (.iload_n 0, 1) := by decide +kernel
theorem dJ6_bitCount_0f7a4_35 : decode cJ6_bitCount_0f7a4 35 = .ok (.iload_n 0, 1) := by decide +kernel
theorem dJ6_bitCount_0f7a4_36 : decode cJ6_bitCount_0f7a4 36 = .ok (.bipush 8, 2) := by decide +kernel
theorem dJ6_bitCount_0f7a4_38 : decode cJ6_bitCount_0f7a4 38 = .ok (.iushr, 1) := by decide +kernel
theorem dJ6_bitCount_0f7a4_39 : decode cJ6_bitCount_0f7a4 39 = .ok (.iadd, 1) := by decide +kernel
theorem dJ6_bitCount_0f7a4_40 : decode cJ6_bitCount_0f7a4 40 = .ok (.istore_n 0, 1) := by decide +kernel
theorem dJ6_bitCount_0f7a4_41 : decode cJ6_bitCount_0f7a4 41 = .ok (.iload_n 0, 1) := by decide +kernel
theorem dJ6_bitCount_0f7a4_42 : decode cJ6_bitCount_0f7a4 42 = .ok (.iload_n 0, 1) := by decide +kernel
theorem dJ6_bitCount_0f7a4_43 : decode cJ6_bitCount_0f7a4 43 = .ok (.bipush 16, 2) := by decide +kernel
theorem dJ6_bitCount_0f7a4_45 : decode cJ6_bitCount_0f7a4 45 = .ok (.iushr, 1) := by decide +kernel
theorem dJ6_bitCount_0f7a4_46 : decode cJ6_bitCount_0f7a4 46 = .ok (.iadd, 1) := by decide +kernel
theorem dJ6_bitCount_0f7a4_47 : decode cJ6_bitCount_0f7a4 47 = .ok (.istore_n 0, 1) := by decide +kernel
theorem dJ6_bitCount_0f7a4_48 : decode cJ6_bitCount_0f7a4 48 = .ok (.iload_n 0, 1) := by decide +kernel
theorem dJ6_bitCount_0f7a4_49 : decode cJ6_bitCount_0f7a4 49 = .ok (.bipush 63, 2) := by decide +kernel
theorem dJ6_bitCount_0f7a4_51 : decode cJ6_bitCount_0f7a4 51 = .ok (.iand, 1) := by decide +kernel
theorem dJ6_bitCount_0f7a4_52 : decode cJ6_bitCount_0f7a4 52 = .ok (.ireturn, 1) := by decide +kernel
theorem dJ9_max_7cf53_0 : decode cJ9_max_7cf53 0 = .ok (.iload_n 0, 1) := by decide +kernel
theorem dJ9_max_7cf53_1 : decode cJ9_max_7cf53 1 = .ok (.iload_n 1, 1) := by decide +kernel
theorem dJ9_max_7cf53_2 : decode cJ9_max_7cf53 2 = .ok (.if_icmp .lt 7, 3) := by decide +kernel
theorem dJ9_max_7cf53_5 : decode cJ9_max_7cf53 5 = .ok (.iload_n 0, 1) := by decide +kernel
theorem dJ9_max_7cf53_6 : decode cJ9_max_7cf53 6 = .ok (.goto 4, 3) := by decide +kernel
theorem dJ9_max_7cf53_9 : decode cJ9_max_7cf53 9 = .ok (.iload_n 1, 1) := by decide +kernel
theorem dJ9_max_7cf53_10 : decode cJ9_max_7cf53 10 = .ok (.ireturn, 1) := by decide +kernel
theorem dJ9_min_7cf53_0 : decode cJ9_min_7cf53 0 = .ok (.iload_n 0, 1) := by decide +kernel
theorem dJ9_min_7cf53_1 : decode cJ9_min_7cf53 1 = .ok (.iload_n 1, 1) := by decide +kernel
theorem dJ9_min_7cf53_2 : decode cJ9_min_7cf53 2 = .ok (.if_icmp .gt 7, 3) := by decide +kernel
theorem dJ9_min_7cf53_5 : decode cJ9_min_7cf53 5 = .ok (.iload_n 0, 1) := by decide +kernel
theorem dJ9_min_7cf53_6 : decode cJ9_min_7cf53 6 = .ok (.goto 4, 3) := by decide +kernel
theorem dJ9_min_7cf53_9 : decode cJ9_min_7cf53 9 = .ok (.iload_n 1, 1) := by decide +kernel
theorem dJ9_min_7cf53_10 : decode cJ9_min_7cf53 10 = .ok (.ireturn, 1) := by decide +kernel
theorem dJ7_fill_d0a16_0 : decode cJ7_fill_d0a16 0 = .ok (.iconst 0, 1) := by decide +kernel
theorem dJ7_fill_d0a16_1 : decode cJ7_fill_d0a16 1 = .ok (.istore_n 3, 1) := by decide +kernel
theorem dJ7_fill_d0a16_2 : decode cJ7_fill_d0a16 2 = .ok (.aload_n 0, 1) := by decide +kernel
theorem dJ7_fill_d0a16_3 : decode cJ7_fill_d0a16 3 = .ok (.arraylength, 1) := by decide +kernel
theorem dJ7_fill_d0a16_4 : decode cJ7_fill_d0a16 4 = .ok (.istore 4, 2) := by decide +kernel
theorem dJ7_fill_d0a16_6 : decode cJ7_fill_d0a16 6 = .ok (.iload_n 3, 1) := by decide +kernel
theorem dJ7_fill_d0a16_7 : decode cJ7_fill_d0a16 7 = .ok (.iload 4, 2) := by decide +kernel
theorem dJ7_fill_d0a16_9 : decode cJ7_fill_d0a16 9 = .ok (.if_icmp .ge 13, 3) := by decide +kernel
theorem dJ7_fill_d0a16_12 : decode cJ7_fill_d0a16 12 = .ok (.aload_n 0, 1) := by decide +kernel
theorem dJ7_fill_d0a16_13 : decode cJ7_fill_d0a16 13 = .ok (.iload_n 3, 1) := by decide +kernel
theorem dJ7_fill_d0a16_14 : decode cJ7_fill_d0a16 14 = .ok (.lload_n 1, 1) := by decide +kernel
theorem dJ7_fill_d0a16_15 : decode cJ7_fill_d0a16 15 = .ok (.lastore, 1) := by decide +kernel
theorem dJ7_fill_d0a16_16 : decode cJ7_fill_d0a16 16 = .ok (.iinc 3 1, 3) := by decide +kernel
theorem dJ7_fill_d0a16_19 : decode cJ7_fill_d0a16 19 = .ok (.goto (-13), 3) := by decide +kernel
theorem dJ7_fill_d0a16_22 : decode cJ7_fill_d0a16 22 = .ok (.return_, 1) := by decide +kernel
theorem dJ7_fill_53178_0 : decode cJ7_fill_53178 0 = .ok (.iconst 0, 1) := by decide +kernel
theorem dJ7_fill_53178_1 : decode cJ7_fill_53178 1 = .ok (.istore_n 2, 1) := by decide +kernel
theorem dJ7_fill_53178_2 : decode cJ7_fill_53178 2 = .ok (.aload_n 0, 1) := by decide +kernel
theorem dJ7_fill_53178_3 : decode cJ7_fill_53178 3 = .ok (.arraylength, 1) := by decide +kernel
theorem dJ7_fill_53178_4 : decode cJ7_fill_53178 4 = .ok (.istore_n 3, 1) := by decide +kernel
theorem dJ7_fill_53178_5 : decode cJ7_fill_53178 5 = .ok (.iload_n 2, 1) := by decide +kernel
theorem dJ7_fill_53178_6 : decode cJ7_fill_53178 6 = .ok (.iload_n 3, 1) := by decide +kernel
theorem dJ7_fill_53178_7 : decode cJ7_fill_53178 7 = .ok (.if_icmp .ge 13, 3) := by decide +kernel
theorem dJ7_fill_53178_10 : decode cJ7_fill_53178 10 = .ok (.aload_n 0, 1) := by decide +kernel
theorem dJ7_fill_53178_11 : decode cJ7_fill_53178 11 = .ok (.iload_n 2, 1) := by decide +kernel
theorem dJ7_fill_53178_12 : decode cJ7_fill_53178 12 = .ok (.iload_n 1, 1) := by decide +kernel
theorem dJ7_fill_53178_13 : decode cJ7_fill_53178 13 = .ok (.iastore, 1) := by decide +kernel
theorem dJ7_fill_53178_14 : decode cJ7_fill_53178 14 = .ok (.iinc 2 1, 3) := by decide +kernel
theorem dJ7_fill_53178_17 : decode cJ7_fill_53178 17 = .ok (.goto (-12), 3) := by decide +kernel
theorem dJ7_fill_53178_20 : decode cJ7_fill_53178 20 = .ok (.return_, 1) := by decide +kernel

theorem dX0_init_0 : decode cX0_init 0 = .ok (.aload_n 0, 1) := by decide +kernel
theorem dX0_init_1 : decode cX0_init 1 = .ok (.invokespecial 3, 3) := by decide +kernel
theorem dX0_init_4 : decode cX0_init 4 = .ok (.return_, 1) := by decide +kernel
theorem dX0_begin_0 : decode cX0_begin 0 = .ok (.aload_n 0, 1) := by decide +kernel
theorem dX0_begin_1 : decode cX0_begin 1 = .ok (.iload_n 1, 1) := by decide +kernel
theorem dX0_begin_2 : decode cX0_begin 2 = .ok (.putfield 9, 3) := by decide +kernel
theorem dX0_begin_5 : decode cX0_begin 5 = .ok (.aload_n 0, 1) := by decide +kernel
theorem dX0_begin_6 : decode cX0_begin 6 = .ok (.iload_n 2, 1) := by decide +kernel
theorem dX0_begin_7 : decode cX0_begin 7 = .ok (.putfield 15, 3) := by decide +kernel
theorem dX0_begin_10 : decode cX0_begin 10 = .ok (.aload_n 0, 1) := by decide +kernel
theorem dX0_begin_11 : decode cX0_begin 11 = .ok (.iload_n 3, 1) := by decide +kernel
theorem dX0_begin_12 : decode cX0_begin 12 = .ok (.putfield 18, 3) := by decide +kernel
theorem dX0_begin_15 : decode cX0_begin 15 = .ok (.aload_n 0, 1) := by decide +kernel
theorem dX0_begin_16 : decode cX0_begin 16 = .ok (.iconst 0, 1) := by decide +kernel
theorem dX0_begin_17 : decode cX0_begin 17 = .ok (.putfield 21, 3) := by decide +kernel
theorem dX0_begin_20 : decode cX0_begin 20 = .ok (.aload_n 0, 1) := by decide +kernel
theorem dX0_begin_21 : decode cX0_begin 21 = .ok (.sipush 255, 3) := by decide +kernel
theorem dX0_begin_24 : decode cX0_begin 24 = .ok (.putfield 24, 3) := by decide +kernel
theorem dX0_begin_27 : decode cX0_begin 27 = .ok (.aload_n 0, 1) := by decide +kernel
theorem dX0_begin_28 : decode cX0_begin 28 = .ok (.iconst 0, 1) := by decide +kernel
theorem dX0_begin_29 : decode cX0_begin 29 = .ok (.putfield 27, 3) := by decide +kernel
theorem dX0_begin_32 : decode cX0_begin 32 = .ok (.aload_n 0, 1) := by decide +kernel
theorem dX0_begin_33 : decode cX0_begin 33 = .ok (.iconst 0, 1) := by decide +kernel
theorem dX0_begin_34 : decode cX0_begin 34 = .ok (.putfield 30, 3) := by decide +kernel
theorem dX0_begin_37 : decode cX0_begin 37 = .ok (.aload_n 0, 1) := by decide +kernel
theorem dX0_begin_38 : decode cX0_begin 38 = .ok (.iconst 0, 1) := by decide +kernel
theorem dX0_begin_39 : decode cX0_begin 39 = .ok (.putfield 33, 3) := by decide +kernel
theorem dX0_begin_42 : decode cX0_begin 42 = .ok (.aload_n 0, 1) := by decide +kernel
theorem dX0_begin_43 : decode cX0_begin 43 = .ok (.iconst 0, 1) := by decide +kernel
theorem dX0_begin_44 : decode cX0_begin 44 = .ok (.putfield 36, 3) := by decide +kernel
theorem dX0_begin_47 : decode cX0_begin 47 = .ok (.aload_n 0, 1) := by decide +kernel
theorem dX0_begin_48 : decode cX0_begin 48 = .ok (.iconst 0, 1) := by decide +kernel
theorem dX0_begin_49 : decode cX0_begin 49 = .ok (.putfield 39, 3) := by decide +kernel
theorem dX0_begin_52 : decode cX0_begin 52 = .ok (.aload_n 0, 1) := by decide +kernel
theorem dX0_begin_53 : decode cX0_begin 53 = .ok (.iconst 0, 1) := by decide +kernel
theorem dX0_begin_54 : decode cX0_begin 54 = .ok (.putfield 42, 3) := by decide +kernel
theorem dX0_begin_57 : decode cX0_begin 57 = .ok (.aload_n 0, 1) := by decide +kernel
theorem dX0_begin_58 : decode cX0_begin 58 = .ok (.iconst 0, 1) := by decide +kernel
theorem dX0_begin_59 : decode cX0_begin 59 = .ok (.putfield 45, 3) := by decide +kernel
theorem dX0_begin_62 : decode cX0_begin 62 = .ok (.return_, 1) := by decide +kernel
theorem dX0_copyFrom_0 : decode cX0_copyFrom 0 = .ok (.aload_n 0, 1) := by decide +kernel
theorem dX0_copyFrom_1 : decode cX0_copyFrom 1 = .ok (.aload_n 1, 1) := by decide +kernel
theorem dX0_copyFrom_2 : decode cX0_copyFrom 2 = .ok (.getfield 9, 3) := by decide +kernel
theorem dX0_copyFrom_5 : decode cX0_copyFrom 5 = .ok (.putfield 9, 3) := by decide +kernel
theorem dX0_copyFrom_8 : decode cX0_copyFrom 8 = .ok (.aload_n 0, 1) := by decide +kernel
theorem dX0_copyFrom_9 : decode cX0_copyFrom 9 = .ok (.aload_n 1, 1) := by decide +kernel
theorem dX0_copyFrom_10 : decode cX0_copyFrom 10 = .ok (.getfield 15, 3) := by decide +kernel
theorem dX0_copyFrom_13 : decode cX0_copyFrom 13 = .ok (.putfield 15, 3) := by decide +kernel
theorem dX0_copyFrom_16 : decode cX0_copyFrom 16 = .ok (.aload_n 0, 1) := by decide +kernel
theorem dX0_copyFrom_17 : decode cX0_copyFrom 17 = .ok (.aload_n 1, 1) := by decide +kernel
theorem dX0_copyFrom_18 : decode cX0_copyFrom 18 = .ok (.getfield 18, 3) := by decide +kernel
theorem dX0_copyFrom_21 : decode cX0_copyFrom 21 = .ok (.putfield 18, 3) := by decide +kernel
theorem dX0_copyFrom_24 : decode cX0_copyFrom 24 = .ok (.aload_n 0, 1) := by decide +kernel
theorem dX0_copyFrom_25 : decode cX0_copyFrom 25 = .ok (.aload_n 1, 1) := by decide +kernel
theorem dX0_copyFrom_26 : decode cX0_copyFrom 26 = .ok (.getfield 21, 3) := by decide +kernel
theorem dX0_copyFrom_29 : decode cX0_copyFrom 29 = .ok (.putfield 21, 3) := by decide +kernel
theorem dX0_copyFrom_32 : decode cX0_copyFrom 32 = .ok (.aload_n 0, 1) := by decide +kernel
theorem dX0_copyFrom_33 : decode cX0_copyFrom 33 = .ok (.aload_n 1, 1) := by decide +kernel
theorem dX0_copyFrom_34 : decode cX0_copyFrom 34 = .ok (.getfield 24, 3) := by decide +kernel
theorem dX0_copyFrom_37 : decode cX0_copyFrom 37 = .ok (.putfield 24, 3) := by decide +kernel
theorem dX0_copyFrom_40 : decode cX0_copyFrom 40 = .ok (.aload_n 0, 1) := by decide +kernel
theorem dX0_copyFrom_41 : decode cX0_copyFrom 41 = .ok (.aload_n 1, 1) := by decide +kernel
theorem dX0_copyFrom_42 : decode cX0_copyFrom 42 = .ok (.getfield 27, 3) := by decide +kernel
theorem dX0_copyFrom_45 : decode cX0_copyFrom 45 = .ok (.putfield 27, 3) := by decide +kernel
theorem dX0_copyFrom_48 : decode cX0_copyFrom 48 = .ok (.aload_n 0, 1) := by decide +kernel
theorem dX0_copyFrom_49 : decode cX0_copyFrom 49 = .ok (.aload_n 1, 1) := by decide +kernel
theorem dX0_copyFrom_50 : decode cX0_copyFrom 50 = .ok (.getfield 30, 3) := by decide +kernel
theorem dX0_copyFrom_53 : decode cX0_copyFrom 53 = .ok (.putfield 30, 3) := by decide +kernel
theorem dX0_copyFrom_56 : decode cX0_copyFrom 56 = .ok (.aload_n 0, 1) := by decide +kernel
theorem dX0_copyFrom_57 : decode cX0_copyFrom 57 = .ok (.aload_n 1, 1) := by decide +kernel
theorem dX0_copyFrom_58 : decode cX0_copyFrom 58 = .ok (.getfield 33, 3) := by decide +kernel
theorem dX0_copyFrom_61 : decode cX0_copyFrom 61 = .ok (.putfield 33, 3) := by decide +kernel
theorem dX0_copyFrom_64 : decode cX0_copyFrom 64 = .ok (.aload_n 0, 1) := by decide +kernel
theorem dX0_copyFrom_65 : decode cX0_copyFrom 65 = .ok (.aload_n 1, 1) := by decide +kernel
theorem dX0_copyFrom_66 : decode cX0_copyFrom 66 = .ok (.getfield 36, 3) := by decide +kernel
theorem dX0_copyFrom_69 : decode cX0_copyFrom 69 = .ok (.putfield 36, 3) := by decide +kernel
theorem dX0_copyFrom_72 : decode cX0_copyFrom 72 = .ok (.aload_n 0, 1) := by decide +kernel
theorem dX0_copyFrom_73 : decode cX0_copyFrom 73 = .ok (.aload_n 1, 1) := by decide +kernel
theorem dX0_copyFrom_74 : decode cX0_copyFrom 74 = .ok (.getfield 39, 3) := by decide +kernel
theorem dX0_copyFrom_77 : decode cX0_copyFrom 77 = .ok (.putfield 39, 3) := by decide +kernel
theorem dX0_copyFrom_80 : decode cX0_copyFrom 80 = .ok (.aload_n 0, 1) := by decide +kernel
theorem dX0_copyFrom_81 : decode cX0_copyFrom 81 = .ok (.aload_n 1, 1) := by decide +kernel
theorem dX0_copyFrom_82 : decode cX0_copyFrom 82 = .ok (.getfield 42, 3) := by decide +kernel
theorem dX0_copyFrom_85 : decode cX0_copyFrom 85 = .ok (.putfield 42, 3) := by decide +kernel
theorem dX0_copyFrom_88 : decode cX0_copyFrom 88 = .ok (.aload_n 0, 1) := by decide +kernel
theorem dX0_copyFrom_89 : decode cX0_copyFrom 89 = .ok (.aload_n 1, 1) := by decide +kernel
theorem dX0_copyFrom_90 : decode cX0_copyFrom 90 = .ok (.getfield 45, 3) := by decide +kernel
theorem dX0_copyFrom_93 : decode cX0_copyFrom 93 = .ok (.putfield 45, 3) := by decide +kernel
theorem dX0_copyFrom_96 : decode cX0_copyFrom 96 = .ok (.return_, 1) := by decide +kernel
theorem dX0_isMemberOf_0 : decode cX0_isMemberOf 0 = .ok (.aload_n 0, 1) := by decide +kernel
theorem dX0_isMemberOf_1 : decode cX0_isMemberOf 1 = .ok (.getfield 9, 3) := by decide +kernel
theorem dX0_isMemberOf_4 : decode cX0_isMemberOf 4 = .ok (.iload_n 1, 1) := by decide +kernel
theorem dX0_isMemberOf_5 : decode cX0_isMemberOf 5 = .ok (.if_icmp .ne 14, 3) := by decide +kernel
theorem dX0_isMemberOf_8 : decode cX0_isMemberOf 8 = .ok (.aload_n 0, 1) := by decide +kernel
theorem dX0_isMemberOf_9 : decode cX0_isMemberOf 9 = .ok (.getfield 18, 3) := by decide +kernel
theorem dX0_isMemberOf_12 : decode cX0_isMemberOf 12 = .ok (.ifCond .le 7, 3) := by decide +kernel
theorem dX0_isMemberOf_15 : decode cX0_isMemberOf 15 = .ok (.iconst 1, 1) := by decide +kernel
theorem dX0_isMemberOf_16 : decode cX0_isMemberOf 16 = .ok (.goto 4, 3) := by decide +kernel
theorem dX0_isMemberOf_19 : decode cX0_isMemberOf 19 = .ok (.iconst 0, 1) := by decide +kernel
theorem dX0_isMemberOf_20 : decode cX0_isMemberOf 20 = .ok (.ireturn, 1) := by decide +kernel
theorem dX0_isAvailableIn_0 : decode cX0_isAvailableIn 0 = .ok (.aload_n 0, 1) := by decide +kernel
theorem dX0_isAvailableIn_1 : decode cX0_isAvailableIn 1 = .ok (.getfield 9, 3) := by decide +kernel
theorem dX0_isAvailableIn_4 : decode cX0_isAvailableIn 4 = .ok (.iload_n 1, 1) := by decide +kernel
theorem dX0_isAvailableIn_5 : decode cX0_isAvailableIn 5 = .ok (.if_icmp .ne 21, 3) := by decide +kernel
theorem dX0_isAvailableIn_8 : decode cX0_isAvailableIn 8 = .ok (.aload_n 0, 1) := by decide +kernel
theorem dX0_isAvailableIn_9 : decode cX0_isAvailableIn 9 = .ok (.getfield 18, 3) := by decide +kernel
theorem dX0_isAvailableIn_12 : decode cX0_isAvailableIn 12 = .ok (.ifCond .le 14, 3) := by decide +kernel
theorem dX0_isAvailableIn_15 : decode cX0_isAvailableIn 15 = .ok (.aload_n 0, 1) := by decide +kernel
theorem dX0_isAvailableIn_16 : decode cX0_isAvailableIn 16 = .ok (.getfield 39, 3) := by decide +kernel
theorem dX0_isAvailableIn_19 : decode cX0_isAvailableIn 19 = .ok (.ifCond .ne 7, 3) := by decide +kernel
theorem dX0_isAvailableIn_22 : decode cX0_isAvailableIn 22 = .ok (.iconst 1, 1) := by decide +kernel
theorem dX0_isAvailableIn_23 : decode cX0_isAvailableIn 23 = .ok (.goto 4, 3) := by decide +kernel
theorem dX0_isAvailableIn_26 : decode cX0_isAvailableIn 26 = .ok (.iconst 0, 1) := by decide +kernel
theorem dX0_isAvailableIn_27 : decode cX0_isAvailableIn 27 = .ok (.ireturn, 1) := by decide +kernel
theorem dX0_isLessUsedThan_0 : decode cX0_isLessUsedThan 0 = .ok (.aload_n 0, 1) := by decide +kernel
theorem dX0_isLessUsedThan_1 : decode cX0_isLessUsedThan 1 = .ok (.getfield 27, 3) := by decide +kernel
theorem dX0_isLessUsedThan_4 : decode cX0_isLessUsedThan 4 = .ok (.aload_n 1, 1) := by decide +kernel
theorem dX0_isLessUsedThan_5 : decode cX0_isLessUsedThan 5 = .ok (.getfield 18, 3) := by decide +kernel
theorem dX0_isLessUsedThan_8 : decode cX0_isLessUsedThan 8 = .ok (.imul, 1) := by decide +kernel
theorem dX0_isLessUsedThan_9 : decode cX0_isLessUsedThan 9 = .ok (.aload_n 1, 1) := by decide +kernel
theorem dX0_isLessUsedThan_10 : decode cX0_isLessUsedThan 10 = .ok (.getfield 27, 3) := by decide +kernel
theorem dX0_isLessUsedThan_13 : decode cX0_isLessUsedThan 13 = .ok (.aload_n 0, 1) := by decide +kernel
theorem dX0_isLessUsedThan_14 : decode cX0_isLessUsedThan 14 = .ok (.getfield 18, 3) := by decide +kernel
theorem dX0_isLessUsedThan_17 : decode cX0_isLessUsedThan 17 = .ok (.imul, 1) := by decide +kernel
theorem dX0_isLessUsedThan_18 : decode cX0_isLessUsedThan 18 = .ok (.if_icmp .ge 7, 3) := by decide +kernel
theorem dX0_isLessUsedThan_21 : decode cX0_isLessUsedThan 21 = .ok (.iconst 1, 1) := by decide +kernel
theorem dX0_isLessUsedThan_22 : decode cX0_isLessUsedThan 22 = .ok (.goto 4, 3) := by decide +kernel
theorem dX0_isLessUsedThan_25 : decode cX0_isLessUsedThan 25 = .ok (.iconst 0, 1) := by decide +kernel
theorem dX0_isLessUsedThan_26 : decode cX0_isLessUsedThan 26 = .ok (.ireturn, 1) := by decide +kernel
theorem dX0_attempt_0 : decode cX0_attempt 0 = .ok (.aload_n 0, 1) := by decide +kernel
theorem dX0_attempt_1 : decode cX0_attempt 1 = .ok (.getfield 24, 3) := by decide +kernel
theorem dX0_attempt_4 : decode cX0_attempt 4 = .ok (.aload_n 0, 1) := by decide +kernel
theorem dX0_attempt_5 : decode cX0_attempt 5 = .ok (.getfield 27, 3) := by decide +kernel
theorem dX0_attempt_8 : decode cX0_attempt 8 = .ok (.invokestatic 48, 3) := by decide +kernel
theorem dX0_attempt_11 : decode cX0_attempt 11 = .ok (.istore_n 1, 1) := by decide +kernel
theorem dX0_attempt_12 : decode cX0_attempt 12 = .ok (.aload_n 0, 1) := by decide +kernel
theorem dX0_attempt_13 : decode cX0_attempt 13 = .ok (.iconst 1, 1) := by decide +kernel
theorem dX0_attempt_14 : decode cX0_attempt 14 = .ok (.putfield 52, 3) := by decide +kernel
theorem dX0_attempt_17 : decode cX0_attempt 17 = .ok (.aload_n 0, 1) := by decide +kernel
theorem dX0_attempt_18 : decode cX0_attempt 18 = .ok (.dup, 1) := by decide +kernel
theorem dX0_attempt_19 : decode cX0_attempt 19 = .ok (.getfield 27, 3) := by decide +kernel
theorem dX0_attempt_22 : decode cX0_attempt 22 = .ok (.iconst 1, 1) := by decide +kernel
theorem dX0_attempt_23 : decode cX0_attempt 23 = .ok (.iadd, 1) := by decide +kernel
theorem dX0_attempt_24 : decode cX0_attempt 24 = .ok (.putfield 27, 3) := by decide +kernel
theorem dX0_attempt_27 : decode cX0_attempt 27 = .ok (.iload_n 1, 1) := by decide +kernel
theorem dX0_attempt_28 : decode cX0_attempt 28 = .ok (.ifCond .eq 21, 3) := by decide +kernel
theorem dX0_attempt_31 : decode cX0_attempt 31 = .ok (.aload_n 0, 1) := by decide +kernel
theorem dX0_attempt_32 : decode cX0_attempt 32 = .ok (.dup, 1) := by decide +kernel
theorem dX0_attempt_33 : decode cX0_attempt 33 = .ok (.getfield 30, 3) := by decide +kernel
theorem dX0_attempt_36 : decode cX0_attempt 36 = .ok (.iconst 1, 1) := by decide +kernel
theorem dX0_attempt_37 : decode cX0_attempt 37 = .ok (.iadd, 1) := by decide +kernel
theorem dX0_attempt_38 : decode cX0_attempt 38 = .ok (.putfield 30, 3) := by decide +kernel
theorem dX0_attempt_41 : decode cX0_attempt 41 = .ok (.aload_n 0, 1) := by decide +kernel
theorem dX0_attempt_42 : decode cX0_attempt 42 = .ok (.iconst 0, 1) := by decide +kernel
theorem dX0_attempt_43 : decode cX0_attempt 43 = .ok (.putfield 33, 3) := by decide +kernel
theorem dX0_attempt_46 : decode cX0_attempt 46 = .ok (.goto 13, 3) := by decide +kernel
theorem dX0_attempt_49 : decode cX0_attempt 49 = .ok (.aload_n 0, 1) := by decide +kernel
theorem dX0_attempt_50 : decode cX0_attempt 50 = .ok (.dup, 1) := by decide +kernel
theorem dX0_attempt_51 : decode cX0_attempt 51 = .ok (.getfield 33, 3) := by decide +kernel
theorem dX0_attempt_54 : decode cX0_attempt 54 = .ok (.iconst 1, 1) := by decide +kernel
theorem dX0_attempt_55 : decode cX0_attempt 55 = .ok (.iadd, 1) := by decide +kernel
theorem dX0_attempt_56 : decode cX0_attempt 56 = .ok (.putfield 33, 3) := by decide +kernel
theorem dX0_attempt_59 : decode cX0_attempt 59 = .ok (.iload_n 1, 1) := by decide +kernel
theorem dX0_attempt_60 : decode cX0_attempt 60 = .ok (.ireturn, 1) := by decide +kernel
theorem dX0_attemptAsShadow_0 : decode cX0_attemptAsShadow 0 = .ok (.aload_n 0, 1) := by decide +kernel
theorem dX0_attemptAsShadow_1 : decode cX0_attemptAsShadow 1 = .ok (.getfield 24, 3) := by decide +kernel
theorem dX0_attemptAsShadow_4 : decode cX0_attemptAsShadow 4 = .ok (.aload_n 0, 1) := by decide +kernel
theorem dX0_attemptAsShadow_5 : decode cX0_attemptAsShadow 5 = .ok (.getfield 42, 3) := by decide +kernel
theorem dX0_attemptAsShadow_8 : decode cX0_attemptAsShadow 8 = .ok (.invokestatic 48, 3) := by decide +kernel
theorem dX0_attemptAsShadow_11 : decode cX0_attemptAsShadow 11 = .ok (.ifCond .eq 13, 3) := by decide +kernel
theorem dX0_attemptAsShadow_14 : decode cX0_attemptAsShadow 14 = .ok (.aload_n 0, 1) := by decide +kernel
theorem dX0_attemptAsShadow_15 : decode cX0_attemptAsShadow 15 = .ok (.dup, 1) := by decide +kernel
theorem dX0_attemptAsShadow_16 : decode cX0_attemptAsShadow 16 = .ok (.getfield 45, 3) := by decide +kernel
theorem dX0_attemptAsShadow_19 : decode cX0_attemptAsShadow 19 = .ok (.iconst 1, 1) := by decide +kernel
theorem dX0_attemptAsShadow_20 : decode cX0_attemptAsShadow 20 = .ok (.iadd, 1) := by decide +kernel
theorem dX0_attemptAsShadow_21 : decode cX0_attemptAsShadow 21 = .ok (.putfield 45, 3) := by decide +kernel
theorem dX0_attemptAsShadow_24 : decode cX0_attemptAsShadow 24 = .ok (.aload_n 0, 1) := by decide +kernel
theorem dX0_attemptAsShadow_25 : decode cX0_attemptAsShadow 25 = .ok (.dup, 1) := by decide +kernel
theorem dX0_attemptAsShadow_26 : decode cX0_attemptAsShadow 26 = .ok (.getfield 42, 3) := by decide +kernel
theorem dX0_attemptAsShadow_29 : decode cX0_attemptAsShadow 29 = .ok (.iconst 1, 1) := by decide +kernel
theorem dX0_attemptAsShadow_30 : decode cX0_attemptAsShadow 30 = .ok (.iadd, 1) := by decide +kernel
theorem dX0_attemptAsShadow_31 : decode cX0_attemptAsShadow 31 = .ok (.putfield 42, 3) := by decide +kernel
theorem dX0_attemptAsShadow_34 : decode cX0_attemptAsShadow 34 = .ok (.return_, 1) := by decide +kernel
theorem dX0_eject_0 : decode cX0_eject 0 = .ok (.aload_n 0, 1) := by decide +kernel
theorem dX0_eject_1 : decode cX0_eject 1 = .ok (.dup, 1) := by decide +kernel
theorem dX0_eject_2 : decode cX0_eject 2 = .ok (.getfield 36, 3) := by decide +kernel
theorem dX0_eject_5 : decode cX0_eject 5 = .ok (.iconst 1, 1) := by decide +kernel
theorem dX0_eject_6 : decode cX0_eject 6 = .ok (.iadd, 1) := by decide +kernel
theorem dX0_eject_7 : decode cX0_eject 7 = .ok (.putfield 36, 3) := by decide +kernel
theorem dX0_eject_10 : decode cX0_eject 10 = .ok (.aload_n 0, 1) := by decide +kernel
theorem dX0_eject_11 : decode cX0_eject 11 = .ok (.iconst 0, 1) := by decide +kernel
theorem dX0_eject_12 : decode cX0_eject 12 = .ok (.putfield 33, 3) := by decide +kernel
theorem dX0_eject_15 : decode cX0_eject 15 = .ok (.aload_n 0, 1) := by decide +kernel
theorem dX0_eject_16 : decode cX0_eject 16 = .ok (.iload_n 1, 1) := by decide +kernel
theorem dX0_eject_17 : decode cX0_eject 17 = .ok (.aload_n 0, 1) := by decide +kernel
theorem dX0_eject_18 : decode cX0_eject 18 = .ok (.getfield 36, 3) := by decide +kernel
theorem dX0_eject_21 : decode cX0_eject 21 = .ok (.imul, 1) := by decide +kernel
theorem dX0_eject_22 : decode cX0_eject 22 = .ok (.putfield 39, 3) := by decide +kernel
theorem dX0_eject_25 : decode cX0_eject 25 = .ok (.return_, 1) := by decide +kernel
theorem dX0_property_0 : decode cX0_property 0 = .ok (.iload_n 1, 1) := by decide +kernel
theorem dX0_property_1 : decode cX0_property 1 = .ok (.tableswitch 123 0 11 #[63, 68, 73, 78, 83, 88, 93, 98, 103, 108, 113, 118], 63) := by decide +kernel
theorem dX0_property_64 : decode cX0_property 64 = .ok (.aload_n 0, 1) := by decide +kernel
theorem dX0_property_65 : decode cX0_property 65 = .ok (.getfield 9, 3) := by decide +kernel
theorem dX0_property_68 : decode cX0_property 68 = .ok (.ireturn, 1) := by decide +kernel
theorem dX0_property_69 : decode cX0_property 69 = .ok (.aload_n 0, 1) := by decide +kernel
theorem dX0_property_70 : decode cX0_property 70 = .ok (.getfield 15, 3) := by decide +kernel
theorem dX0_property_73 : decode cX0_property 73 = .ok (.ireturn, 1) := by decide +kernel
theorem dX0_property_74 : decode cX0_property 74 = .ok (.aload_n 0, 1) := by decide +kernel
theorem dX0_property_75 : decode cX0_property 75 = .ok (.getfield 18, 3) := by decide +kernel
theorem dX0_property_78 : decode cX0_property 78 = .ok (.ireturn, 1) := by decide +kernel
theorem dX0_property_79 : decode cX0_property 79 = .ok (.aload_n 0, 1) := by decide +kernel
theorem dX0_property_80 : decode cX0_property 80 = .ok (.getfield 24, 3) := by decide +kernel
theorem dX0_property_83 : decode cX0_property 83 = .ok (.ireturn, 1) := by decide +kernel
theorem dX0_property_84 : decode cX0_property 84 = .ok (.aload_n 0, 1) := by decide +kernel
theorem dX0_property_85 : decode cX0_property 85 = .ok (.getfield 21, 3) := by decide +kernel
theorem dX0_property_88 : decode cX0_property 88 = .ok (.ireturn, 1) := by decide +kernel
theorem dX0_property_89 : decode cX0_property 89 = .ok (.aload_n 0, 1) := by decide +kernel
theorem dX0_property_90 : decode cX0_property 90 = .ok (.getfield 27, 3) := by decide +kernel
theorem dX0_property_93 : decode cX0_property 93 = .ok (.ireturn, 1) := by decide +kernel
theorem dX0_property_94 : decode cX0_property 94 = .ok (.aload_n 0, 1) := by decide +kernel
theorem dX0_property_95 : decode cX0_property 95 = .ok (.getfield 30, 3) := by decide +kernel
theorem dX0_property_98 : decode cX0_property 98 = .ok (.ireturn, 1) := by decide +kernel
theorem dX0_property_99 : decode cX0_property 99 = .ok (.aload_n 0, 1) := by decide +kernel
theorem dX0_property_100 : decode cX0_property 100 = .ok (.getfield 33, 3) := by decide +kernel
theorem dX0_property_103 : decode cX0_property 103 = .ok (.ireturn, 1) := by decide +kernel
theorem dX0_property_104 : decode cX0_property 104 = .ok (.aload_n 0, 1) := by decide +kernel
theorem dX0_property_105 : decode cX0_property 105 = .ok (.getfield 36, 3) := by decide +kernel
theorem dX0_property_108 : decode cX0_property 108 = .ok (.ireturn, 1) := by decide +kernel
theorem dX0_property_109 : decode cX0_property 109 = .ok (.aload_n 0, 1) := by decide +kernel
theorem dX0_property_110 : decode cX0_property 110 = .ok (.getfield 39, 3) := by decide +kernel
theorem dX0_property_113 : decode cX0_property 113 = .ok (.ireturn, 1) := by decide +kernel
theorem dX0_property_114 : decode cX0_property 114 = .ok (.aload_n 0, 1) := by decide +kernel
theorem dX0_property_115 : decode cX0_property 115 = .ok (.getfield 42, 3) := by decide +kernel
theorem dX0_property_118 : decode cX0_property 118 = .ok (.ireturn, 1) := by decide +kernel
theorem dX0_property_119 : decode cX0_property 119 = .ok (.aload_n 0, 1) := by decide +kernel
theorem dX0_property_120 : decode cX0_property 120 = .ok (.getfield 45, 3) := by decide +kernel
theorem dX0_property_123 : decode cX0_property 123 = .ok (.ireturn, 1) := by decide +kernel
theorem dX0_property_124 : decode cX0_property 124 = .ok (.bipush (-2), 2) := by decide +kernel
theorem dX0_property_126 : decode cX0_property 126 = .ok (.ireturn, 1) := by decide +kernel
theorem dX1_init_0 : decode cX1_init 0 = .ok (.aload_n 0, 1) := by decide +kernel
theorem dX1_init_1 : decode cX1_init 1 = .ok (.invokespecial 3, 3) := by decide +kernel
theorem dX1_init_4 : decode cX1_init 4 = .ok (.aload_n 0, 1) := by decide +kernel
theorem dX1_init_5 : decode cX1_init 5 = .ok (.bipush 12, 2) := by decide +kernel
theorem dX1_init_7 : decode cX1_init 7 = .ok (.anewarray 9, 3) := by decide +kernel
theorem dX1_init_10 : decode cX1_init 10 = .ok (.putfield 11, 3) := by decide +kernel
theorem dX1_init_13 : decode cX1_init 13 = .ok (.aload_n 0, 1) := by decide +kernel
theorem dX1_init_14 : decode cX1_init 14 = .ok (.iconst 4, 1) := by decide +kernel
theorem dX1_init_15 : decode cX1_init 15 = .ok (.anewarray 17, 3) := by decide +kernel
theorem dX1_init_18 : decode cX1_init 18 = .ok (.putfield 19, 3) := by decide +kernel
theorem dX1_init_21 : decode cX1_init 21 = .ok (.aload_n 0, 1) := by decide +kernel
theorem dX1_init_22 : decode cX1_init 22 = .ok (.bipush 8, 2) := by decide +kernel
theorem dX1_init_24 : decode cX1_init 24 = .ok (.anewarray 23, 3) := by decide +kernel
theorem dX1_init_27 : decode cX1_init 27 = .ok (.putfield 25, 3) := by decide +kernel
theorem dX1_init_30 : decode cX1_init 30 = .ok (.aload_n 0, 1) := by decide +kernel
theorem dX1_init_31 : decode cX1_init 31 = .ok (.bipush 70, 2) := by decide +kernel
theorem dX1_init_33 : decode cX1_init 33 = .ok (.putfield 29, 3) := by decide +kernel
theorem dX1_init_36 : decode cX1_init 36 = .ok (.aload_n 0, 1) := by decide +kernel
theorem dX1_init_37 : decode cX1_init 37 = .ok (.new 33, 3) := by decide +kernel
theorem dX1_init_40 : decode cX1_init 40 = .ok (.dup, 1) := by decide +kernel
theorem dX1_init_41 : decode cX1_init 41 = .ok (.invokespecial 35, 3) := by decide +kernel
theorem dX1_init_44 : decode cX1_init 44 = .ok (.putfield 36, 3) := by decide +kernel
theorem dX1_init_47 : decode cX1_init 47 = .ok (.iconst 0, 1) := by decide +kernel
theorem dX1_init_48 : decode cX1_init 48 = .ok (.istore_n 1, 1) := by decide +kernel
theorem dX1_init_49 : decode cX1_init 49 = .ok (.iload_n 1, 1) := by decide +kernel
theorem dX1_init_50 : decode cX1_init 50 = .ok (.bipush 12, 2) := by decide +kernel
theorem dX1_init_52 : decode cX1_init 52 = .ok (.if_icmp .ge 22, 3) := by decide +kernel
theorem dX1_init_55 : decode cX1_init 55 = .ok (.aload_n 0, 1) := by decide +kernel
theorem dX1_init_56 : decode cX1_init 56 = .ok (.getfield 11, 3) := by decide +kernel
theorem dX1_init_59 : decode cX1_init 59 = .ok (.iload_n 1, 1) := by decide +kernel
theorem dX1_init_60 : decode cX1_init 60 = .ok (.new 9, 3) := by decide +kernel
theorem dX1_init_63 : decode cX1_init 63 = .ok (.dup, 1) := by decide +kernel
theorem dX1_init_64 : decode cX1_init 64 = .ok (.invokespecial 40, 3) := by decide +kernel
theorem dX1_init_67 : decode cX1_init 67 = .ok (.aastore, 1) := by decide +kernel
theorem dX1_init_68 : decode cX1_init 68 = .ok (.iinc 1 1, 3) := by decide +kernel
theorem dX1_init_71 : decode cX1_init 71 = .ok (.goto (-22), 3) := by decide +kernel
theorem dX1_init_74 : decode cX1_init 74 = .ok (.iconst 0, 1) := by decide +kernel
theorem dX1_init_75 : decode cX1_init 75 = .ok (.istore_n 1, 1) := by decide +kernel
theorem dX1_init_76 : decode cX1_init 76 = .ok (.iload_n 1, 1) := by decide +kernel
theorem dX1_init_77 : decode cX1_init 77 = .ok (.iconst 4, 1) := by decide +kernel
theorem dX1_init_78 : decode cX1_init 78 = .ok (.if_icmp .ge 22, 3) := by decide +kernel
theorem dX1_init_81 : decode cX1_init 81 = .ok (.aload_n 0, 1) := by decide +kernel
theorem dX1_init_82 : decode cX1_init 82 = .ok (.getfield 19, 3) := by decide +kernel
theorem dX1_init_85 : decode cX1_init 85 = .ok (.iload_n 1, 1) := by decide +kernel
theorem dX1_init_86 : decode cX1_init 86 = .ok (.new 17, 3) := by decide +kernel
theorem dX1_init_89 : decode cX1_init 89 = .ok (.dup, 1) := by decide +kernel
theorem dX1_init_90 : decode cX1_init 90 = .ok (.invokespecial 41, 3) := by decide +kernel
theorem dX1_init_93 : decode cX1_init 93 = .ok (.aastore, 1) := by decide +kernel
theorem dX1_init_94 : decode cX1_init 94 = .ok (.iinc 1 1, 3) := by decide +kernel
theorem dX1_init_97 : decode cX1_init 97 = .ok (.goto (-21), 3) := by decide +kernel
theorem dX1_init_100 : decode cX1_init 100 = .ok (.iconst 0, 1) := by decide +kernel
theorem dX1_init_101 : decode cX1_init 101 = .ok (.istore_n 1, 1) := by decide +kernel
theorem dX1_init_102 : decode cX1_init 102 = .ok (.iload_n 1, 1) := by decide +kernel
theorem dX1_init_103 : decode cX1_init 103 = .ok (.bipush 8, 2) := by decide +kernel
theorem dX1_init_105 : decode cX1_init 105 = .ok (.if_icmp .ge 22, 3) := by decide +kernel
theorem dX1_init_108 : decode cX1_init 108 = .ok (.aload_n 0, 1) := by decide +kernel
theorem dX1_init_109 : decode cX1_init 109 = .ok (.getfield 25, 3) := by decide +kernel
theorem dX1_init_112 : decode cX1_init 112 = .ok (.iload_n 1, 1) := by decide +kernel
theorem dX1_init_113 : decode cX1_init 113 = .ok (.new 23, 3) := by decide +kernel
theorem dX1_init_116 : decode cX1_init 116 = .ok (.dup, 1) := by decide +kernel
theorem dX1_init_117 : decode cX1_init 117 = .ok (.invokespecial 42, 3) := by decide +kernel
theorem dX1_init_120 : decode cX1_init 120 = .ok (.aastore, 1) := by decide +kernel
theorem dX1_init_121 : decode cX1_init 121 = .ok (.iinc 1 1, 3) := by decide +kernel
theorem dX1_init_124 : decode cX1_init 124 = .ok (.goto (-22), 3) := by decide +kernel
theorem dX1_init_127 : decode cX1_init 127 = .ok (.return_, 1) := by decide +kernel
theorem dX1_copyFrom_0 : decode cX1_copyFrom 0 = .ok (.aload_n 0, 1) := by decide +kernel
theorem dX1_copyFrom_1 : decode cX1_copyFrom 1 = .ok (.aload_n 1, 1) := by decide +kernel
theorem dX1_copyFrom_2 : decode cX1_copyFrom 2 = .ok (.getfield 43, 3) := by decide +kernel
theorem dX1_copyFrom_5 : decode cX1_copyFrom 5 = .ok (.putfield 43, 3) := by decide +kernel
theorem dX1_copyFrom_8 : decode cX1_copyFrom 8 = .ok (.iconst 0, 1) := by decide +kernel
theorem dX1_copyFrom_9 : decode cX1_copyFrom 9 = .ok (.istore_n 2, 1) := by decide +kernel
theorem dX1_copyFrom_10 : decode cX1_copyFrom 10 = .ok (.iload_n 2, 1) := by decide +kernel
theorem dX1_copyFrom_11 : decode cX1_copyFrom 11 = .ok (.aload_n 0, 1) := by decide +kernel
theorem dX1_copyFrom_12 : decode cX1_copyFrom 12 = .ok (.getfield 43, 3) := by decide +kernel
theorem dX1_copyFrom_15 : decode cX1_copyFrom 15 = .ok (.if_icmp .ge 24, 3) := by decide +kernel
theorem dX1_copyFrom_18 : decode cX1_copyFrom 18 = .ok (.aload_n 0, 1) := by decide +kernel
theorem dX1_copyFrom_19 : decode cX1_copyFrom 19 = .ok (.getfield 11, 3) := by decide +kernel
theorem dX1_copyFrom_22 : decode cX1_copyFrom 22 = .ok (.iload_n 2, 1) := by decide +kernel
theorem dX1_copyFrom_23 : decode cX1_copyFrom 23 = .ok (.aaload, 1) := by decide +kernel
theorem dX1_copyFrom_24 : decode cX1_copyFrom 24 = .ok (.aload_n 1, 1) := by decide +kernel
theorem dX1_copyFrom_25 : decode cX1_copyFrom 25 = .ok (.getfield 11, 3) := by decide +kernel
theorem dX1_copyFrom_28 : decode cX1_copyFrom 28 = .ok (.iload_n 2, 1) := by decide +kernel
theorem dX1_copyFrom_29 : decode cX1_copyFrom 29 = .ok (.aaload, 1) := by decide +kernel
theorem dX1_copyFrom_30 : decode cX1_copyFrom 30 = .ok (.invokevirtual 46, 3) := by decide +kernel
theorem dX1_copyFrom_33 : decode cX1_copyFrom 33 = .ok (.iinc 2 1, 3) := by decide +kernel
theorem dX1_copyFrom_36 : decode cX1_copyFrom 36 = .ok (.goto (-26), 3) := by decide +kernel
theorem dX1_copyFrom_39 : decode cX1_copyFrom 39 = .ok (.iconst 0, 1) := by decide +kernel
theorem dX1_copyFrom_40 : decode cX1_copyFrom 40 = .ok (.istore_n 2, 1) := by decide +kernel
theorem dX1_copyFrom_41 : decode cX1_copyFrom 41 = .ok (.iload_n 2, 1) := by decide +kernel
theorem dX1_copyFrom_42 : decode cX1_copyFrom 42 = .ok (.iconst 4, 1) := by decide +kernel
theorem dX1_copyFrom_43 : decode cX1_copyFrom 43 = .ok (.if_icmp .ge 24, 3) := by decide +kernel
theorem dX1_copyFrom_46 : decode cX1_copyFrom 46 = .ok (.aload_n 0, 1) := by decide +kernel
theorem dX1_copyFrom_47 : decode cX1_copyFrom 47 = .ok (.getfield 19, 3) := by decide +kernel
theorem dX1_copyFrom_50 : decode cX1_copyFrom 50 = .ok (.iload_n 2, 1) := by decide +kernel
theorem dX1_copyFrom_51 : decode cX1_copyFrom 51 = .ok (.aaload, 1) := by decide +kernel
theorem dX1_copyFrom_52 : decode cX1_copyFrom 52 = .ok (.aload_n 1, 1) := by decide +kernel
theorem dX1_copyFrom_53 : decode cX1_copyFrom 53 = .ok (.getfield 19, 3) := by decide +kernel
theorem dX1_copyFrom_56 : decode cX1_copyFrom 56 = .ok (.iload_n 2, 1) := by decide +kernel
theorem dX1_copyFrom_57 : decode cX1_copyFrom 57 = .ok (.aaload, 1) := by decide +kernel
theorem dX1_copyFrom_58 : decode cX1_copyFrom 58 = .ok (.invokevirtual 50, 3) := by decide +kernel
theorem dX1_copyFrom_61 : decode cX1_copyFrom 61 = .ok (.iinc 2 1, 3) := by decide +kernel
theorem dX1_copyFrom_64 : decode cX1_copyFrom 64 = .ok (.goto (-23), 3) := by decide +kernel
theorem dX1_copyFrom_67 : decode cX1_copyFrom 67 = .ok (.aload_n 0, 1) := by decide +kernel
theorem dX1_copyFrom_68 : decode cX1_copyFrom 68 = .ok (.aload_n 1, 1) := by decide +kernel
theorem dX1_copyFrom_69 : decode cX1_copyFrom 69 = .ok (.getfield 53, 3) := by decide +kernel
theorem dX1_copyFrom_72 : decode cX1_copyFrom 72 = .ok (.putfield 53, 3) := by decide +kernel
theorem dX1_copyFrom_75 : decode cX1_copyFrom 75 = .ok (.iconst 0, 1) := by decide +kernel
theorem dX1_copyFrom_76 : decode cX1_copyFrom 76 = .ok (.istore_n 2, 1) := by decide +kernel
theorem dX1_copyFrom_77 : decode cX1_copyFrom 77 = .ok (.iload_n 2, 1) := by decide +kernel
theorem dX1_copyFrom_78 : decode cX1_copyFrom 78 = .ok (.aload_n 0, 1) := by decide +kernel
theorem dX1_copyFrom_79 : decode cX1_copyFrom 79 = .ok (.getfield 53, 3) := by decide +kernel
theorem dX1_copyFrom_82 : decode cX1_copyFrom 82 = .ok (.if_icmp .ge 24, 3) := by decide +kernel
theorem dX1_copyFrom_85 : decode cX1_copyFrom 85 = .ok (.aload_n 0, 1) := by decide +kernel
theorem dX1_copyFrom_86 : decode cX1_copyFrom 86 = .ok (.getfield 25, 3) := by decide +kernel
theorem dX1_copyFrom_89 : decode cX1_copyFrom 89 = .ok (.iload_n 2, 1) := by decide +kernel
theorem dX1_copyFrom_90 : decode cX1_copyFrom 90 = .ok (.aaload, 1) := by decide +kernel
theorem dX1_copyFrom_91 : decode cX1_copyFrom 91 = .ok (.aload_n 1, 1) := by decide +kernel
theorem dX1_copyFrom_92 : decode cX1_copyFrom 92 = .ok (.getfield 25, 3) := by decide +kernel
theorem dX1_copyFrom_95 : decode cX1_copyFrom 95 = .ok (.iload_n 2, 1) := by decide +kernel
theorem dX1_copyFrom_96 : decode cX1_copyFrom 96 = .ok (.aaload, 1) := by decide +kernel
theorem dX1_copyFrom_97 : decode cX1_copyFrom 97 = .ok (.invokevirtual 56, 3) := by decide +kernel
theorem dX1_copyFrom_100 : decode cX1_copyFrom 100 = .ok (.iinc 2 1, 3) := by decide +kernel
theorem dX1_copyFrom_103 : decode cX1_copyFrom 103 = .ok (.goto (-26), 3) := by decide +kernel
theorem dX1_copyFrom_106 : decode cX1_copyFrom 106 = .ok (.aload_n 0, 1) := by decide +kernel
theorem dX1_copyFrom_107 : decode cX1_copyFrom 107 = .ok (.aload_n 1, 1) := by decide +kernel
theorem dX1_copyFrom_108 : decode cX1_copyFrom 108 = .ok (.getfield 29, 3) := by decide +kernel
theorem dX1_copyFrom_111 : decode cX1_copyFrom 111 = .ok (.putfield 29, 3) := by decide +kernel
theorem dX1_copyFrom_114 : decode cX1_copyFrom 114 = .ok (.aload_n 0, 1) := by decide +kernel
theorem dX1_copyFrom_115 : decode cX1_copyFrom 115 = .ok (.aload_n 1, 1) := by decide +kernel
theorem dX1_copyFrom_116 : decode cX1_copyFrom 116 = .ok (.getfield 59, 3) := by decide +kernel
theorem dX1_copyFrom_119 : decode cX1_copyFrom 119 = .ok (.putfield 59, 3) := by decide +kernel
theorem dX1_copyFrom_122 : decode cX1_copyFrom 122 = .ok (.aload_n 0, 1) := by decide +kernel
theorem dX1_copyFrom_123 : decode cX1_copyFrom 123 = .ok (.aload_n 1, 1) := by decide +kernel
theorem dX1_copyFrom_124 : decode cX1_copyFrom 124 = .ok (.getfield 62, 3) := by decide +kernel
theorem dX1_copyFrom_127 : decode cX1_copyFrom 127 = .ok (.putfield 62, 3) := by decide +kernel
theorem dX1_copyFrom_130 : decode cX1_copyFrom 130 = .ok (.aload_n 0, 1) := by decide +kernel
theorem dX1_copyFrom_131 : decode cX1_copyFrom 131 = .ok (.aload_n 1, 1) := by decide +kernel
theorem dX1_copyFrom_132 : decode cX1_copyFrom 132 = .ok (.getfield 65, 3) := by decide +kernel
theorem dX1_copyFrom_135 : decode cX1_copyFrom 135 = .ok (.putfield 65, 3) := by decide +kernel
theorem dX1_copyFrom_138 : decode cX1_copyFrom 138 = .ok (.aload_n 0, 1) := by decide +kernel
theorem dX1_copyFrom_139 : decode cX1_copyFrom 139 = .ok (.aload_n 1, 1) := by decide +kernel
theorem dX1_copyFrom_140 : decode cX1_copyFrom 140 = .ok (.getfield 68, 3) := by decide +kernel
theorem dX1_copyFrom_143 : decode cX1_copyFrom 143 = .ok (.putfield 68, 3) := by decide +kernel
theorem dX1_copyFrom_146 : decode cX1_copyFrom 146 = .ok (.aload_n 0, 1) := by decide +kernel
theorem dX1_copyFrom_147 : decode cX1_copyFrom 147 = .ok (.aload_n 1, 1) := by decide +kernel
theorem dX1_copyFrom_148 : decode cX1_copyFrom 148 = .ok (.getfield 71, 3) := by decide +kernel
theorem dX1_copyFrom_151 : decode cX1_copyFrom 151 = .ok (.putfield 71, 3) := by decide +kernel
theorem dX1_copyFrom_154 : decode cX1_copyFrom 154 = .ok (.aload_n 0, 1) := by decide +kernel
theorem dX1_copyFrom_155 : decode cX1_copyFrom 155 = .ok (.aload_n 1, 1) := by decide +kernel
theorem dX1_copyFrom_156 : decode cX1_copyFrom 156 = .ok (.getfield 74, 3) := by decide +kernel
theorem dX1_copyFrom_159 : decode cX1_copyFrom 159 = .ok (.putfield 74, 3) := by decide +kernel
theorem dX1_copyFrom_162 : decode cX1_copyFrom 162 = .ok (.aload_n 0, 1) := by decide +kernel
theorem dX1_copyFrom_163 : decode cX1_copyFrom 163 = .ok (.aload_n 1, 1) := by decide +kernel
theorem dX1_copyFrom_164 : decode cX1_copyFrom 164 = .ok (.getfield 77, 3) := by decide +kernel
theorem dX1_copyFrom_167 : decode cX1_copyFrom 167 = .ok (.putfield 77, 3) := by decide +kernel
theorem dX1_copyFrom_170 : decode cX1_copyFrom 170 = .ok (.aload_n 0, 1) := by decide +kernel
theorem dX1_copyFrom_171 : decode cX1_copyFrom 171 = .ok (.aload_n 1, 1) := by decide +kernel
theorem dX1_copyFrom_172 : decode cX1_copyFrom 172 = .ok (.getfield 80, 3) := by decide +kernel
theorem dX1_copyFrom_175 : decode cX1_copyFrom 175 = .ok (.putfield 80, 3) := by decide +kernel
theorem dX1_copyFrom_178 : decode cX1_copyFrom 178 = .ok (.aload_n 0, 1) := by decide +kernel
theorem dX1_copyFrom_179 : decode cX1_copyFrom 179 = .ok (.aload_n 1, 1) := by decide +kernel
theorem dX1_copyFrom_180 : decode cX1_copyFrom 180 = .ok (.getfield 83, 3) := by decide +kernel
theorem dX1_copyFrom_183 : decode cX1_copyFrom 183 = .ok (.putfield 83, 3) := by decide +kernel
theorem dX1_copyFrom_186 : decode cX1_copyFrom 186 = .ok (.return_, 1) := by decide +kernel
theorem dX1_hasBackend_0 : decode cX1_hasBackend 0 = .ok (.iload_n 1, 1) := by decide +kernel
theorem dX1_hasBackend_1 : decode cX1_hasBackend 1 = .ok (.iconst 0, 1) := by decide +kernel
theorem dX1_hasBackend_2 : decode cX1_hasBackend 2 = .ok (.aload_n 0, 1) := by decide +kernel
theorem dX1_hasBackend_3 : decode cX1_hasBackend 3 = .ok (.getfield 43, 3) := by decide +kernel
theorem dX1_hasBackend_6 : decode cX1_hasBackend 6 = .ok (.iconst 1, 1) := by decide +kernel
theorem dX1_hasBackend_7 : decode cX1_hasBackend 7 = .ok (.isub, 1) := by decide +kernel
theorem dX1_hasBackend_8 : decode cX1_hasBackend 8 = .ok (.invokestatic 86, 3) := by decide +kernel
theorem dX1_hasBackend_11 : decode cX1_hasBackend 11 = .ok (.ireturn, 1) := by decide +kernel
theorem dX1_hasRule_0 : decode cX1_hasRule 0 = .ok (.iload_n 1, 1) := by decide +kernel
theorem dX1_hasRule_1 : decode cX1_hasRule 1 = .ok (.iconst 0, 1) := by decide +kernel
theorem dX1_hasRule_2 : decode cX1_hasRule 2 = .ok (.aload_n 0, 1) := by decide +kernel
theorem dX1_hasRule_3 : decode cX1_hasRule 3 = .ok (.getfield 53, 3) := by decide +kernel
theorem dX1_hasRule_6 : decode cX1_hasRule 6 = .ok (.iconst 1, 1) := by decide +kernel
theorem dX1_hasRule_7 : decode cX1_hasRule 7 = .ok (.isub, 1) := by decide +kernel
theorem dX1_hasRule_8 : decode cX1_hasRule 8 = .ok (.invokestatic 86, 3) := by decide +kernel
theorem dX1_hasRule_11 : decode cX1_hasRule 11 = .ok (.ireturn, 1) := by decide +kernel
theorem dX1_takeBackend_0 : decode cX1_takeBackend 0 = .ok (.aload_n 0, 1) := by decide +kernel
theorem dX1_takeBackend_1 : decode cX1_takeBackend 1 = .ok (.getfield 11, 3) := by decide +kernel
theorem dX1_takeBackend_4 : decode cX1_takeBackend 4 = .ok (.aload_n 0, 1) := by decide +kernel
theorem dX1_takeBackend_5 : decode cX1_takeBackend 5 = .ok (.getfield 43, 3) := by decide +kernel
theorem dX1_takeBackend_8 : decode cX1_takeBackend 8 = .ok (.aaload, 1) := by decide +kernel
theorem dX1_takeBackend_9 : decode cX1_takeBackend 9 = .ok (.iload_n 1, 1) := by decide +kernel
theorem dX1_takeBackend_10 : decode cX1_takeBackend 10 = .ok (.iload_n 2, 1) := by decide +kernel
theorem dX1_takeBackend_11 : decode cX1_takeBackend 11 = .ok (.iload_n 3, 1) := by decide +kernel
theorem dX1_takeBackend_12 : decode cX1_takeBackend 12 = .ok (.invokevirtual 90, 3) := by decide +kernel
theorem dX1_takeBackend_15 : decode cX1_takeBackend 15 = .ok (.aload_n 0, 1) := by decide +kernel
theorem dX1_takeBackend_16 : decode cX1_takeBackend 16 = .ok (.dup, 1) := by decide +kernel
theorem dX1_takeBackend_17 : decode cX1_takeBackend 17 = .ok (.getfield 43, 3) := by decide +kernel
theorem dX1_takeBackend_20 : decode cX1_takeBackend 20 = .ok (.iconst 1, 1) := by decide +kernel
theorem dX1_takeBackend_21 : decode cX1_takeBackend 21 = .ok (.iadd, 1) := by decide +kernel
theorem dX1_takeBackend_22 : decode cX1_takeBackend 22 = .ok (.putfield 43, 3) := by decide +kernel
theorem dX1_takeBackend_25 : decode cX1_takeBackend 25 = .ok (.aload_n 0, 1) := by decide +kernel
theorem dX1_takeBackend_26 : decode cX1_takeBackend 26 = .ok (.getfield 43, 3) := by decide +kernel
theorem dX1_takeBackend_29 : decode cX1_takeBackend 29 = .ok (.iconst 1, 1) := by decide +kernel
theorem dX1_takeBackend_30 : decode cX1_takeBackend 30 = .ok (.isub, 1) := by decide +kernel
theorem dX1_takeBackend_31 : decode cX1_takeBackend 31 = .ok (.ireturn, 1) := by decide +kernel
theorem dX1_takeRule_0 : decode cX1_takeRule 0 = .ok (.aload_n 0, 1) := by decide +kernel
theorem dX1_takeRule_1 : decode cX1_takeRule 1 = .ok (.getfield 25, 3) := by decide +kernel
theorem dX1_takeRule_4 : decode cX1_takeRule 4 = .ok (.aload_n 0, 1) := by decide +kernel
theorem dX1_takeRule_5 : decode cX1_takeRule 5 = .ok (.getfield 53, 3) := by decide +kernel
theorem dX1_takeRule_8 : decode cX1_takeRule 8 = .ok (.aaload, 1) := by decide +kernel
theorem dX1_takeRule_9 : decode cX1_takeRule 9 = .ok (.aload_n 1, 1) := by decide +kernel
theorem dX1_takeRule_10 : decode cX1_takeRule 10 = .ok (.invokevirtual 56, 3) := by decide +kernel
theorem dX1_takeRule_13 : decode cX1_takeRule 13 = .ok (.aload_n 0, 1) := by decide +kernel
theorem dX1_takeRule_14 : decode cX1_takeRule 14 = .ok (.dup, 1) := by decide +kernel
theorem dX1_takeRule_15 : decode cX1_takeRule 15 = .ok (.getfield 53, 3) := by decide +kernel
theorem dX1_takeRule_18 : decode cX1_takeRule 18 = .ok (.iconst 1, 1) := by decide +kernel
theorem dX1_takeRule_19 : decode cX1_takeRule 19 = .ok (.iadd, 1) := by decide +kernel
theorem dX1_takeRule_20 : decode cX1_takeRule 20 = .ok (.putfield 53, 3) := by decide +kernel
theorem dX1_takeRule_23 : decode cX1_takeRule 23 = .ok (.aload_n 0, 1) := by decide +kernel
theorem dX1_takeRule_24 : decode cX1_takeRule 24 = .ok (.getfield 53, 3) := by decide +kernel
theorem dX1_takeRule_27 : decode cX1_takeRule 27 = .ok (.iconst 1, 1) := by decide +kernel
theorem dX1_takeRule_28 : decode cX1_takeRule 28 = .ok (.isub, 1) := by decide +kernel
theorem dX1_takeRule_29 : decode cX1_takeRule 29 = .ok (.ireturn, 1) := by decide +kernel
theorem dX1_shiftRule_0 : decode cX1_shiftRule 0 = .ok (.aload_n 0, 1) := by decide +kernel
theorem dX1_shiftRule_1 : decode cX1_shiftRule 1 = .ok (.getfield 25, 3) := by decide +kernel
theorem dX1_shiftRule_4 : decode cX1_shiftRule 4 = .ok (.iload_n 1, 1) := by decide +kernel
theorem dX1_shiftRule_5 : decode cX1_shiftRule 5 = .ok (.aaload, 1) := by decide +kernel
theorem dX1_shiftRule_6 : decode cX1_shiftRule 6 = .ok (.astore_n 3, 1) := by decide +kernel
theorem dX1_shiftRule_7 : decode cX1_shiftRule 7 = .ok (.iload_n 1, 1) := by decide +kernel
theorem dX1_shiftRule_8 : decode cX1_shiftRule 8 = .ok (.istore 4, 2) := by decide +kernel
theorem dX1_shiftRule_10 : decode cX1_shiftRule 10 = .ok (.iload 4, 2) := by decide +kernel
theorem dX1_shiftRule_12 : decode cX1_shiftRule 12 = .ok (.iload_n 2, 1) := by decide +kernel
theorem dX1_shiftRule_13 : decode cX1_shiftRule 13 = .ok (.if_icmp .ge 25, 3) := by decide +kernel
theorem dX1_shiftRule_16 : decode cX1_shiftRule 16 = .ok (.aload_n 0, 1) := by decide +kernel
theorem dX1_shiftRule_17 : decode cX1_shiftRule 17 = .ok (.getfield 25, 3) := by decide +kernel
theorem dX1_shiftRule_20 : decode cX1_shiftRule 20 = .ok (.iload 4, 2) := by decide +kernel
theorem dX1_shiftRule_22 : decode cX1_shiftRule 22 = .ok (.aload_n 0, 1) := by decide +kernel
theorem dX1_shiftRule_23 : decode cX1_shiftRule 23 = .ok (.getfield 25, 3) := by decide +kernel
theorem dX1_shiftRule_26 : decode cX1_shiftRule 26 = .ok (.iload 4, 2) := by decide +kernel
theorem dX1_shiftRule_28 : decode cX1_shiftRule 28 = .ok (.iconst 1, 1) := by decide +kernel
theorem dX1_shiftRule_29 : decode cX1_shiftRule 29 = .ok (.iadd, 1) := by decide +kernel
theorem dX1_shiftRule_30 : decode cX1_shiftRule 30 = .ok (.aaload, 1) := by decide +kernel
theorem dX1_shiftRule_31 : decode cX1_shiftRule 31 = .ok (.aastore, 1) := by decide +kernel
theorem dX1_shiftRule_32 : decode cX1_shiftRule 32 = .ok (.iinc 4 1, 3) := by decide +kernel
theorem dX1_shiftRule_35 : decode cX1_shiftRule 35 = .ok (.goto (-25), 3) := by decide +kernel
theorem dX1_shiftRule_38 : decode cX1_shiftRule 38 = .ok (.iload_n 1, 1) := by decide +kernel
theorem dX1_shiftRule_39 : decode cX1_shiftRule 39 = .ok (.istore 4, 2) := by decide +kernel
theorem dX1_shiftRule_41 : decode cX1_shiftRule 41 = .ok (.iload 4, 2) := by decide +kernel
theorem dX1_shiftRule_43 : decode cX1_shiftRule 43 = .ok (.iload_n 2, 1) := by decide +kernel
theorem dX1_shiftRule_44 : decode cX1_shiftRule 44 = .ok (.if_icmp .le 25, 3) := by decide +kernel
theorem dX1_shiftRule_47 : decode cX1_shiftRule 47 = .ok (.aload_n 0, 1) := by decide +kernel
theorem dX1_shiftRule_48 : decode cX1_shiftRule 48 = .ok (.getfield 25, 3) := by decide +kernel
theorem dX1_shiftRule_51 : decode cX1_shiftRule 51 = .ok (.iload 4, 2) := by decide +kernel
theorem dX1_shiftRule_53 : decode cX1_shiftRule 53 = .ok (.aload_n 0, 1) := by decide +kernel
theorem dX1_shiftRule_54 : decode cX1_shiftRule 54 = .ok (.getfield 25, 3) := by decide +kernel
theorem dX1_shiftRule_57 : decode cX1_shiftRule 57 = .ok (.iload 4, 2) := by decide +kernel
theorem dX1_shiftRule_59 : decode cX1_shiftRule 59 = .ok (.iconst 1, 1) := by decide +kernel
theorem dX1_shiftRule_60 : decode cX1_shiftRule 60 = .ok (.isub, 1) := by decide +kernel
theorem dX1_shiftRule_61 : decode cX1_shiftRule 61 = .ok (.aaload, 1) := by decide +kernel
theorem dX1_shiftRule_62 : decode cX1_shiftRule 62 = .ok (.aastore, 1) := by decide +kernel
theorem dX1_shiftRule_63 : decode cX1_shiftRule 63 = .ok (.iinc 4 (-1), 3) := by decide +kernel
theorem dX1_shiftRule_66 : decode cX1_shiftRule 66 = .ok (.goto (-25), 3) := by decide +kernel
theorem dX1_shiftRule_69 : decode cX1_shiftRule 69 = .ok (.aload_n 0, 1) := by decide +kernel
theorem dX1_shiftRule_70 : decode cX1_shiftRule 70 = .ok (.getfield 25, 3) := by decide +kernel
theorem dX1_shiftRule_73 : decode cX1_shiftRule 73 = .ok (.iload_n 2, 1) := by decide +kernel
theorem dX1_shiftRule_74 : decode cX1_shiftRule 74 = .ok (.aload_n 3, 1) := by decide +kernel
theorem dX1_shiftRule_75 : decode cX1_shiftRule 75 = .ok (.aastore, 1) := by decide +kernel
theorem dX1_shiftRule_76 : decode cX1_shiftRule 76 = .ok (.return_, 1) := by decide +kernel
theorem dX1_findRule_0 : decode cX1_findRule 0 = .ok (.iconst 0, 1) := by decide +kernel
theorem dX1_findRule_1 : decode cX1_findRule 1 = .ok (.istore_n 3, 1) := by decide +kernel
theorem dX1_findRule_2 : decode cX1_findRule 2 = .ok (.iload_n 3, 1) := by decide +kernel
theorem dX1_findRule_3 : decode cX1_findRule 3 = .ok (.aload_n 0, 1) := by decide +kernel
theorem dX1_findRule_4 : decode cX1_findRule 4 = .ok (.getfield 53, 3) := by decide +kernel
theorem dX1_findRule_7 : decode cX1_findRule 7 = .ok (.if_icmp .ge 25, 3) := by decide +kernel
theorem dX1_findRule_10 : decode cX1_findRule 10 = .ok (.aload_n 0, 1) := by decide +kernel
theorem dX1_findRule_11 : decode cX1_findRule 11 = .ok (.getfield 25, 3) := by decide +kernel
theorem dX1_findRule_14 : decode cX1_findRule 14 = .ok (.iload_n 3, 1) := by decide +kernel
theorem dX1_findRule_15 : decode cX1_findRule 15 = .ok (.aaload, 1) := by decide +kernel
theorem dX1_findRule_16 : decode cX1_findRule 16 = .ok (.aload_n 1, 1) := by decide +kernel
theorem dX1_findRule_17 : decode cX1_findRule 17 = .ok (.iload_n 2, 1) := by decide +kernel
theorem dX1_findRule_18 : decode cX1_findRule 18 = .ok (.invokevirtual 94, 3) := by decide +kernel
theorem dX1_findRule_21 : decode cX1_findRule 21 = .ok (.ifCond .eq 5, 3) := by decide +kernel
theorem dX1_findRule_24 : decode cX1_findRule 24 = .ok (.iload_n 3, 1) := by decide +kernel
theorem dX1_findRule_25 : decode cX1_findRule 25 = .ok (.ireturn, 1) := by decide +kernel
theorem dX1_findRule_26 : decode cX1_findRule 26 = .ok (.iinc 3 1, 3) := by decide +kernel
theorem dX1_findRule_29 : decode cX1_findRule 29 = .ok (.goto (-27), 3) := by decide +kernel
theorem dX1_findRule_32 : decode cX1_findRule 32 = .ok (.iconst (-1), 1) := by decide +kernel
theorem dX1_findRule_33 : decode cX1_findRule 33 = .ok (.ireturn, 1) := by decide +kernel
theorem dX1_passTick_0 : decode cX1_passTick 0 = .ok (.aload_n 0, 1) := by decide +kernel
theorem dX1_passTick_1 : decode cX1_passTick 1 = .ok (.dup, 1) := by decide +kernel
theorem dX1_passTick_2 : decode cX1_passTick 2 = .ok (.getfield 59, 3) := by decide +kernel
theorem dX1_passTick_5 : decode cX1_passTick 5 = .ok (.iconst 1, 1) := by decide +kernel
theorem dX1_passTick_6 : decode cX1_passTick 6 = .ok (.iadd, 1) := by decide +kernel
theorem dX1_passTick_7 : decode cX1_passTick 7 = .ok (.putfield 59, 3) := by decide +kernel
theorem dX1_passTick_10 : decode cX1_passTick 10 = .ok (.iconst 0, 1) := by decide +kernel
theorem dX1_passTick_11 : decode cX1_passTick 11 = .ok (.istore_n 1, 1) := by decide +kernel
theorem dX1_passTick_12 : decode cX1_passTick 12 = .ok (.iload_n 1, 1) := by decide +kernel
theorem dX1_passTick_13 : decode cX1_passTick 13 = .ok (.aload_n 0, 1) := by decide +kernel
theorem dX1_passTick_14 : decode cX1_passTick 14 = .ok (.getfield 43, 3) := by decide +kernel
theorem dX1_passTick_17 : decode cX1_passTick 17 = .ok (.if_icmp .ge 36, 3) := by decide +kernel
theorem dX1_passTick_20 : decode cX1_passTick 20 = .ok (.aload_n 0, 1) := by decide +kernel
theorem dX1_passTick_21 : decode cX1_passTick 21 = .ok (.getfield 11, 3) := by decide +kernel
theorem dX1_passTick_24 : decode cX1_passTick 24 = .ok (.iload_n 1, 1) := by decide +kernel
theorem dX1_passTick_25 : decode cX1_passTick 25 = .ok (.aaload, 1) := by decide +kernel
theorem dX1_passTick_26 : decode cX1_passTick 26 = .ok (.getfield 98, 3) := by decide +kernel
theorem dX1_passTick_29 : decode cX1_passTick 29 = .ok (.ifCond .le 18, 3) := by decide +kernel
theorem dX1_passTick_32 : decode cX1_passTick 32 = .ok (.aload_n 0, 1) := by decide +kernel
theorem dX1_passTick_33 : decode cX1_passTick 33 = .ok (.getfield 11, 3) := by decide +kernel
theorem dX1_passTick_36 : decode cX1_passTick 36 = .ok (.iload_n 1, 1) := by decide +kernel
theorem dX1_passTick_37 : decode cX1_passTick 37 = .ok (.aaload, 1) := by decide +kernel
theorem dX1_passTick_38 : decode cX1_passTick 38 = .ok (.dup, 1) := by decide +kernel
theorem dX1_passTick_39 : decode cX1_passTick 39 = .ok (.getfield 98, 3) := by decide +kernel
theorem dX1_passTick_42 : decode cX1_passTick 42 = .ok (.iconst 1, 1) := by decide +kernel
theorem dX1_passTick_43 : decode cX1_passTick 43 = .ok (.isub, 1) := by decide +kernel
theorem dX1_passTick_44 : decode cX1_passTick 44 = .ok (.putfield 98, 3) := by decide +kernel
theorem dX1_passTick_47 : decode cX1_passTick 47 = .ok (.iinc 1 1, 3) := by decide +kernel
theorem dX1_passTick_50 : decode cX1_passTick 50 = .ok (.goto (-38), 3) := by decide +kernel
theorem dX1_passTick_53 : decode cX1_passTick 53 = .ok (.return_, 1) := by decide +kernel
theorem dX1_impose_0 : decode cX1_impose 0 = .ok (.iload_n 1, 1) := by decide +kernel
theorem dX1_impose_1 : decode cX1_impose 1 = .ok (.iconst 4, 1) := by decide +kernel
theorem dX1_impose_2 : decode cX1_impose 2 = .ok (.if_icmp .ne 8, 3) := by decide +kernel
theorem dX1_impose_5 : decode cX1_impose 5 = .ok (.aload_n 0, 1) := by decide +kernel
theorem dX1_impose_6 : decode cX1_impose 6 = .ok (.iconst 1, 1) := by decide +kernel
theorem dX1_impose_7 : decode cX1_impose 7 = .ok (.putfield 29, 3) := by decide +kernel
theorem dX1_impose_10 : decode cX1_impose 10 = .ok (.iconst 0, 1) := by decide +kernel
theorem dX1_impose_11 : decode cX1_impose 11 = .ok (.istore_n 2, 1) := by decide +kernel
theorem dX1_impose_12 : decode cX1_impose 12 = .ok (.iload_n 2, 1) := by decide +kernel
theorem dX1_impose_13 : decode cX1_impose 13 = .ok (.aload_n 0, 1) := by decide +kernel
theorem dX1_impose_14 : decode cX1_impose 14 = .ok (.getfield 53, 3) := by decide +kernel
theorem dX1_impose_17 : decode cX1_impose 17 = .ok (.if_icmp .ge 41, 3) := by decide +kernel
theorem dX1_impose_20 : decode cX1_impose 20 = .ok (.iload_n 1, 1) := by decide +kernel
theorem dX1_impose_21 : decode cX1_impose 21 = .ok (.ifCond .ne 16, 3) := by decide +kernel
theorem dX1_impose_24 : decode cX1_impose 24 = .ok (.aload_n 0, 1) := by decide +kernel
theorem dX1_impose_25 : decode cX1_impose 25 = .ok (.getfield 25, 3) := by decide +kernel
theorem dX1_impose_28 : decode cX1_impose 28 = .ok (.iload_n 2, 1) := by decide +kernel
theorem dX1_impose_29 : decode cX1_impose 29 = .ok (.aaload, 1) := by decide +kernel
theorem dX1_impose_30 : decode cX1_impose 30 = .ok (.iconst (-1), 1) := by decide +kernel
theorem dX1_impose_31 : decode cX1_impose 31 = .ok (.putfield 101, 3) := by decide +kernel
theorem dX1_impose_34 : decode cX1_impose 34 = .ok (.goto 18, 3) := by decide +kernel
theorem dX1_impose_37 : decode cX1_impose 37 = .ok (.iload_n 1, 1) := by decide +kernel
theorem dX1_impose_38 : decode cX1_impose 38 = .ok (.iconst 1, 1) := by decide +kernel
theorem dX1_impose_39 : decode cX1_impose 39 = .ok (.if_icmp .ne 13, 3) := by decide +kernel
theorem dX1_impose_42 : decode cX1_impose 42 = .ok (.aload_n 0, 1) := by decide +kernel
theorem dX1_impose_43 : decode cX1_impose 43 = .ok (.getfield 25, 3) := by decide +kernel
theorem dX1_impose_46 : decode cX1_impose 46 = .ok (.iload_n 2, 1) := by decide +kernel
theorem dX1_impose_47 : decode cX1_impose 47 = .ok (.aaload, 1) := by decide +kernel
theorem dX1_impose_48 : decode cX1_impose 48 = .ok (.iconst 1, 1) := by decide +kernel
theorem dX1_impose_49 : decode cX1_impose 49 = .ok (.putfield 104, 3) := by decide +kernel
theorem dX1_impose_52 : decode cX1_impose 52 = .ok (.iinc 2 1, 3) := by decide +kernel
theorem dX1_impose_55 : decode cX1_impose 55 = .ok (.goto (-43), 3) := by decide +kernel
theorem dX1_impose_58 : decode cX1_impose 58 = .ok (.iconst 0, 1) := by decide +kernel
theorem dX1_impose_59 : decode cX1_impose 59 = .ok (.istore_n 2, 1) := by decide +kernel
theorem dX1_impose_60 : decode cX1_impose 60 = .ok (.iload_n 2, 1) := by decide +kernel
theorem dX1_impose_61 : decode cX1_impose 61 = .ok (.iconst 4, 1) := by decide +kernel
theorem dX1_impose_62 : decode cX1_impose 62 = .ok (.if_icmp .ge 43, 3) := by decide +kernel
theorem dX1_impose_65 : decode cX1_impose 65 = .ok (.iload_n 1, 1) := by decide +kernel
theorem dX1_impose_66 : decode cX1_impose 66 = .ok (.iconst 2, 1) := by decide +kernel
theorem dX1_impose_67 : decode cX1_impose 67 = .ok (.if_icmp .ne 17, 3) := by decide +kernel
theorem dX1_impose_70 : decode cX1_impose 70 = .ok (.aload_n 0, 1) := by decide +kernel
theorem dX1_impose_71 : decode cX1_impose 71 = .ok (.getfield 19, 3) := by decide +kernel
theorem dX1_impose_74 : decode cX1_impose 74 = .ok (.iload_n 2, 1) := by decide +kernel
theorem dX1_impose_75 : decode cX1_impose 75 = .ok (.aaload, 1) := by decide +kernel
theorem dX1_impose_76 : decode cX1_impose 76 = .ok (.ldc 107, 2) := by decide +kernel
theorem dX1_impose_78 : decode cX1_impose 78 = .ok (.putfield 108, 3) := by decide +kernel
theorem dX1_impose_81 : decode cX1_impose 81 = .ok (.goto 18, 3) := by decide +kernel
theorem dX1_impose_84 : decode cX1_impose 84 = .ok (.iload_n 1, 1) := by decide +kernel
theorem dX1_impose_85 : decode cX1_impose 85 = .ok (.iconst 3, 1) := by decide +kernel
theorem dX1_impose_86 : decode cX1_impose 86 = .ok (.if_icmp .ne 13, 3) := by decide +kernel
theorem dX1_impose_89 : decode cX1_impose 89 = .ok (.aload_n 0, 1) := by decide +kernel
theorem dX1_impose_90 : decode cX1_impose 90 = .ok (.getfield 19, 3) := by decide +kernel
theorem dX1_impose_93 : decode cX1_impose 93 = .ok (.iload_n 2, 1) := by decide +kernel
theorem dX1_impose_94 : decode cX1_impose 94 = .ok (.aaload, 1) := by decide +kernel
theorem dX1_impose_95 : decode cX1_impose 95 = .ok (.iconst 0, 1) := by decide +kernel
theorem dX1_impose_96 : decode cX1_impose 96 = .ok (.putfield 111, 3) := by decide +kernel
theorem dX1_impose_99 : decode cX1_impose 99 = .ok (.iinc 2 1, 3) := by decide +kernel
theorem dX1_impose_102 : decode cX1_impose 102 = .ok (.goto (-42), 3) := by decide +kernel
theorem dX1_impose_105 : decode cX1_impose 105 = .ok (.return_, 1) := by decide +kernel
theorem dX1_answer_0 : decode cX1_answer 0 = .ok (.aload_n 0, 1) := by decide +kernel
theorem dX1_answer_1 : decode cX1_answer 1 = .ok (.getfield 36, 3) := by decide +kernel
theorem dX1_answer_4 : decode cX1_answer 4 = .ok (.iconst 0, 1) := by decide +kernel
theorem dX1_answer_5 : decode cX1_answer 5 = .ok (.putfield 114, 3) := by decide +kernel
theorem dX1_answer_8 : decode cX1_answer 8 = .ok (.bipush (-4), 2) := by decide +kernel
theorem dX1_answer_10 : decode cX1_answer 10 = .ok (.istore 4, 2) := by decide +kernel
theorem dX1_answer_12 : decode cX1_answer 12 = .ok (.aload_n 0, 1) := by decide +kernel
theorem dX1_answer_13 : decode cX1_answer 13 = .ok (.iload_n 1, 1) := by decide +kernel
theorem dX1_answer_14 : decode cX1_answer 14 = .ok (.invokevirtual 117, 3) := by decide +kernel
theorem dX1_answer_17 : decode cX1_answer 17 = .ok (.ifCond .eq 58, 3) := by decide +kernel
theorem dX1_answer_20 : decode cX1_answer 20 = .ok (.aload_n 0, 1) := by decide +kernel
theorem dX1_answer_21 : decode cX1_answer 21 = .ok (.aload_n 0, 1) := by decide +kernel
theorem dX1_answer_22 : decode cX1_answer 22 = .ok (.getfield 25, 3) := by decide +kernel
theorem dX1_answer_25 : decode cX1_answer 25 = .ok (.iload_n 1, 1) := by decide +kernel
theorem dX1_answer_26 : decode cX1_answer 26 = .ok (.aaload, 1) := by decide +kernel
theorem dX1_answer_27 : decode cX1_answer 27 = .ok (.invokevirtual 121, 3) := by decide +kernel
theorem dX1_answer_30 : decode cX1_answer 30 = .ok (.istore 5, 2) := by decide +kernel
theorem dX1_answer_32 : decode cX1_answer 32 = .ok (.iload 5, 2) := by decide +kernel
theorem dX1_answer_34 : decode cX1_answer 34 = .ok (.iconst (-1), 1) := by decide +kernel
theorem dX1_answer_35 : decode cX1_answer 35 = .ok (.if_icmp .ne 8, 3) := by decide +kernel
theorem dX1_answer_38 : decode cX1_answer 38 = .ok (.bipush (-5), 2) := by decide +kernel
theorem dX1_answer_40 : decode cX1_answer 40 = .ok (.goto 20, 3) := by decide +kernel
theorem dX1_answer_43 : decode cX1_answer 43 = .ok (.aload_n 0, 1) := by decide +kernel
theorem dX1_answer_44 : decode cX1_answer 44 = .ok (.iload 5, 2) := by decide +kernel
theorem dX1_answer_46 : decode cX1_answer 46 = .ok (.aload_n 0, 1) := by decide +kernel
theorem dX1_answer_47 : decode cX1_answer 47 = .ok (.getfield 25, 3) := by decide +kernel
theorem dX1_answer_50 : decode cX1_answer 50 = .ok (.iload_n 1, 1) := by decide +kernel
theorem dX1_answer_51 : decode cX1_answer 51 = .ok (.aaload, 1) := by decide +kernel
theorem dX1_answer_52 : decode cX1_answer 52 = .ok (.getfield 104, 3) := by decide +kernel
theorem dX1_answer_55 : decode cX1_answer 55 = .ok (.iload_n 2, 1) := by decide +kernel
theorem dX1_answer_56 : decode cX1_answer 56 = .ok (.iload_n 3, 1) := by decide +kernel
theorem dX1_answer_57 : decode cX1_answer 57 = .ok (.invokevirtual 125, 3) := by decide +kernel
theorem dX1_answer_60 : decode cX1_answer 60 = .ok (.istore 4, 2) := by decide +kernel
theorem dX1_answer_62 : decode cX1_answer 62 = .ok (.aload_n 0, 1) := by decide +kernel
theorem dX1_answer_63 : decode cX1_answer 63 = .ok (.aload_n 0, 1) := by decide +kernel
theorem dX1_answer_64 : decode cX1_answer 64 = .ok (.getfield 25, 3) := by decide +kernel
theorem dX1_answer_67 : decode cX1_answer 67 = .ok (.iload_n 1, 1) := by decide +kernel
theorem dX1_answer_68 : decode cX1_answer 68 = .ok (.aaload, 1) := by decide +kernel
theorem dX1_answer_69 : decode cX1_answer 69 = .ok (.getfield 101, 3) := by decide +kernel
theorem dX1_answer_72 : decode cX1_answer 72 = .ok (.invokevirtual 129, 3) := by decide +kernel
theorem dX1_answer_75 : decode cX1_answer 75 = .ok (.aload_n 0, 1) := by decide +kernel
theorem dX1_answer_76 : decode cX1_answer 76 = .ok (.iload 4, 2) := by decide +kernel
theorem dX1_answer_78 : decode cX1_answer 78 = .ok (.invokevirtual 133, 3) := by decide +kernel
theorem dX1_answer_81 : decode cX1_answer 81 = .ok (.iload 4, 2) := by decide +kernel
theorem dX1_answer_83 : decode cX1_answer 83 = .ok (.ireturn, 1) := by decide +kernel
theorem dX1_tally_0 : decode cX1_tally 0 = .ok (.aload_n 0, 1) := by decide +kernel
theorem dX1_tally_1 : decode cX1_tally 1 = .ok (.dup, 1) := by decide +kernel
theorem dX1_tally_2 : decode cX1_tally 2 = .ok (.getfield 62, 3) := by decide +kernel
theorem dX1_tally_5 : decode cX1_tally 5 = .ok (.iconst 1, 1) := by decide +kernel
theorem dX1_tally_6 : decode cX1_tally 6 = .ok (.iadd, 1) := by decide +kernel
theorem dX1_tally_7 : decode cX1_tally 7 = .ok (.putfield 62, 3) := by decide +kernel
theorem dX1_tally_10 : decode cX1_tally 10 = .ok (.iload_n 1, 1) := by decide +kernel
theorem dX1_tally_11 : decode cX1_tally 11 = .ok (.tableswitch 64 (-6) (-4) #[51, 38, 25], 25) := by decide +kernel
theorem dX1_tally_36 : decode cX1_tally 36 = .ok (.aload_n 0, 1) := by decide +kernel
theorem dX1_tally_37 : decode cX1_tally 37 = .ok (.dup, 1) := by decide +kernel
theorem dX1_tally_38 : decode cX1_tally 38 = .ok (.getfield 68, 3) := by decide +kernel
theorem dX1_tally_41 : decode cX1_tally 41 = .ok (.iconst 1, 1) := by decide +kernel
theorem dX1_tally_42 : decode cX1_tally 42 = .ok (.iadd, 1) := by decide +kernel
theorem dX1_tally_43 : decode cX1_tally 43 = .ok (.putfield 68, 3) := by decide +kernel
theorem dX1_tally_46 : decode cX1_tally 46 = .ok (.goto 39, 3) := by decide +kernel
theorem dX1_tally_49 : decode cX1_tally 49 = .ok (.aload_n 0, 1) := by decide +kernel
theorem dX1_tally_50 : decode cX1_tally 50 = .ok (.dup, 1) := by decide +kernel
theorem dX1_tally_51 : decode cX1_tally 51 = .ok (.getfield 71, 3) := by decide +kernel
theorem dX1_tally_54 : decode cX1_tally 54 = .ok (.iconst 1, 1) := by decide +kernel
theorem dX1_tally_55 : decode cX1_tally 55 = .ok (.iadd, 1) := by decide +kernel
theorem dX1_tally_56 : decode cX1_tally 56 = .ok (.putfield 71, 3) := by decide +kernel
theorem dX1_tally_59 : decode cX1_tally 59 = .ok (.goto 26, 3) := by decide +kernel
theorem dX1_tally_62 : decode cX1_tally 62 = .ok (.aload_n 0, 1) := by decide +kernel
theorem dX1_tally_63 : decode cX1_tally 63 = .ok (.dup, 1) := by decide +kernel
theorem dX1_tally_64 : decode cX1_tally 64 = .ok (.getfield 74, 3) := by decide +kernel
theorem dX1_tally_67 : decode cX1_tally 67 = .ok (.iconst 1, 1) := by decide +kernel
theorem dX1_tally_68 : decode cX1_tally 68 = .ok (.iadd, 1) := by decide +kernel
theorem dX1_tally_69 : decode cX1_tally 69 = .ok (.putfield 74, 3) := by decide +kernel
theorem dX1_tally_72 : decode cX1_tally 72 = .ok (.goto 13, 3) := by decide +kernel
theorem dX1_tally_75 : decode cX1_tally 75 = .ok (.aload_n 0, 1) := by decide +kernel
theorem dX1_tally_76 : decode cX1_tally 76 = .ok (.dup, 1) := by decide +kernel
theorem dX1_tally_77 : decode cX1_tally 77 = .ok (.getfield 65, 3) := by decide +kernel
theorem dX1_tally_80 : decode cX1_tally 80 = .ok (.iconst 1, 1) := by decide +kernel
theorem dX1_tally_81 : decode cX1_tally 81 = .ok (.iadd, 1) := by decide +kernel
theorem dX1_tally_82 : decode cX1_tally 82 = .ok (.putfield 65, 3) := by decide +kernel
theorem dX1_tally_85 : decode cX1_tally 85 = .ok (.return_, 1) := by decide +kernel
theorem dX1_chooseService_0 : decode cX1_chooseService 0 = .ok (.iconst 0, 1) := by decide +kernel
theorem dX1_chooseService_1 : decode cX1_chooseService 1 = .ok (.istore_n 2, 1) := by decide +kernel
theorem dX1_chooseService_2 : decode cX1_chooseService 2 = .ok (.iload_n 2, 1) := by decide +kernel
theorem dX1_chooseService_3 : decode cX1_chooseService 3 = .ok (.aload_n 1, 1) := by decide +kernel
theorem dX1_chooseService_4 : decode cX1_chooseService 4 = .ok (.getfield 136, 3) := by decide +kernel
theorem dX1_chooseService_7 : decode cX1_chooseService 7 = .ok (.if_icmp .ge 31, 3) := by decide +kernel
theorem dX1_chooseService_10 : decode cX1_chooseService 10 = .ok (.aload_n 1, 1) := by decide +kernel
theorem dX1_chooseService_11 : decode cX1_chooseService 11 = .ok (.getfield 139, 3) := by decide +kernel
theorem dX1_chooseService_14 : decode cX1_chooseService 14 = .ok (.iload_n 2, 1) := by decide +kernel
theorem dX1_chooseService_15 : decode cX1_chooseService 15 = .ok (.aaload, 1) := by decide +kernel
theorem dX1_chooseService_16 : decode cX1_chooseService 16 = .ok (.aload_n 0, 1) := by decide +kernel
theorem dX1_chooseService_17 : decode cX1_chooseService 17 = .ok (.aload_n 1, 1) := by decide +kernel
theorem dX1_chooseService_18 : decode cX1_chooseService 18 = .ok (.getfield 139, 3) := by decide +kernel
theorem dX1_chooseService_21 : decode cX1_chooseService 21 = .ok (.iload_n 2, 1) := by decide +kernel
theorem dX1_chooseService_22 : decode cX1_chooseService 22 = .ok (.aaload, 1) := by decide +kernel
theorem dX1_chooseService_23 : decode cX1_chooseService 23 = .ok (.getfield 143, 3) := by decide +kernel
theorem dX1_chooseService_26 : decode cX1_chooseService 26 = .ok (.invokevirtual 148, 3) := by decide +kernel
theorem dX1_chooseService_29 : decode cX1_chooseService 29 = .ok (.putfield 151, 3) := by decide +kernel
theorem dX1_chooseService_32 : decode cX1_chooseService 32 = .ok (.iinc 2 1, 3) := by decide +kernel
theorem dX1_chooseService_35 : decode cX1_chooseService 35 = .ok (.goto (-33), 3) := by decide +kernel
theorem dX1_chooseService_38 : decode cX1_chooseService 38 = .ok (.aload_n 1, 1) := by decide +kernel
theorem dX1_chooseService_39 : decode cX1_chooseService 39 = .ok (.getfield 139, 3) := by decide +kernel
theorem dX1_chooseService_42 : decode cX1_chooseService 42 = .ok (.aload_n 1, 1) := by decide +kernel
theorem dX1_chooseService_43 : decode cX1_chooseService 43 = .ok (.getfield 136, 3) := by decide +kernel
theorem dX1_chooseService_46 : decode cX1_chooseService 46 = .ok (.invokestatic 155, 3) := by decide +kernel
theorem dX1_chooseService_49 : decode cX1_chooseService 49 = .ok (.istore_n 2, 1) := by decide +kernel
theorem dX1_chooseService_50 : decode cX1_chooseService 50 = .ok (.iload_n 2, 1) := by decide +kernel
theorem dX1_chooseService_51 : decode cX1_chooseService 51 = .ok (.iconst (-1), 1) := by decide +kernel
theorem dX1_chooseService_52 : decode cX1_chooseService 52 = .ok (.if_icmp .ne 5, 3) := by decide +kernel
theorem dX1_chooseService_55 : decode cX1_chooseService 55 = .ok (.iconst (-1), 1) := by decide +kernel
theorem dX1_chooseService_56 : decode cX1_chooseService 56 = .ok (.ireturn, 1) := by decide +kernel
theorem dX1_chooseService_57 : decode cX1_chooseService 57 = .ok (.aload_n 1, 1) := by decide +kernel
theorem dX1_chooseService_58 : decode cX1_chooseService 58 = .ok (.getfield 139, 3) := by decide +kernel
theorem dX1_chooseService_61 : decode cX1_chooseService 61 = .ok (.iload_n 2, 1) := by decide +kernel
theorem dX1_chooseService_62 : decode cX1_chooseService 62 = .ok (.aaload, 1) := by decide +kernel
theorem dX1_chooseService_63 : decode cX1_chooseService 63 = .ok (.dup, 1) := by decide +kernel
theorem dX1_chooseService_64 : decode cX1_chooseService 64 = .ok (.getfield 161, 3) := by decide +kernel
theorem dX1_chooseService_67 : decode cX1_chooseService 67 = .ok (.iconst 1, 1) := by decide +kernel
theorem dX1_chooseService_68 : decode cX1_chooseService 68 = .ok (.iadd, 1) := by decide +kernel
theorem dX1_chooseService_69 : decode cX1_chooseService 69 = .ok (.putfield 161, 3) := by decide +kernel
theorem dX1_chooseService_72 : decode cX1_chooseService 72 = .ok (.aload_n 1, 1) := by decide +kernel
theorem dX1_chooseService_73 : decode cX1_chooseService 73 = .ok (.getfield 139, 3) := by decide +kernel
theorem dX1_chooseService_76 : decode cX1_chooseService 76 = .ok (.iload_n 2, 1) := by decide +kernel
theorem dX1_chooseService_77 : decode cX1_chooseService 77 = .ok (.aaload, 1) := by decide +kernel
theorem dX1_chooseService_78 : decode cX1_chooseService 78 = .ok (.getfield 143, 3) := by decide +kernel
theorem dX1_chooseService_81 : decode cX1_chooseService 81 = .ok (.ireturn, 1) := by decide +kernel
theorem dX1_hasAvailable_0 : decode cX1_hasAvailable 0 = .ok (.iconst 0, 1) := by decide +kernel
theorem dX1_hasAvailable_1 : decode cX1_hasAvailable 1 = .ok (.istore_n 2, 1) := by decide +kernel
theorem dX1_hasAvailable_2 : decode cX1_hasAvailable 2 = .ok (.iload_n 2, 1) := by decide +kernel
theorem dX1_hasAvailable_3 : decode cX1_hasAvailable 3 = .ok (.aload_n 0, 1) := by decide +kernel
theorem dX1_hasAvailable_4 : decode cX1_hasAvailable 4 = .ok (.getfield 43, 3) := by decide +kernel
theorem dX1_hasAvailable_7 : decode cX1_hasAvailable 7 = .ok (.if_icmp .ge 24, 3) := by decide +kernel
theorem dX1_hasAvailable_10 : decode cX1_hasAvailable 10 = .ok (.aload_n 0, 1) := by decide +kernel
theorem dX1_hasAvailable_11 : decode cX1_hasAvailable 11 = .ok (.getfield 11, 3) := by decide +kernel
theorem dX1_hasAvailable_14 : decode cX1_hasAvailable 14 = .ok (.iload_n 2, 1) := by decide +kernel
theorem dX1_hasAvailable_15 : decode cX1_hasAvailable 15 = .ok (.aaload, 1) := by decide +kernel
theorem dX1_hasAvailable_16 : decode cX1_hasAvailable 16 = .ok (.iload_n 1, 1) := by decide +kernel
theorem dX1_hasAvailable_17 : decode cX1_hasAvailable 17 = .ok (.invokevirtual 164, 3) := by decide +kernel
theorem dX1_hasAvailable_20 : decode cX1_hasAvailable 20 = .ok (.ifCond .eq 5, 3) := by decide +kernel
theorem dX1_hasAvailable_23 : decode cX1_hasAvailable 23 = .ok (.iconst 1, 1) := by decide +kernel
theorem dX1_hasAvailable_24 : decode cX1_hasAvailable 24 = .ok (.ireturn, 1) := by decide +kernel
theorem dX1_hasAvailable_25 : decode cX1_hasAvailable 25 = .ok (.iinc 2 1, 3) := by decide +kernel
theorem dX1_hasAvailable_28 : decode cX1_hasAvailable 28 = .ok (.goto (-26), 3) := by decide +kernel
theorem dX1_hasAvailable_31 : decode cX1_hasAvailable 31 = .ok (.iconst 0, 1) := by decide +kernel
theorem dX1_hasAvailable_32 : decode cX1_hasAvailable 32 = .ok (.ireturn, 1) := by decide +kernel
theorem dX1_serve_0 : decode cX1_serve 0 = .ok (.aload_n 0, 1) := by decide +kernel
theorem dX1_serve_1 : decode cX1_serve 1 = .ok (.getfield 19, 3) := by decide +kernel
theorem dX1_serve_4 : decode cX1_serve 4 = .ok (.iload_n 1, 1) := by decide +kernel
theorem dX1_serve_5 : decode cX1_serve 5 = .ok (.aaload, 1) := by decide +kernel
theorem dX1_serve_6 : decode cX1_serve 6 = .ok (.dup, 1) := by decide +kernel
theorem dX1_serve_7 : decode cX1_serve 7 = .ok (.getfield 167, 3) := by decide +kernel
theorem dX1_serve_10 : decode cX1_serve 10 = .ok (.iconst 1, 1) := by decide +kernel
theorem dX1_serve_11 : decode cX1_serve 11 = .ok (.iadd, 1) := by decide +kernel
theorem dX1_serve_12 : decode cX1_serve 12 = .ok (.putfield 167, 3) := by decide +kernel
theorem dX1_serve_15 : decode cX1_serve 15 = .ok (.aload_n 0, 1) := by decide +kernel
theorem dX1_serve_16 : decode cX1_serve 16 = .ok (.getfield 19, 3) := by decide +kernel
theorem dX1_serve_19 : decode cX1_serve 19 = .ok (.iload_n 1, 1) := by decide +kernel
theorem dX1_serve_20 : decode cX1_serve 20 = .ok (.aaload, 1) := by decide +kernel
theorem dX1_serve_21 : decode cX1_serve 21 = .ok (.invokevirtual 170, 3) := by decide +kernel
theorem dX1_serve_24 : decode cX1_serve 24 = .ok (.iconst 0, 1) := by decide +kernel
theorem dX1_serve_25 : decode cX1_serve 25 = .ok (.istore 5, 2) := by decide +kernel
theorem dX1_serve_27 : decode cX1_serve 27 = .ok (.iload 5, 2) := by decide +kernel
theorem dX1_serve_29 : decode cX1_serve 29 = .ok (.aload_n 0, 1) := by decide +kernel
theorem dX1_serve_30 : decode cX1_serve 30 = .ok (.getfield 43, 3) := by decide +kernel
theorem dX1_serve_33 : decode cX1_serve 33 = .ok (.if_icmp .ge 20, 3) := by decide +kernel
theorem dX1_serve_36 : decode cX1_serve 36 = .ok (.aload_n 0, 1) := by decide +kernel
theorem dX1_serve_37 : decode cX1_serve 37 = .ok (.getfield 11, 3) := by decide +kernel
theorem dX1_serve_40 : decode cX1_serve 40 = .ok (.iload 5, 2) := by decide +kernel
theorem dX1_serve_42 : decode cX1_serve 42 = .ok (.aaload, 1) := by decide +kernel
theorem dX1_serve_43 : decode cX1_serve 43 = .ok (.iconst 0, 1) := by decide +kernel
theorem dX1_serve_44 : decode cX1_serve 44 = .ok (.putfield 173, 3) := by decide +kernel
theorem dX1_serve_47 : decode cX1_serve 47 = .ok (.iinc 5 1, 3) := by decide +kernel
theorem dX1_serve_50 : decode cX1_serve 50 = .ok (.goto (-23), 3) := by decide +kernel
theorem dX1_serve_53 : decode cX1_serve 53 = .ok (.aload_n 0, 1) := by decide +kernel
theorem dX1_serve_54 : decode cX1_serve 54 = .ok (.iload_n 1, 1) := by decide +kernel
theorem dX1_serve_55 : decode cX1_serve 55 = .ok (.invokevirtual 176, 3) := by decide +kernel
theorem dX1_serve_58 : decode cX1_serve 58 = .ok (.istore 5, 2) := by decide +kernel
theorem dX1_serve_60 : decode cX1_serve 60 = .ok (.iconst 0, 1) := by decide +kernel
theorem dX1_serve_61 : decode cX1_serve 61 = .ok (.istore 6, 2) := by decide +kernel
theorem dX1_serve_63 : decode cX1_serve 63 = .ok (.iload 6, 2) := by decide +kernel
theorem dX1_serve_65 : decode cX1_serve 65 = .ok (.iload_n 2, 1) := by decide +kernel
theorem dX1_serve_66 : decode cX1_serve 66 = .ok (.if_icmp .ge 103, 3) := by decide +kernel
theorem dX1_serve_69 : decode cX1_serve 69 = .ok (.iload 5, 2) := by decide +kernel
theorem dX1_serve_71 : decode cX1_serve 71 = .ok (.ifCond .eq 98, 3) := by decide +kernel
theorem dX1_serve_74 : decode cX1_serve 74 = .ok (.iload 6, 2) := by decide +kernel
theorem dX1_serve_76 : decode cX1_serve 76 = .ok (.ifCond .le 19, 3) := by decide +kernel
theorem dX1_serve_79 : decode cX1_serve 79 = .ok (.aload_n 0, 1) := by decide +kernel
theorem dX1_serve_80 : decode cX1_serve 80 = .ok (.getfield 19, 3) := by decide +kernel
theorem dX1_serve_83 : decode cX1_serve 83 = .ok (.iload_n 1, 1) := by decide +kernel
theorem dX1_serve_84 : decode cX1_serve 84 = .ok (.aaload, 1) := by decide +kernel
theorem dX1_serve_85 : decode cX1_serve 85 = .ok (.dup, 1) := by decide +kernel
theorem dX1_serve_86 : decode cX1_serve 86 = .ok (.getfield 179, 3) := by decide +kernel
theorem dX1_serve_89 : decode cX1_serve 89 = .ok (.bipush 100, 2) := by decide +kernel
theorem dX1_serve_91 : decode cX1_serve 91 = .ok (.isub, 1) := by decide +kernel
theorem dX1_serve_92 : decode cX1_serve 92 = .ok (.putfield 179, 3) := by decide +kernel
theorem dX1_serve_95 : decode cX1_serve 95 = .ok (.aload_n 0, 1) := by decide +kernel
theorem dX1_serve_96 : decode cX1_serve 96 = .ok (.iload_n 1, 1) := by decide +kernel
theorem dX1_serve_97 : decode cX1_serve 97 = .ok (.iload_n 3, 1) := by decide +kernel
theorem dX1_serve_98 : decode cX1_serve 98 = .ok (.iload 4, 2) := by decide +kernel
theorem dX1_serve_100 : decode cX1_serve 100 = .ok (.invokevirtual 182, 3) := by decide +kernel
theorem dX1_serve_103 : decode cX1_serve 103 = .ok (.istore 7, 2) := by decide +kernel
theorem dX1_serve_105 : decode cX1_serve 105 = .ok (.aload_n 0, 1) := by decide +kernel
theorem dX1_serve_106 : decode cX1_serve 106 = .ok (.iload 7, 2) := by decide +kernel
theorem dX1_serve_108 : decode cX1_serve 108 = .ok (.iload 4, 2) := by decide +kernel
theorem dX1_serve_110 : decode cX1_serve 110 = .ok (.invokevirtual 186, 3) := by decide +kernel
theorem dX1_serve_113 : decode cX1_serve 113 = .ok (.ifCond .eq 21, 3) := by decide +kernel
theorem dX1_serve_116 : decode cX1_serve 116 = .ok (.aload_n 0, 1) := by decide +kernel
theorem dX1_serve_117 : decode cX1_serve 117 = .ok (.getfield 19, 3) := by decide +kernel
theorem dX1_serve_120 : decode cX1_serve 120 = .ok (.iload_n 1, 1) := by decide +kernel
theorem dX1_serve_121 : decode cX1_serve 121 = .ok (.aaload, 1) := by decide +kernel
theorem dX1_serve_122 : decode cX1_serve 122 = .ok (.dup, 1) := by decide +kernel
theorem dX1_serve_123 : decode cX1_serve 123 = .ok (.getfield 190, 3) := by decide +kernel
theorem dX1_serve_126 : decode cX1_serve 126 = .ok (.iconst 1, 1) := by decide +kernel
theorem dX1_serve_127 : decode cX1_serve 127 = .ok (.iadd, 1) := by decide +kernel
theorem dX1_serve_128 : decode cX1_serve 128 = .ok (.putfield 190, 3) := by decide +kernel
theorem dX1_serve_131 : decode cX1_serve 131 = .ok (.iload 7, 2) := by decide +kernel
theorem dX1_serve_133 : decode cX1_serve 133 = .ok (.ireturn, 1) := by decide +kernel
theorem dX1_serve_134 : decode cX1_serve 134 = .ok (.aload_n 0, 1) := by decide +kernel
theorem dX1_serve_135 : decode cX1_serve 135 = .ok (.iload_n 1, 1) := by decide +kernel
theorem dX1_serve_136 : decode cX1_serve 136 = .ok (.invokevirtual 176, 3) := by decide +kernel
theorem dX1_serve_139 : decode cX1_serve 139 = .ok (.ifCond .eq 21, 3) := by decide +kernel
theorem dX1_serve_142 : decode cX1_serve 142 = .ok (.aload_n 0, 1) := by decide +kernel
theorem dX1_serve_143 : decode cX1_serve 143 = .ok (.getfield 19, 3) := by decide +kernel
theorem dX1_serve_146 : decode cX1_serve 146 = .ok (.iload_n 1, 1) := by decide +kernel
theorem dX1_serve_147 : decode cX1_serve 147 = .ok (.aaload, 1) := by decide +kernel
theorem dX1_serve_148 : decode cX1_serve 148 = .ok (.getfield 179, 3) := by decide +kernel
theorem dX1_serve_151 : decode cX1_serve 151 = .ok (.bipush 100, 2) := by decide +kernel
theorem dX1_serve_153 : decode cX1_serve 153 = .ok (.if_icmp .lt 7, 3) := by decide +kernel
theorem dX1_serve_156 : decode cX1_serve 156 = .ok (.iconst 1, 1) := by decide +kernel
theorem dX1_serve_157 : decode cX1_serve 157 = .ok (.goto 4, 3) := by decide +kernel
theorem dX1_serve_160 : decode cX1_serve 160 = .ok (.iconst 0, 1) := by decide +kernel
theorem dX1_serve_161 : decode cX1_serve 161 = .ok (.istore 5, 2) := by decide +kernel
theorem dX1_serve_163 : decode cX1_serve 163 = .ok (.iinc 6 1, 3) := by decide +kernel
theorem dX1_serve_166 : decode cX1_serve 166 = .ok (.goto (-103), 3) := by decide +kernel
theorem dX1_serve_169 : decode cX1_serve 169 = .ok (.bipush (-6), 2) := by decide +kernel
theorem dX1_serve_171 : decode cX1_serve 171 = .ok (.ireturn, 1) := by decide +kernel
theorem dX1_gatherCandidates_0 : decode cX1_gatherCandidates 0 = .ok (.iconst 0, 1) := by decide +kernel
theorem dX1_gatherCandidates_1 : decode cX1_gatherCandidates 1 = .ok (.istore_n 2, 1) := by decide +kernel
theorem dX1_gatherCandidates_2 : decode cX1_gatherCandidates 2 = .ok (.iconst 0, 1) := by decide +kernel
theorem dX1_gatherCandidates_3 : decode cX1_gatherCandidates 3 = .ok (.istore_n 3, 1) := by decide +kernel
theorem dX1_gatherCandidates_4 : decode cX1_gatherCandidates 4 = .ok (.iload_n 3, 1) := by decide +kernel
theorem dX1_gatherCandidates_5 : decode cX1_gatherCandidates 5 = .ok (.aload_n 0, 1) := by decide +kernel
theorem dX1_gatherCandidates_6 : decode cX1_gatherCandidates 6 = .ok (.getfield 43, 3) := by decide +kernel
theorem dX1_gatherCandidates_9 : decode cX1_gatherCandidates 9 = .ok (.if_icmp .ge 62, 3) := by decide +kernel
theorem dX1_gatherCandidates_12 : decode cX1_gatherCandidates 12 = .ok (.aload_n 0, 1) := by decide +kernel
theorem dX1_gatherCandidates_13 : decode cX1_gatherCandidates 13 = .ok (.getfield 11, 3) := by decide +kernel
theorem dX1_gatherCandidates_16 : decode cX1_gatherCandidates 16 = .ok (.iload_n 3, 1) := by decide +kernel
theorem dX1_gatherCandidates_17 : decode cX1_gatherCandidates 17 = .ok (.aaload, 1) := by decide +kernel
theorem dX1_gatherCandidates_18 : decode cX1_gatherCandidates 18 = .ok (.astore 4, 2) := by decide +kernel
theorem dX1_gatherCandidates_20 : decode cX1_gatherCandidates 20 = .ok (.aload 4, 2) := by decide +kernel
theorem dX1_gatherCandidates_22 : decode cX1_gatherCandidates 22 = .ok (.aload 4, 2) := by decide +kernel
theorem dX1_gatherCandidates_24 : decode cX1_gatherCandidates 24 = .ok (.getfield 173, 3) := by decide +kernel
theorem dX1_gatherCandidates_27 : decode cX1_gatherCandidates 27 = .ok (.ifCond .ne 16, 3) := by decide +kernel
theorem dX1_gatherCandidates_30 : decode cX1_gatherCandidates 30 = .ok (.aload 4, 2) := by decide +kernel
theorem dX1_gatherCandidates_32 : decode cX1_gatherCandidates 32 = .ok (.iload_n 1, 1) := by decide +kernel
theorem dX1_gatherCandidates_33 : decode cX1_gatherCandidates 33 = .ok (.invokevirtual 164, 3) := by decide +kernel
theorem dX1_gatherCandidates_36 : decode cX1_gatherCandidates 36 = .ok (.ifCond .eq 7, 3) := by decide +kernel
theorem dX1_gatherCandidates_39 : decode cX1_gatherCandidates 39 = .ok (.iconst 1, 1) := by decide +kernel
theorem dX1_gatherCandidates_40 : decode cX1_gatherCandidates 40 = .ok (.goto 4, 3) := by decide +kernel
theorem dX1_gatherCandidates_43 : decode cX1_gatherCandidates 43 = .ok (.iconst 0, 1) := by decide +kernel
theorem dX1_gatherCandidates_44 : decode cX1_gatherCandidates 44 = .ok (.putfield 191, 3) := by decide +kernel
theorem dX1_gatherCandidates_47 : decode cX1_gatherCandidates 47 = .ok (.iload_n 2, 1) := by decide +kernel
theorem dX1_gatherCandidates_48 : decode cX1_gatherCandidates 48 = .ok (.ifCond .ne 11, 3) := by decide +kernel
theorem dX1_gatherCandidates_51 : decode cX1_gatherCandidates 51 = .ok (.aload 4, 2) := by decide +kernel
theorem dX1_gatherCandidates_53 : decode cX1_gatherCandidates 53 = .ok (.getfield 191, 3) := by decide +kernel
theorem dX1_gatherCandidates_56 : decode cX1_gatherCandidates 56 = .ok (.ifCond .eq 7, 3) := by decide +kernel
theorem dX1_gatherCandidates_59 : decode cX1_gatherCandidates 59 = .ok (.iconst 1, 1) := by decide +kernel
theorem dX1_gatherCandidates_60 : decode cX1_gatherCandidates 60 = .ok (.goto 4, 3) := by decide +kernel
theorem dX1_gatherCandidates_63 : decode cX1_gatherCandidates 63 = .ok (.iconst 0, 1) := by decide +kernel
theorem dX1_gatherCandidates_64 : decode cX1_gatherCandidates 64 = .ok (.istore_n 2, 1) := by decide +kernel
theorem dX1_gatherCandidates_65 : decode cX1_gatherCandidates 65 = .ok (.iinc 3 1, 3) := by decide +kernel
theorem dX1_gatherCandidates_68 : decode cX1_gatherCandidates 68 = .ok (.goto (-64), 3) := by decide +kernel
theorem dX1_gatherCandidates_71 : decode cX1_gatherCandidates 71 = .ok (.iload_n 2, 1) := by decide +kernel
theorem dX1_gatherCandidates_72 : decode cX1_gatherCandidates 72 = .ok (.ireturn, 1) := by decide +kernel
theorem dX1_pick_0 : decode cX1_pick 0 = .ok (.aload_n 0, 1) := by decide +kernel
theorem dX1_pick_1 : decode cX1_pick 1 = .ok (.iload_n 1, 1) := by decide +kernel
theorem dX1_pick_2 : decode cX1_pick 2 = .ok (.iload_n 3, 1) := by decide +kernel
theorem dX1_pick_3 : decode cX1_pick 3 = .ok (.invokevirtual 192, 3) := by decide +kernel
theorem dX1_pick_6 : decode cX1_pick 6 = .ok (.aload_n 0, 1) := by decide +kernel
theorem dX1_pick_7 : decode cX1_pick 7 = .ok (.getfield 19, 3) := by decide +kernel
theorem dX1_pick_10 : decode cX1_pick 10 = .ok (.iload_n 1, 1) := by decide +kernel
theorem dX1_pick_11 : decode cX1_pick 11 = .ok (.aaload, 1) := by decide +kernel
theorem dX1_pick_12 : decode cX1_pick 12 = .ok (.getfield 111, 3) := by decide +kernel
theorem dX1_pick_15 : decode cX1_pick 15 = .ok (.lookupswitch 42 #[(1, 25), (2, 30)], 25) := by decide +kernel
theorem dX1_pick_40 : decode cX1_pick 40 = .ok (.aload_n 0, 1) := by decide +kernel
theorem dX1_pick_41 : decode cX1_pick 41 = .ok (.invokevirtual 196, 3) := by decide +kernel
theorem dX1_pick_44 : decode cX1_pick 44 = .ok (.ireturn, 1) := by decide +kernel
theorem dX1_pick_45 : decode cX1_pick 45 = .ok (.aload_n 0, 1) := by decide +kernel
theorem dX1_pick_46 : decode cX1_pick 46 = .ok (.aload_n 0, 1) := by decide +kernel
theorem dX1_pick_47 : decode cX1_pick 47 = .ok (.getfield 19, 3) := by decide +kernel
theorem dX1_pick_50 : decode cX1_pick 50 = .ok (.iload_n 1, 1) := by decide +kernel
theorem dX1_pick_51 : decode cX1_pick 51 = .ok (.aaload, 1) := by decide +kernel
theorem dX1_pick_52 : decode cX1_pick 52 = .ok (.iload_n 2, 1) := by decide +kernel
theorem dX1_pick_53 : decode cX1_pick 53 = .ok (.invokevirtual 200, 3) := by decide +kernel
theorem dX1_pick_56 : decode cX1_pick 56 = .ok (.ireturn, 1) := by decide +kernel
theorem dX1_pick_57 : decode cX1_pick 57 = .ok (.aload_n 0, 1) := by decide +kernel
theorem dX1_pick_58 : decode cX1_pick 58 = .ok (.getfield 11, 3) := by decide +kernel
theorem dX1_pick_61 : decode cX1_pick 61 = .ok (.aload_n 0, 1) := by decide +kernel
theorem dX1_pick_62 : decode cX1_pick 62 = .ok (.getfield 43, 3) := by decide +kernel
theorem dX1_pick_65 : decode cX1_pick 65 = .ok (.invokestatic 155, 3) := by decide +kernel
theorem dX1_pick_68 : decode cX1_pick 68 = .ok (.ireturn, 1) := by decide +kernel
theorem dX1_narrow_0 : decode cX1_narrow 0 = .ok (.iconst 0, 1) := by decide +kernel
theorem dX1_narrow_1 : decode cX1_narrow 1 = .ok (.istore_n 3, 1) := by decide +kernel
theorem dX1_narrow_2 : decode cX1_narrow 2 = .ok (.iconst 0, 1) := by decide +kernel
theorem dX1_narrow_3 : decode cX1_narrow 3 = .ok (.istore 4, 2) := by decide +kernel
theorem dX1_narrow_5 : decode cX1_narrow 5 = .ok (.iconst 0, 1) := by decide +kernel
theorem dX1_narrow_6 : decode cX1_narrow 6 = .ok (.istore 5, 2) := by decide +kernel
theorem dX1_narrow_8 : decode cX1_narrow 8 = .ok (.iconst 0, 1) := by decide +kernel
theorem dX1_narrow_9 : decode cX1_narrow 9 = .ok (.istore 6, 2) := by decide +kernel
theorem dX1_narrow_11 : decode cX1_narrow 11 = .ok (.iload 6, 2) := by decide +kernel
theorem dX1_narrow_13 : decode cX1_narrow 13 = .ok (.aload_n 0, 1) := by decide +kernel
theorem dX1_narrow_14 : decode cX1_narrow 14 = .ok (.getfield 43, 3) := by decide +kernel
theorem dX1_narrow_17 : decode cX1_narrow 17 = .ok (.if_icmp .ge 92, 3) := by decide +kernel
theorem dX1_narrow_20 : decode cX1_narrow 20 = .ok (.aload_n 0, 1) := by decide +kernel
theorem dX1_narrow_21 : decode cX1_narrow 21 = .ok (.getfield 11, 3) := by decide +kernel
theorem dX1_narrow_24 : decode cX1_narrow 24 = .ok (.iload 6, 2) := by decide +kernel
theorem dX1_narrow_26 : decode cX1_narrow 26 = .ok (.aaload, 1) := by decide +kernel
theorem dX1_narrow_27 : decode cX1_narrow 27 = .ok (.astore 7, 2) := by decide +kernel
theorem dX1_narrow_29 : decode cX1_narrow 29 = .ok (.aload 7, 2) := by decide +kernel
theorem dX1_narrow_31 : decode cX1_narrow 31 = .ok (.getfield 191, 3) := by decide +kernel
theorem dX1_narrow_34 : decode cX1_narrow 34 = .ok (.ifCond .eq 23, 3) := by decide +kernel
theorem dX1_narrow_37 : decode cX1_narrow 37 = .ok (.aload 7, 2) := by decide +kernel
theorem dX1_narrow_39 : decode cX1_narrow 39 = .ok (.getfield 204, 3) := by decide +kernel
theorem dX1_narrow_42 : decode cX1_narrow 42 = .ok (.iload_n 2, 1) := by decide +kernel
theorem dX1_narrow_43 : decode cX1_narrow 43 = .ok (.if_icmp .ne 14, 3) := by decide +kernel
theorem dX1_narrow_46 : decode cX1_narrow 46 = .ok (.iload_n 3, 1) := by decide +kernel
theorem dX1_narrow_47 : decode cX1_narrow 47 = .ok (.aload 7, 2) := by decide +kernel
theorem dX1_narrow_49 : decode cX1_narrow 49 = .ok (.getfield 207, 3) := by decide +kernel
theorem dX1_narrow_52 : decode cX1_narrow 52 = .ok (.iadd, 1) := by decide +kernel
theorem dX1_narrow_53 : decode cX1_narrow 53 = .ok (.istore_n 3, 1) := by decide +kernel
theorem dX1_narrow_54 : decode cX1_narrow 54 = .ok (.goto 21, 3) := by decide +kernel
theorem dX1_narrow_57 : decode cX1_narrow 57 = .ok (.aload 7, 2) := by decide +kernel
theorem dX1_narrow_59 : decode cX1_narrow 59 = .ok (.getfield 191, 3) := by decide +kernel
theorem dX1_narrow_62 : decode cX1_narrow 62 = .ok (.ifCond .eq 13, 3) := by decide +kernel
theorem dX1_narrow_65 : decode cX1_narrow 65 = .ok (.iload 4, 2) := by decide +kernel
theorem dX1_narrow_67 : decode cX1_narrow 67 = .ok (.aload 7, 2) := by decide +kernel
theorem dX1_narrow_69 : decode cX1_narrow 69 = .ok (.getfield 207, 3) := by decide +kernel
theorem dX1_narrow_72 : decode cX1_narrow 72 = .ok (.iadd, 1) := by decide +kernel
theorem dX1_narrow_73 : decode cX1_narrow 73 = .ok (.istore 4, 2) := by decide +kernel
theorem dX1_narrow_75 : decode cX1_narrow 75 = .ok (.aload 7, 2) := by decide +kernel
theorem dX1_narrow_77 : decode cX1_narrow 77 = .ok (.iload_n 1, 1) := by decide +kernel
theorem dX1_narrow_78 : decode cX1_narrow 78 = .ok (.invokevirtual 210, 3) := by decide +kernel
theorem dX1_narrow_81 : decode cX1_narrow 81 = .ok (.ifCond .eq 22, 3) := by decide +kernel
theorem dX1_narrow_84 : decode cX1_narrow 84 = .ok (.aload 7, 2) := by decide +kernel
theorem dX1_narrow_86 : decode cX1_narrow 86 = .ok (.getfield 204, 3) := by decide +kernel
theorem dX1_narrow_89 : decode cX1_narrow 89 = .ok (.iload_n 2, 1) := by decide +kernel
theorem dX1_narrow_90 : decode cX1_narrow 90 = .ok (.if_icmp .ne 13, 3) := by decide +kernel
theorem dX1_narrow_93 : decode cX1_narrow 93 = .ok (.iload 5, 2) := by decide +kernel
theorem dX1_narrow_95 : decode cX1_narrow 95 = .ok (.aload 7, 2) := by decide +kernel
theorem dX1_narrow_97 : decode cX1_narrow 97 = .ok (.getfield 207, 3) := by decide +kernel
theorem dX1_narrow_100 : decode cX1_narrow 100 = .ok (.iadd, 1) := by decide +kernel
theorem dX1_narrow_101 : decode cX1_narrow 101 = .ok (.istore 5, 2) := by decide +kernel
theorem dX1_narrow_103 : decode cX1_narrow 103 = .ok (.iinc 6 1, 3) := by decide +kernel
theorem dX1_narrow_106 : decode cX1_narrow 106 = .ok (.goto (-95), 3) := by decide +kernel
theorem dX1_narrow_109 : decode cX1_narrow 109 = .ok (.iload_n 3, 1) := by decide +kernel
theorem dX1_narrow_110 : decode cX1_narrow 110 = .ok (.ifCond .le 109, 3) := by decide +kernel
theorem dX1_narrow_113 : decode cX1_narrow 113 = .ok (.iload 4, 2) := by decide +kernel
theorem dX1_narrow_115 : decode cX1_narrow 115 = .ok (.ifCond .le 104, 3) := by decide +kernel
theorem dX1_narrow_118 : decode cX1_narrow 118 = .ok (.aload_n 0, 1) := by decide +kernel
theorem dX1_narrow_119 : decode cX1_narrow 119 = .ok (.getfield 19, 3) := by decide +kernel
theorem dX1_narrow_122 : decode cX1_narrow 122 = .ok (.iload_n 1, 1) := by decide +kernel
theorem dX1_narrow_123 : decode cX1_narrow 123 = .ok (.aaload, 1) := by decide +kernel
theorem dX1_narrow_124 : decode cX1_narrow 124 = .ok (.iload_n 2, 1) := by decide +kernel
theorem dX1_narrow_125 : decode cX1_narrow 125 = .ok (.iload_n 3, 1) := by decide +kernel
theorem dX1_narrow_126 : decode cX1_narrow 126 = .ok (.iload 5, 2) := by decide +kernel
theorem dX1_narrow_128 : decode cX1_narrow 128 = .ok (.aload_n 0, 1) := by decide +kernel
theorem dX1_narrow_129 : decode cX1_narrow 129 = .ok (.getfield 29, 3) := by decide +kernel
theorem dX1_narrow_132 : decode cX1_narrow 132 = .ok (.invokevirtual 213, 3) := by decide +kernel
theorem dX1_narrow_135 : decode cX1_narrow 135 = .ok (.istore 6, 2) := by decide +kernel
theorem dX1_narrow_137 : decode cX1_narrow 137 = .ok (.iconst 0, 1) := by decide +kernel
theorem dX1_narrow_138 : decode cX1_narrow 138 = .ok (.istore 7, 2) := by decide +kernel
theorem dX1_narrow_140 : decode cX1_narrow 140 = .ok (.iload 7, 2) := by decide +kernel
theorem dX1_narrow_142 : decode cX1_narrow 142 = .ok (.aload_n 0, 1) := by decide +kernel
theorem dX1_narrow_143 : decode cX1_narrow 143 = .ok (.getfield 43, 3) := by decide +kernel
theorem dX1_narrow_146 : decode cX1_narrow 146 = .ok (.if_icmp .ge 73, 3) := by decide +kernel
theorem dX1_narrow_149 : decode cX1_narrow 149 = .ok (.aload_n 0, 1) := by decide +kernel
theorem dX1_narrow_150 : decode cX1_narrow 150 = .ok (.getfield 11, 3) := by decide +kernel
theorem dX1_narrow_153 : decode cX1_narrow 153 = .ok (.iload 7, 2) := by decide +kernel
theorem dX1_narrow_155 : decode cX1_narrow 155 = .ok (.aaload, 1) := by decide +kernel
theorem dX1_narrow_156 : decode cX1_narrow 156 = .ok (.getfield 204, 3) := by decide +kernel
theorem dX1_narrow_159 : decode cX1_narrow 159 = .ok (.iload_n 2, 1) := by decide +kernel
theorem dX1_narrow_160 : decode cX1_narrow 160 = .ok (.if_icmp .ne 7, 3) := by decide +kernel
theorem dX1_narrow_163 : decode cX1_narrow 163 = .ok (.iconst 1, 1) := by decide +kernel
theorem dX1_narrow_164 : decode cX1_narrow 164 = .ok (.goto 4, 3) := by decide +kernel
theorem dX1_narrow_167 : decode cX1_narrow 167 = .ok (.iconst 0, 1) := by decide +kernel
theorem dX1_narrow_168 : decode cX1_narrow 168 = .ok (.iload 6, 2) := by decide +kernel
theorem dX1_narrow_170 : decode cX1_narrow 170 = .ok (.if_icmp .ne 7, 3) := by decide +kernel
theorem dX1_narrow_173 : decode cX1_narrow 173 = .ok (.iconst 1, 1) := by decide +kernel
theorem dX1_narrow_174 : decode cX1_narrow 174 = .ok (.goto 4, 3) := by decide +kernel
theorem dX1_narrow_177 : decode cX1_narrow 177 = .ok (.iconst 0, 1) := by decide +kernel
theorem dX1_narrow_178 : decode cX1_narrow 178 = .ok (.istore 8, 2) := by decide +kernel
theorem dX1_narrow_180 : decode cX1_narrow 180 = .ok (.aload_n 0, 1) := by decide +kernel
theorem dX1_narrow_181 : decode cX1_narrow 181 = .ok (.getfield 11, 3) := by decide +kernel
theorem dX1_narrow_184 : decode cX1_narrow 184 = .ok (.iload 7, 2) := by decide +kernel
theorem dX1_narrow_186 : decode cX1_narrow 186 = .ok (.aaload, 1) := by decide +kernel
theorem dX1_narrow_187 : decode cX1_narrow 187 = .ok (.aload_n 0, 1) := by decide +kernel
theorem dX1_narrow_188 : decode cX1_narrow 188 = .ok (.getfield 11, 3) := by decide +kernel
theorem dX1_narrow_191 : decode cX1_narrow 191 = .ok (.iload 7, 2) := by decide +kernel
theorem dX1_narrow_193 : decode cX1_narrow 193 = .ok (.aaload, 1) := by decide +kernel
theorem dX1_narrow_194 : decode cX1_narrow 194 = .ok (.getfield 191, 3) := by decide +kernel
theorem dX1_narrow_197 : decode cX1_narrow 197 = .ok (.ifCond .eq 12, 3) := by decide +kernel
theorem dX1_narrow_200 : decode cX1_narrow 200 = .ok (.iload 8, 2) := by decide +kernel
theorem dX1_narrow_202 : decode cX1_narrow 202 = .ok (.ifCond .eq 7, 3) := by decide +kernel
theorem dX1_narrow_205 : decode cX1_narrow 205 = .ok (.iconst 1, 1) := by decide +kernel
theorem dX1_narrow_206 : decode cX1_narrow 206 = .ok (.goto 4, 3) := by decide +kernel
theorem dX1_narrow_209 : decode cX1_narrow 209 = .ok (.iconst 0, 1) := by decide +kernel
theorem dX1_narrow_210 : decode cX1_narrow 210 = .ok (.putfield 191, 3) := by decide +kernel
theorem dX1_narrow_213 : decode cX1_narrow 213 = .ok (.iinc 7 1, 3) := by decide +kernel
theorem dX1_narrow_216 : decode cX1_narrow 216 = .ok (.goto (-76), 3) := by decide +kernel
theorem dX1_narrow_219 : decode cX1_narrow 219 = .ok (.return_, 1) := by decide +kernel
theorem dX1_pickLeastUsed_0 : decode cX1_pickLeastUsed 0 = .ok (.iconst (-1), 1) := by decide +kernel
theorem dX1_pickLeastUsed_1 : decode cX1_pickLeastUsed 1 = .ok (.istore_n 1, 1) := by decide +kernel
theorem dX1_pickLeastUsed_2 : decode cX1_pickLeastUsed 2 = .ok (.iconst 0, 1) := by decide +kernel
theorem dX1_pickLeastUsed_3 : decode cX1_pickLeastUsed 3 = .ok (.istore_n 2, 1) := by decide +kernel
theorem dX1_pickLeastUsed_4 : decode cX1_pickLeastUsed 4 = .ok (.iload_n 2, 1) := by decide +kernel
theorem dX1_pickLeastUsed_5 : decode cX1_pickLeastUsed 5 = .ok (.aload_n 0, 1) := by decide +kernel
theorem dX1_pickLeastUsed_6 : decode cX1_pickLeastUsed 6 = .ok (.getfield 43, 3) := by decide +kernel
theorem dX1_pickLeastUsed_9 : decode cX1_pickLeastUsed 9 = .ok (.if_icmp .ge 46, 3) := by decide +kernel
theorem dX1_pickLeastUsed_12 : decode cX1_pickLeastUsed 12 = .ok (.aload_n 0, 1) := by decide +kernel
theorem dX1_pickLeastUsed_13 : decode cX1_pickLeastUsed 13 = .ok (.getfield 11, 3) := by decide +kernel
theorem dX1_pickLeastUsed_16 : decode cX1_pickLeastUsed 16 = .ok (.iload_n 2, 1) := by decide +kernel
theorem dX1_pickLeastUsed_17 : decode cX1_pickLeastUsed 17 = .ok (.aaload, 1) := by decide +kernel
theorem dX1_pickLeastUsed_18 : decode cX1_pickLeastUsed 18 = .ok (.getfield 191, 3) := by decide +kernel
theorem dX1_pickLeastUsed_21 : decode cX1_pickLeastUsed 21 = .ok (.ifCond .eq 28, 3) := by decide +kernel
theorem dX1_pickLeastUsed_24 : decode cX1_pickLeastUsed 24 = .ok (.iload_n 1, 1) := by decide +kernel
theorem dX1_pickLeastUsed_25 : decode cX1_pickLeastUsed 25 = .ok (.iconst (-1), 1) := by decide +kernel
theorem dX1_pickLeastUsed_26 : decode cX1_pickLeastUsed 26 = .ok (.if_icmp .eq 21, 3) := by decide +kernel
theorem dX1_pickLeastUsed_29 : decode cX1_pickLeastUsed 29 = .ok (.aload_n 0, 1) := by decide +kernel
theorem dX1_pickLeastUsed_30 : decode cX1_pickLeastUsed 30 = .ok (.getfield 11, 3) := by decide +kernel
theorem dX1_pickLeastUsed_33 : decode cX1_pickLeastUsed 33 = .ok (.iload_n 2, 1) := by decide +kernel
theorem dX1_pickLeastUsed_34 : decode cX1_pickLeastUsed 34 = .ok (.aaload, 1) := by decide +kernel
theorem dX1_pickLeastUsed_35 : decode cX1_pickLeastUsed 35 = .ok (.aload_n 0, 1) := by decide +kernel
theorem dX1_pickLeastUsed_36 : decode cX1_pickLeastUsed 36 = .ok (.getfield 11, 3) := by decide +kernel
theorem dX1_pickLeastUsed_39 : decode cX1_pickLeastUsed 39 = .ok (.iload_n 1, 1) := by decide +kernel
theorem dX1_pickLeastUsed_40 : decode cX1_pickLeastUsed 40 = .ok (.aaload, 1) := by decide +kernel
theorem dX1_pickLeastUsed_41 : decode cX1_pickLeastUsed 41 = .ok (.invokevirtual 217, 3) := by decide +kernel
theorem dX1_pickLeastUsed_44 : decode cX1_pickLeastUsed 44 = .ok (.ifCond .eq 5, 3) := by decide +kernel
theorem dX1_pickLeastUsed_47 : decode cX1_pickLeastUsed 47 = .ok (.iload_n 2, 1) := by decide +kernel
theorem dX1_pickLeastUsed_48 : decode cX1_pickLeastUsed 48 = .ok (.istore_n 1, 1) := by decide +kernel
theorem dX1_pickLeastUsed_49 : decode cX1_pickLeastUsed 49 = .ok (.iinc 2 1, 3) := by decide +kernel
theorem dX1_pickLeastUsed_52 : decode cX1_pickLeastUsed 52 = .ok (.goto (-48), 3) := by decide +kernel
theorem dX1_pickLeastUsed_55 : decode cX1_pickLeastUsed 55 = .ok (.iload_n 1, 1) := by decide +kernel
theorem dX1_pickLeastUsed_56 : decode cX1_pickLeastUsed 56 = .ok (.ireturn, 1) := by decide +kernel
theorem dX1_pickSticky_0 : decode cX1_pickSticky 0 = .ok (.aload_n 1, 1) := by decide +kernel
theorem dX1_pickSticky_1 : decode cX1_pickSticky 1 = .ok (.getfield 221, 3) := by decide +kernel
theorem dX1_pickSticky_4 : decode cX1_pickSticky 4 = .ok (.iload_n 2, 1) := by decide +kernel
theorem dX1_pickSticky_5 : decode cX1_pickSticky 5 = .ok (.iaload, 1) := by decide +kernel
theorem dX1_pickSticky_6 : decode cX1_pickSticky 6 = .ok (.istore_n 3, 1) := by decide +kernel
theorem dX1_pickSticky_7 : decode cX1_pickSticky 7 = .ok (.aload_n 0, 1) := by decide +kernel
theorem dX1_pickSticky_8 : decode cX1_pickSticky 8 = .ok (.iload_n 3, 1) := by decide +kernel
theorem dX1_pickSticky_9 : decode cX1_pickSticky 9 = .ok (.invokevirtual 225, 3) := by decide +kernel
theorem dX1_pickSticky_12 : decode cX1_pickSticky 12 = .ok (.ifCond .eq 15, 3) := by decide +kernel
theorem dX1_pickSticky_15 : decode cX1_pickSticky 15 = .ok (.aload_n 0, 1) := by decide +kernel
theorem dX1_pickSticky_16 : decode cX1_pickSticky 16 = .ok (.getfield 11, 3) := by decide +kernel
theorem dX1_pickSticky_19 : decode cX1_pickSticky 19 = .ok (.iload_n 3, 1) := by decide +kernel
theorem dX1_pickSticky_20 : decode cX1_pickSticky 20 = .ok (.aaload, 1) := by decide +kernel
theorem dX1_pickSticky_21 : decode cX1_pickSticky 21 = .ok (.getfield 191, 3) := by decide +kernel
theorem dX1_pickSticky_24 : decode cX1_pickSticky 24 = .ok (.ifCond .ne 22, 3) := by decide +kernel
theorem dX1_pickSticky_27 : decode cX1_pickSticky 27 = .ok (.aload_n 0, 1) := by decide +kernel
theorem dX1_pickSticky_28 : decode cX1_pickSticky 28 = .ok (.getfield 11, 3) := by decide +kernel
theorem dX1_pickSticky_31 : decode cX1_pickSticky 31 = .ok (.aload_n 0, 1) := by decide +kernel
theorem dX1_pickSticky_32 : decode cX1_pickSticky 32 = .ok (.getfield 43, 3) := by decide +kernel
theorem dX1_pickSticky_35 : decode cX1_pickSticky 35 = .ok (.invokestatic 155, 3) := by decide +kernel
theorem dX1_pickSticky_38 : decode cX1_pickSticky 38 = .ok (.istore_n 3, 1) := by decide +kernel
theorem dX1_pickSticky_39 : decode cX1_pickSticky 39 = .ok (.aload_n 1, 1) := by decide +kernel
theorem dX1_pickSticky_40 : decode cX1_pickSticky 40 = .ok (.getfield 221, 3) := by decide +kernel
theorem dX1_pickSticky_43 : decode cX1_pickSticky 43 = .ok (.iload_n 2, 1) := by decide +kernel
theorem dX1_pickSticky_44 : decode cX1_pickSticky 44 = .ok (.iload_n 3, 1) := by decide +kernel
theorem dX1_pickSticky_45 : decode cX1_pickSticky 45 = .ok (.iastore, 1) := by decide +kernel
theorem dX1_pickSticky_46 : decode cX1_pickSticky 46 = .ok (.iload_n 3, 1) := by decide +kernel
theorem dX1_pickSticky_47 : decode cX1_pickSticky 47 = .ok (.ireturn, 1) := by decide +kernel
theorem dX1_attempt_0 : decode cX1_attempt 0 = .ok (.aload_n 0, 1) := by decide +kernel
theorem dX1_attempt_1 : decode cX1_attempt 1 = .ok (.iload_n 1, 1) := by decide +kernel
theorem dX1_attempt_2 : decode cX1_attempt 2 = .ok (.invokevirtual 225, 3) := by decide +kernel
theorem dX1_attempt_5 : decode cX1_attempt 5 = .ok (.ifCond .ne 5, 3) := by decide +kernel
theorem dX1_attempt_8 : decode cX1_attempt 8 = .ok (.iconst 0, 1) := by decide +kernel
theorem dX1_attempt_9 : decode cX1_attempt 9 = .ok (.ireturn, 1) := by decide +kernel
theorem dX1_attempt_10 : decode cX1_attempt 10 = .ok (.aload_n 0, 1) := by decide +kernel
theorem dX1_attempt_11 : decode cX1_attempt 11 = .ok (.getfield 11, 3) := by decide +kernel
theorem dX1_attempt_14 : decode cX1_attempt 14 = .ok (.iload_n 1, 1) := by decide +kernel
theorem dX1_attempt_15 : decode cX1_attempt 15 = .ok (.aaload, 1) := by decide +kernel
theorem dX1_attempt_16 : decode cX1_attempt 16 = .ok (.astore_n 3, 1) := by decide +kernel
theorem dX1_attempt_17 : decode cX1_attempt 17 = .ok (.aload_n 3, 1) := by decide +kernel
theorem dX1_attempt_18 : decode cX1_attempt 18 = .ok (.invokevirtual 228, 3) := by decide +kernel
theorem dX1_attempt_21 : decode cX1_attempt 21 = .ok (.istore 4, 2) := by decide +kernel
theorem dX1_attempt_23 : decode cX1_attempt 23 = .ok (.iload 4, 2) := by decide +kernel
theorem dX1_attempt_25 : decode cX1_attempt 25 = .ok (.ifCond .ne 15, 3) := by decide +kernel
theorem dX1_attempt_28 : decode cX1_attempt 28 = .ok (.aload_n 0, 1) := by decide +kernel
theorem dX1_attempt_29 : decode cX1_attempt 29 = .ok (.aload_n 3, 1) := by decide +kernel
theorem dX1_attempt_30 : decode cX1_attempt 30 = .ok (.invokevirtual 231, 3) := by decide +kernel
theorem dX1_attempt_33 : decode cX1_attempt 33 = .ok (.ifCond .eq 7, 3) := by decide +kernel
theorem dX1_attempt_36 : decode cX1_attempt 36 = .ok (.iconst 1, 1) := by decide +kernel
theorem dX1_attempt_37 : decode cX1_attempt 37 = .ok (.goto 4, 3) := by decide +kernel
theorem dX1_attempt_40 : decode cX1_attempt 40 = .ok (.iconst 0, 1) := by decide +kernel
theorem dX1_attempt_41 : decode cX1_attempt 41 = .ok (.istore 5, 2) := by decide +kernel
theorem dX1_attempt_43 : decode cX1_attempt 43 = .ok (.iload 5, 2) := by decide +kernel
theorem dX1_attempt_45 : decode cX1_attempt 45 = .ok (.ifCond .eq 29, 3) := by decide +kernel
theorem dX1_attempt_48 : decode cX1_attempt 48 = .ok (.aload_n 3, 1) := by decide +kernel
theorem dX1_attempt_49 : decode cX1_attempt 49 = .ok (.aload_n 0, 1) := by decide +kernel
theorem dX1_attempt_50 : decode cX1_attempt 50 = .ok (.getfield 19, 3) := by decide +kernel
theorem dX1_attempt_53 : decode cX1_attempt 53 = .ok (.aload_n 3, 1) := by decide +kernel
theorem dX1_attempt_54 : decode cX1_attempt 54 = .ok (.getfield 234, 3) := by decide +kernel
theorem dX1_attempt_57 : decode cX1_attempt 57 = .ok (.aaload, 1) := by decide +kernel
theorem dX1_attempt_58 : decode cX1_attempt 58 = .ok (.getfield 235, 3) := by decide +kernel
theorem dX1_attempt_61 : decode cX1_attempt 61 = .ok (.invokevirtual 238, 3) := by decide +kernel
theorem dX1_attempt_64 : decode cX1_attempt 64 = .ok (.aload_n 0, 1) := by decide +kernel
theorem dX1_attempt_65 : decode cX1_attempt 65 = .ok (.dup, 1) := by decide +kernel
theorem dX1_attempt_66 : decode cX1_attempt 66 = .ok (.getfield 83, 3) := by decide +kernel
theorem dX1_attempt_69 : decode cX1_attempt 69 = .ok (.iconst 1, 1) := by decide +kernel
theorem dX1_attempt_70 : decode cX1_attempt 70 = .ok (.iadd, 1) := by decide +kernel
theorem dX1_attempt_71 : decode cX1_attempt 71 = .ok (.putfield 83, 3) := by decide +kernel
theorem dX1_attempt_74 : decode cX1_attempt 74 = .ok (.aload_n 0, 1) := by decide +kernel
theorem dX1_attempt_75 : decode cX1_attempt 75 = .ok (.dup, 1) := by decide +kernel
theorem dX1_attempt_76 : decode cX1_attempt 76 = .ok (.getfield 77, 3) := by decide +kernel
theorem dX1_attempt_79 : decode cX1_attempt 79 = .ok (.iconst 1, 1) := by decide +kernel
theorem dX1_attempt_80 : decode cX1_attempt 80 = .ok (.iadd, 1) := by decide +kernel
theorem dX1_attempt_81 : decode cX1_attempt 81 = .ok (.putfield 77, 3) := by decide +kernel
theorem dX1_attempt_84 : decode cX1_attempt 84 = .ok (.aload_n 0, 1) := by decide +kernel
theorem dX1_attempt_85 : decode cX1_attempt 85 = .ok (.getfield 36, 3) := by decide +kernel
theorem dX1_attempt_88 : decode cX1_attempt 88 = .ok (.iload_n 1, 1) := by decide +kernel
theorem dX1_attempt_89 : decode cX1_attempt 89 = .ok (.iload 4, 2) := by decide +kernel
theorem dX1_attempt_91 : decode cX1_attempt 91 = .ok (.aload_n 3, 1) := by decide +kernel
theorem dX1_attempt_92 : decode cX1_attempt 92 = .ok (.getfield 204, 3) := by decide +kernel
theorem dX1_attempt_95 : decode cX1_attempt 95 = .ok (.iload_n 2, 1) := by decide +kernel
theorem dX1_attempt_96 : decode cX1_attempt 96 = .ok (.if_icmp .ne 7, 3) := by decide +kernel
theorem dX1_attempt_99 : decode cX1_attempt 99 = .ok (.iconst 1, 1) := by decide +kernel
theorem dX1_attempt_100 : decode cX1_attempt 100 = .ok (.goto 4, 3) := by decide +kernel
theorem dX1_attempt_103 : decode cX1_attempt 103 = .ok (.iconst 0, 1) := by decide +kernel
theorem dX1_attempt_104 : decode cX1_attempt 104 = .ok (.iload 5, 2) := by decide +kernel
theorem dX1_attempt_106 : decode cX1_attempt 106 = .ok (.invokevirtual 241, 3) := by decide +kernel
theorem dX1_attempt_109 : decode cX1_attempt 109 = .ok (.iload 4, 2) := by decide +kernel
theorem dX1_attempt_111 : decode cX1_attempt 111 = .ok (.ireturn, 1) := by decide +kernel
theorem dX1_isToEject_0 : decode cX1_isToEject 0 = .ok (.aload_n 0, 1) := by decide +kernel
theorem dX1_isToEject_1 : decode cX1_isToEject 1 = .ok (.getfield 19, 3) := by decide +kernel
theorem dX1_isToEject_4 : decode cX1_isToEject 4 = .ok (.aload_n 1, 1) := by decide +kernel
theorem dX1_isToEject_5 : decode cX1_isToEject 5 = .ok (.getfield 234, 3) := by decide +kernel
theorem dX1_isToEject_8 : decode cX1_isToEject 8 = .ok (.aaload, 1) := by decide +kernel
theorem dX1_isToEject_9 : decode cX1_isToEject 9 = .ok (.astore_n 2, 1) := by decide +kernel
theorem dX1_isToEject_10 : decode cX1_isToEject 10 = .ok (.aload_n 1, 1) := by decide +kernel
theorem dX1_isToEject_11 : decode cX1_isToEject 11 = .ok (.getfield 245, 3) := by decide +kernel
theorem dX1_isToEject_14 : decode cX1_isToEject 14 = .ok (.aload_n 2, 1) := by decide +kernel
theorem dX1_isToEject_15 : decode cX1_isToEject 15 = .ok (.getfield 108, 3) := by decide +kernel
theorem dX1_isToEject_18 : decode cX1_isToEject 18 = .ok (.if_icmp .lt 38, 3) := by decide +kernel
theorem dX1_isToEject_21 : decode cX1_isToEject 21 = .ok (.aload_n 0, 1) := by decide +kernel
theorem dX1_isToEject_22 : decode cX1_isToEject 22 = .ok (.aload_n 1, 1) := by decide +kernel
theorem dX1_isToEject_23 : decode cX1_isToEject 23 = .ok (.getfield 234, 3) := by decide +kernel
theorem dX1_isToEject_26 : decode cX1_isToEject 26 = .ok (.iconst 1, 1) := by decide +kernel
theorem dX1_isToEject_27 : decode cX1_isToEject 27 = .ok (.invokevirtual 248, 3) := by decide +kernel
theorem dX1_isToEject_30 : decode cX1_isToEject 30 = .ok (.iconst 1, 1) := by decide +kernel
theorem dX1_isToEject_31 : decode cX1_isToEject 31 = .ok (.iadd, 1) := by decide +kernel
theorem dX1_isToEject_32 : decode cX1_isToEject 32 = .ok (.bipush 100, 2) := by decide +kernel
theorem dX1_isToEject_34 : decode cX1_isToEject 34 = .ok (.imul, 1) := by decide +kernel
theorem dX1_isToEject_35 : decode cX1_isToEject 35 = .ok (.aload_n 2, 1) := by decide +kernel
theorem dX1_isToEject_36 : decode cX1_isToEject 36 = .ok (.getfield 252, 3) := by decide +kernel
theorem dX1_isToEject_39 : decode cX1_isToEject 39 = .ok (.aload_n 0, 1) := by decide +kernel
theorem dX1_isToEject_40 : decode cX1_isToEject 40 = .ok (.aload_n 1, 1) := by decide +kernel
theorem dX1_isToEject_41 : decode cX1_isToEject 41 = .ok (.getfield 234, 3) := by decide +kernel
theorem dX1_isToEject_44 : decode cX1_isToEject 44 = .ok (.iconst 0, 1) := by decide +kernel
theorem dX1_isToEject_45 : decode cX1_isToEject 45 = .ok (.invokevirtual 248, 3) := by decide +kernel
theorem dX1_isToEject_48 : decode cX1_isToEject 48 = .ok (.imul, 1) := by decide +kernel
theorem dX1_isToEject_49 : decode cX1_isToEject 49 = .ok (.if_icmp .gt 7, 3) := by decide +kernel
theorem dX1_isToEject_52 : decode cX1_isToEject 52 = .ok (.iconst 1, 1) := by decide +kernel
theorem dX1_isToEject_53 : decode cX1_isToEject 53 = .ok (.goto 4, 3) := by decide +kernel
theorem dX1_isToEject_56 : decode cX1_isToEject 56 = .ok (.iconst 0, 1) := by decide +kernel
theorem dX1_isToEject_57 : decode cX1_isToEject 57 = .ok (.ireturn, 1) := by decide +kernel
theorem dX1_countMembers_0 : decode cX1_countMembers 0 = .ok (.iconst 0, 1) := by decide +kernel
theorem dX1_countMembers_1 : decode cX1_countMembers 1 = .ok (.istore_n 3, 1) := by decide +kernel
theorem dX1_countMembers_2 : decode cX1_countMembers 2 = .ok (.iconst 0, 1) := by decide +kernel
theorem dX1_countMembers_3 : decode cX1_countMembers 3 = .ok (.istore 4, 2) := by decide +kernel
theorem dX1_countMembers_5 : decode cX1_countMembers 5 = .ok (.iload 4, 2) := by decide +kernel
theorem dX1_countMembers_7 : decode cX1_countMembers 7 = .ok (.aload_n 0, 1) := by decide +kernel
theorem dX1_countMembers_8 : decode cX1_countMembers 8 = .ok (.getfield 43, 3) := by decide +kernel
theorem dX1_countMembers_11 : decode cX1_countMembers 11 = .ok (.if_icmp .ge 50, 3) := by decide +kernel
theorem dX1_countMembers_14 : decode cX1_countMembers 14 = .ok (.aload_n 0, 1) := by decide +kernel
theorem dX1_countMembers_15 : decode cX1_countMembers 15 = .ok (.getfield 11, 3) := by decide +kernel
theorem dX1_countMembers_18 : decode cX1_countMembers 18 = .ok (.iload 4, 2) := by decide +kernel
theorem dX1_countMembers_20 : decode cX1_countMembers 20 = .ok (.aaload, 1) := by decide +kernel
theorem dX1_countMembers_21 : decode cX1_countMembers 21 = .ok (.astore 5, 2) := by decide +kernel
theorem dX1_countMembers_23 : decode cX1_countMembers 23 = .ok (.aload 5, 2) := by decide +kernel
theorem dX1_countMembers_25 : decode cX1_countMembers 25 = .ok (.getfield 234, 3) := by decide +kernel
theorem dX1_countMembers_28 : decode cX1_countMembers 28 = .ok (.iload_n 1, 1) := by decide +kernel
theorem dX1_countMembers_29 : decode cX1_countMembers 29 = .ok (.if_icmp .ne 26, 3) := by decide +kernel
theorem dX1_countMembers_32 : decode cX1_countMembers 32 = .ok (.aload 5, 2) := by decide +kernel
theorem dX1_countMembers_34 : decode cX1_countMembers 34 = .ok (.getfield 207, 3) := by decide +kernel
theorem dX1_countMembers_37 : decode cX1_countMembers 37 = .ok (.ifCond .le 18, 3) := by decide +kernel
theorem dX1_countMembers_40 : decode cX1_countMembers 40 = .ok (.iload_n 2, 1) := by decide +kernel
theorem dX1_countMembers_41 : decode cX1_countMembers 41 = .ok (.ifCond .eq 11, 3) := by decide +kernel
theorem dX1_countMembers_44 : decode cX1_countMembers 44 = .ok (.aload 5, 2) := by decide +kernel
theorem dX1_countMembers_46 : decode cX1_countMembers 46 = .ok (.getfield 98, 3) := by decide +kernel
theorem dX1_countMembers_49 : decode cX1_countMembers 49 = .ok (.ifCond .le 6, 3) := by decide +kernel
theorem dX1_countMembers_52 : decode cX1_countMembers 52 = .ok (.iinc 3 1, 3) := by decide +kernel
theorem dX1_countMembers_55 : decode cX1_countMembers 55 = .ok (.iinc 4 1, 3) := by decide +kernel
theorem dX1_countMembers_58 : decode cX1_countMembers 58 = .ok (.goto (-53), 3) := by decide +kernel
theorem dX1_countMembers_61 : decode cX1_countMembers 61 = .ok (.iload_n 3, 1) := by decide +kernel
theorem dX1_countMembers_62 : decode cX1_countMembers 62 = .ok (.ireturn, 1) := by decide +kernel
theorem dX1_mirror_0 : decode cX1_mirror 0 = .ok (.iconst (-1), 1) := by decide +kernel
theorem dX1_mirror_1 : decode cX1_mirror 1 = .ok (.istore_n 2, 1) := by decide +kernel
theorem dX1_mirror_2 : decode cX1_mirror 2 = .ok (.iconst 0, 1) := by decide +kernel
theorem dX1_mirror_3 : decode cX1_mirror 3 = .ok (.istore_n 3, 1) := by decide +kernel
theorem dX1_mirror_4 : decode cX1_mirror 4 = .ok (.iload_n 3, 1) := by decide +kernel
theorem dX1_mirror_5 : decode cX1_mirror 5 = .ok (.aload_n 0, 1) := by decide +kernel
theorem dX1_mirror_6 : decode cX1_mirror 6 = .ok (.getfield 43, 3) := by decide +kernel
theorem dX1_mirror_9 : decode cX1_mirror 9 = .ok (.if_icmp .ge 50, 3) := by decide +kernel
theorem dX1_mirror_12 : decode cX1_mirror 12 = .ok (.aload_n 0, 1) := by decide +kernel
theorem dX1_mirror_13 : decode cX1_mirror 13 = .ok (.getfield 11, 3) := by decide +kernel
theorem dX1_mirror_16 : decode cX1_mirror 16 = .ok (.iload_n 3, 1) := by decide +kernel
theorem dX1_mirror_17 : decode cX1_mirror 17 = .ok (.aaload, 1) := by decide +kernel
theorem dX1_mirror_18 : decode cX1_mirror 18 = .ok (.iload_n 1, 1) := by decide +kernel
theorem dX1_mirror_19 : decode cX1_mirror 19 = .ok (.invokevirtual 210, 3) := by decide +kernel
theorem dX1_mirror_22 : decode cX1_mirror 22 = .ok (.ifCond .eq 31, 3) := by decide +kernel
theorem dX1_mirror_25 : decode cX1_mirror 25 = .ok (.iload_n 2, 1) := by decide +kernel
theorem dX1_mirror_26 : decode cX1_mirror 26 = .ok (.iconst (-1), 1) := by decide +kernel
theorem dX1_mirror_27 : decode cX1_mirror 27 = .ok (.if_icmp .eq 24, 3) := by decide +kernel
theorem dX1_mirror_30 : decode cX1_mirror 30 = .ok (.aload_n 0, 1) := by decide +kernel
theorem dX1_mirror_31 : decode cX1_mirror 31 = .ok (.getfield 11, 3) := by decide +kernel
theorem dX1_mirror_34 : decode cX1_mirror 34 = .ok (.iload_n 3, 1) := by decide +kernel
theorem dX1_mirror_35 : decode cX1_mirror 35 = .ok (.aaload, 1) := by decide +kernel
theorem dX1_mirror_36 : decode cX1_mirror 36 = .ok (.getfield 255, 3) := by decide +kernel
theorem dX1_mirror_39 : decode cX1_mirror 39 = .ok (.aload_n 0, 1) := by decide +kernel
theorem dX1_mirror_40 : decode cX1_mirror 40 = .ok (.getfield 11, 3) := by decide +kernel
theorem dX1_mirror_43 : decode cX1_mirror 43 = .ok (.iload_n 2, 1) := by decide +kernel
theorem dX1_mirror_44 : decode cX1_mirror 44 = .ok (.aaload, 1) := by decide +kernel
theorem dX1_mirror_45 : decode cX1_mirror 45 = .ok (.getfield 255, 3) := by decide +kernel
theorem dX1_mirror_48 : decode cX1_mirror 48 = .ok (.if_icmp .ge 5, 3) := by decide +kernel
theorem dX1_mirror_51 : decode cX1_mirror 51 = .ok (.iload_n 3, 1) := by decide +kernel
theorem dX1_mirror_52 : decode cX1_mirror 52 = .ok (.istore_n 2, 1) := by decide +kernel
theorem dX1_mirror_53 : decode cX1_mirror 53 = .ok (.iinc 3 1, 3) := by decide +kernel
theorem dX1_mirror_56 : decode cX1_mirror 56 = .ok (.goto (-52), 3) := by decide +kernel
theorem dX1_mirror_59 : decode cX1_mirror 59 = .ok (.iload_n 2, 1) := by decide +kernel
theorem dX1_mirror_60 : decode cX1_mirror 60 = .ok (.iconst (-1), 1) := by decide +kernel
theorem dX1_mirror_61 : decode cX1_mirror 61 = .ok (.if_icmp .eq 22, 3) := by decide +kernel
theorem dX1_mirror_64 : decode cX1_mirror 64 = .ok (.aload_n 0, 1) := by decide +kernel
theorem dX1_mirror_65 : decode cX1_mirror 65 = .ok (.getfield 11, 3) := by decide +kernel
theorem dX1_mirror_68 : decode cX1_mirror 68 = .ok (.iload_n 2, 1) := by decide +kernel
theorem dX1_mirror_69 : decode cX1_mirror 69 = .ok (.aaload, 1) := by decide +kernel
theorem dX1_mirror_70 : decode cX1_mirror 70 = .ok (.invokevirtual 256, 3) := by decide +kernel
theorem dX1_mirror_73 : decode cX1_mirror 73 = .ok (.aload_n 0, 1) := by decide +kernel
theorem dX1_mirror_74 : decode cX1_mirror 74 = .ok (.dup, 1) := by decide +kernel
theorem dX1_mirror_75 : decode cX1_mirror 75 = .ok (.getfield 80, 3) := by decide +kernel
theorem dX1_mirror_78 : decode cX1_mirror 78 = .ok (.iconst 1, 1) := by decide +kernel
theorem dX1_mirror_79 : decode cX1_mirror 79 = .ok (.iadd, 1) := by decide +kernel
theorem dX1_mirror_80 : decode cX1_mirror 80 = .ok (.putfield 80, 3) := by decide +kernel
theorem dX1_mirror_83 : decode cX1_mirror 83 = .ok (.return_, 1) := by decide +kernel
theorem dX1_serviceProperty_0 : decode cX1_serviceProperty 0 = .ok (.aload_n 0, 1) := by decide +kernel
theorem dX1_serviceProperty_1 : decode cX1_serviceProperty 1 = .ok (.getfield 19, 3) := by decide +kernel
theorem dX1_serviceProperty_4 : decode cX1_serviceProperty 4 = .ok (.iload_n 1, 1) := by decide +kernel
theorem dX1_serviceProperty_5 : decode cX1_serviceProperty 5 = .ok (.aaload, 1) := by decide +kernel
theorem dX1_serviceProperty_6 : decode cX1_serviceProperty 6 = .ok (.astore_n 3, 1) := by decide +kernel
theorem dX1_serviceProperty_7 : decode cX1_serviceProperty 7 = .ok (.iload_n 2, 1) := by decide +kernel
theorem dX1_serviceProperty_8 : decode cX1_serviceProperty 8 = .ok (.tableswitch 143 0 12 #[68, 73, 78, 83, 88, 93, 98, 105, 112, 117, 122, 129, 136], 68) := by decide +kernel
theorem dX1_serviceProperty_76 : decode cX1_serviceProperty 76 = .ok (.aload_n 3, 1) := by decide +kernel
theorem dX1_serviceProperty_77 : decode cX1_serviceProperty 77 = .ok (.getfield 111, 3) := by decide +kernel
theorem dX1_serviceProperty_80 : decode cX1_serviceProperty 80 = .ok (.ireturn, 1) := by decide +kernel
theorem dX1_serviceProperty_81 : decode cX1_serviceProperty 81 = .ok (.aload_n 3, 1) := by decide +kernel
theorem dX1_serviceProperty_82 : decode cX1_serviceProperty 82 = .ok (.getfield 108, 3) := by decide +kernel
theorem dX1_serviceProperty_85 : decode cX1_serviceProperty 85 = .ok (.ireturn, 1) := by decide +kernel
theorem dX1_serviceProperty_86 : decode cX1_serviceProperty 86 = .ok (.aload_n 3, 1) := by decide +kernel
theorem dX1_serviceProperty_87 : decode cX1_serviceProperty 87 = .ok (.getfield 235, 3) := by decide +kernel
theorem dX1_serviceProperty_90 : decode cX1_serviceProperty 90 = .ok (.ireturn, 1) := by decide +kernel
theorem dX1_serviceProperty_91 : decode cX1_serviceProperty 91 = .ok (.aload_n 3, 1) := by decide +kernel
theorem dX1_serviceProperty_92 : decode cX1_serviceProperty 92 = .ok (.getfield 252, 3) := by decide +kernel
theorem dX1_serviceProperty_95 : decode cX1_serviceProperty 95 = .ok (.ireturn, 1) := by decide +kernel
theorem dX1_serviceProperty_96 : decode cX1_serviceProperty 96 = .ok (.aload_n 3, 1) := by decide +kernel
theorem dX1_serviceProperty_97 : decode cX1_serviceProperty 97 = .ok (.getfield 259, 3) := by decide +kernel
theorem dX1_serviceProperty_100 : decode cX1_serviceProperty 100 = .ok (.ireturn, 1) := by decide +kernel
theorem dX1_serviceProperty_101 : decode cX1_serviceProperty 101 = .ok (.aload_n 3, 1) := by decide +kernel
theorem dX1_serviceProperty_102 : decode cX1_serviceProperty 102 = .ok (.getfield 179, 3) := by decide +kernel
theorem dX1_serviceProperty_105 : decode cX1_serviceProperty 105 = .ok (.ireturn, 1) := by decide +kernel
theorem dX1_serviceProperty_106 : decode cX1_serviceProperty 106 = .ok (.aload_n 0, 1) := by decide +kernel
theorem dX1_serviceProperty_107 : decode cX1_serviceProperty 107 = .ok (.iload_n 1, 1) := by decide +kernel
theorem dX1_serviceProperty_108 : decode cX1_serviceProperty 108 = .ok (.iconst 0, 1) := by decide +kernel
theorem dX1_serviceProperty_109 : decode cX1_serviceProperty 109 = .ok (.invokevirtual 248, 3) := by decide +kernel
theorem dX1_serviceProperty_112 : decode cX1_serviceProperty 112 = .ok (.ireturn, 1) := by decide +kernel
theorem dX1_serviceProperty_113 : decode cX1_serviceProperty 113 = .ok (.aload_n 0, 1) := by decide +kernel
theorem dX1_serviceProperty_114 : decode cX1_serviceProperty 114 = .ok (.iload_n 1, 1) := by decide +kernel
theorem dX1_serviceProperty_115 : decode cX1_serviceProperty 115 = .ok (.iconst 1, 1) := by decide +kernel
theorem dX1_serviceProperty_116 : decode cX1_serviceProperty 116 = .ok (.invokevirtual 248, 3) := by decide +kernel
theorem dX1_serviceProperty_119 : decode cX1_serviceProperty 119 = .ok (.ireturn, 1) := by decide +kernel
theorem dX1_serviceProperty_120 : decode cX1_serviceProperty 120 = .ok (.aload_n 3, 1) := by decide +kernel
theorem dX1_serviceProperty_121 : decode cX1_serviceProperty 121 = .ok (.getfield 167, 3) := by decide +kernel
theorem dX1_serviceProperty_124 : decode cX1_serviceProperty 124 = .ok (.ireturn, 1) := by decide +kernel
theorem dX1_serviceProperty_125 : decode cX1_serviceProperty 125 = .ok (.aload_n 3, 1) := by decide +kernel
theorem dX1_serviceProperty_126 : decode cX1_serviceProperty 126 = .ok (.getfield 190, 3) := by decide +kernel
theorem dX1_serviceProperty_129 : decode cX1_serviceProperty 129 = .ok (.ireturn, 1) := by decide +kernel
theorem dX1_serviceProperty_130 : decode cX1_serviceProperty 130 = .ok (.aload_n 3, 1) := by decide +kernel
theorem dX1_serviceProperty_131 : decode cX1_serviceProperty 131 = .ok (.getfield 262, 3) := by decide +kernel
theorem dX1_serviceProperty_134 : decode cX1_serviceProperty 134 = .ok (.iconst 0, 1) := by decide +kernel
theorem dX1_serviceProperty_135 : decode cX1_serviceProperty 135 = .ok (.iaload, 1) := by decide +kernel
theorem dX1_serviceProperty_136 : decode cX1_serviceProperty 136 = .ok (.ireturn, 1) := by decide +kernel
theorem dX1_serviceProperty_137 : decode cX1_serviceProperty 137 = .ok (.aload_n 3, 1) := by decide +kernel
theorem dX1_serviceProperty_138 : decode cX1_serviceProperty 138 = .ok (.getfield 262, 3) := by decide +kernel
theorem dX1_serviceProperty_141 : decode cX1_serviceProperty 141 = .ok (.iconst 1, 1) := by decide +kernel
theorem dX1_serviceProperty_142 : decode cX1_serviceProperty 142 = .ok (.iaload, 1) := by decide +kernel
theorem dX1_serviceProperty_143 : decode cX1_serviceProperty 143 = .ok (.ireturn, 1) := by decide +kernel
theorem dX1_serviceProperty_144 : decode cX1_serviceProperty 144 = .ok (.aload_n 3, 1) := by decide +kernel
theorem dX1_serviceProperty_145 : decode cX1_serviceProperty 145 = .ok (.getfield 262, 3) := by decide +kernel
theorem dX1_serviceProperty_148 : decode cX1_serviceProperty 148 = .ok (.iconst 2, 1) := by decide +kernel
theorem dX1_serviceProperty_149 : decode cX1_serviceProperty 149 = .ok (.iaload, 1) := by decide +kernel
theorem dX1_serviceProperty_150 : decode cX1_serviceProperty 150 = .ok (.ireturn, 1) := by decide +kernel
theorem dX1_serviceProperty_151 : decode cX1_serviceProperty 151 = .ok (.bipush (-2), 2) := by decide +kernel
theorem dX1_serviceProperty_153 : decode cX1_serviceProperty 153 = .ok (.ireturn, 1) := by decide +kernel
theorem dX1_property_0 : decode cX1_property 0 = .ok (.iload_n 1, 1) := by decide +kernel
theorem dX1_property_1 : decode cX1_property 1 = .ok (.tableswitch 114 0 10 #[59, 64, 69, 74, 79, 84, 89, 94, 99, 104, 109], 59) := by decide +kernel
theorem dX1_property_60 : decode cX1_property 60 = .ok (.aload_n 0, 1) := by decide +kernel
theorem dX1_property_61 : decode cX1_property 61 = .ok (.getfield 43, 3) := by decide +kernel
theorem dX1_property_64 : decode cX1_property 64 = .ok (.ireturn, 1) := by decide +kernel
theorem dX1_property_65 : decode cX1_property 65 = .ok (.aload_n 0, 1) := by decide +kernel
theorem dX1_property_66 : decode cX1_property 66 = .ok (.getfield 53, 3) := by decide +kernel
theorem dX1_property_69 : decode cX1_property 69 = .ok (.ireturn, 1) := by decide +kernel
theorem dX1_property_70 : decode cX1_property 70 = .ok (.aload_n 0, 1) := by decide +kernel
theorem dX1_property_71 : decode cX1_property 71 = .ok (.getfield 62, 3) := by decide +kernel
theorem dX1_property_74 : decode cX1_property 74 = .ok (.ireturn, 1) := by decide +kernel
theorem dX1_property_75 : decode cX1_property 75 = .ok (.aload_n 0, 1) := by decide +kernel
theorem dX1_property_76 : decode cX1_property 76 = .ok (.getfield 65, 3) := by decide +kernel
theorem dX1_property_79 : decode cX1_property 79 = .ok (.ireturn, 1) := by decide +kernel
theorem dX1_property_80 : decode cX1_property 80 = .ok (.aload_n 0, 1) := by decide +kernel
theorem dX1_property_81 : decode cX1_property 81 = .ok (.getfield 68, 3) := by decide +kernel
theorem dX1_property_84 : decode cX1_property 84 = .ok (.ireturn, 1) := by decide +kernel
theorem dX1_property_85 : decode cX1_property 85 = .ok (.aload_n 0, 1) := by decide +kernel
theorem dX1_property_86 : decode cX1_property 86 = .ok (.getfield 71, 3) := by decide +kernel
theorem dX1_property_89 : decode cX1_property 89 = .ok (.ireturn, 1) := by decide +kernel
theorem dX1_property_90 : decode cX1_property 90 = .ok (.aload_n 0, 1) := by decide +kernel
theorem dX1_property_91 : decode cX1_property 91 = .ok (.getfield 74, 3) := by decide +kernel
theorem dX1_property_94 : decode cX1_property 94 = .ok (.ireturn, 1) := by decide +kernel
theorem dX1_property_95 : decode cX1_property 95 = .ok (.aload_n 0, 1) := by decide +kernel
theorem dX1_property_96 : decode cX1_property 96 = .ok (.getfield 77, 3) := by decide +kernel
theorem dX1_property_99 : decode cX1_property 99 = .ok (.ireturn, 1) := by decide +kernel
theorem dX1_property_100 : decode cX1_property 100 = .ok (.aload_n 0, 1) := by decide +kernel
theorem dX1_property_101 : decode cX1_property 101 = .ok (.getfield 80, 3) := by decide +kernel
theorem dX1_property_104 : decode cX1_property 104 = .ok (.ireturn, 1) := by decide +kernel
theorem dX1_property_105 : decode cX1_property 105 = .ok (.aload_n 0, 1) := by decide +kernel
theorem dX1_property_106 : decode cX1_property 106 = .ok (.getfield 83, 3) := by decide +kernel
theorem dX1_property_109 : decode cX1_property 109 = .ok (.ireturn, 1) := by decide +kernel
theorem dX1_property_110 : decode cX1_property 110 = .ok (.aload_n 0, 1) := by decide +kernel
theorem dX1_property_111 : decode cX1_property 111 = .ok (.getfield 59, 3) := by decide +kernel
theorem dX1_property_114 : decode cX1_property 114 = .ok (.ireturn, 1) := by decide +kernel
theorem dX1_property_115 : decode cX1_property 115 = .ok (.bipush (-2), 2) := by decide +kernel
theorem dX1_property_117 : decode cX1_property 117 = .ok (.ireturn, 1) := by decide +kernel
theorem dX2_init_0 : decode cX2_init 0 = .ok (.aload_n 0, 1) := by decide +kernel
theorem dX2_init_1 : decode cX2_init 1 = .ok (.invokespecial 3, 3) := by decide +kernel
theorem dX2_init_4 : decode cX2_init 4 = .ok (.aload_n 0, 1) := by decide +kernel
theorem dX2_init_5 : decode cX2_init 5 = .ok (.bipush 60, 2) := by decide +kernel
theorem dX2_init_7 : decode cX2_init 7 = .ok (.newarray .int, 2) := by decide +kernel
theorem dX2_init_9 : decode cX2_init 9 = .ok (.putfield 9, 3) := by decide +kernel
theorem dX2_init_12 : decode cX2_init 12 = .ok (.aload_n 0, 1) := by decide +kernel
theorem dX2_init_13 : decode cX2_init 13 = .ok (.bipush 60, 2) := by decide +kernel
theorem dX2_init_15 : decode cX2_init 15 = .ok (.newarray .int, 2) := by decide +kernel
theorem dX2_init_17 : decode cX2_init 17 = .ok (.putfield 15, 3) := by decide +kernel
theorem dX2_init_20 : decode cX2_init 20 = .ok (.aload_n 0, 1) := by decide +kernel
theorem dX2_init_21 : decode cX2_init 21 = .ok (.bipush 60, 2) := by decide +kernel
theorem dX2_init_23 : decode cX2_init 23 = .ok (.newarray .int, 2) := by decide +kernel
theorem dX2_init_25 : decode cX2_init 25 = .ok (.putfield 18, 3) := by decide +kernel
theorem dX2_init_28 : decode cX2_init 28 = .ok (.aload_n 0, 1) := by decide +kernel
theorem dX2_init_29 : decode cX2_init 29 = .ok (.bipush 60, 2) := by decide +kernel
theorem dX2_init_31 : decode cX2_init 31 = .ok (.newarray .int, 2) := by decide +kernel
theorem dX2_init_33 : decode cX2_init 33 = .ok (.putfield 21, 3) := by decide +kernel
theorem dX2_init_36 : decode cX2_init 36 = .ok (.aload_n 0, 1) := by decide +kernel
theorem dX2_init_37 : decode cX2_init 37 = .ok (.bipush 60, 2) := by decide +kernel
theorem dX2_init_39 : decode cX2_init 39 = .ok (.newarray .int, 2) := by decide +kernel
theorem dX2_init_41 : decode cX2_init 41 = .ok (.putfield 24, 3) := by decide +kernel
theorem dX2_init_44 : decode cX2_init 44 = .ok (.return_, 1) := by decide +kernel
theorem dX2_start_0 : decode cX2_start 0 = .ok (.aload_n 0, 1) := by decide +kernel
theorem dX2_start_1 : decode cX2_start 1 = .ok (.iconst 0, 1) := by decide +kernel
theorem dX2_start_2 : decode cX2_start 2 = .ok (.putfield 27, 3) := by decide +kernel
theorem dX2_start_5 : decode cX2_start 5 = .ok (.aload_n 0, 1) := by decide +kernel
theorem dX2_start_6 : decode cX2_start 6 = .ok (.iconst 1, 1) := by decide +kernel
theorem dX2_start_7 : decode cX2_start 7 = .ok (.putfield 31, 3) := by decide +kernel
theorem dX2_start_10 : decode cX2_start 10 = .ok (.return_, 1) := by decide +kernel
theorem dX2_stop_0 : decode cX2_stop 0 = .ok (.aload_n 0, 1) := by decide +kernel
theorem dX2_stop_1 : decode cX2_stop 1 = .ok (.iconst 0, 1) := by decide +kernel
theorem dX2_stop_2 : decode cX2_stop 2 = .ok (.putfield 27, 3) := by decide +kernel
theorem dX2_stop_5 : decode cX2_stop 5 = .ok (.aload_n 0, 1) := by decide +kernel
theorem dX2_stop_6 : decode cX2_stop 6 = .ok (.iconst 0, 1) := by decide +kernel
theorem dX2_stop_7 : decode cX2_stop 7 = .ok (.putfield 31, 3) := by decide +kernel
theorem dX2_stop_10 : decode cX2_stop 10 = .ok (.return_, 1) := by decide +kernel
theorem dX2_addRequest_0 : decode cX2_addRequest 0 = .ok (.aload_n 0, 1) := by decide +kernel
theorem dX2_addRequest_1 : decode cX2_addRequest 1 = .ok (.iconst 1, 1) := by decide +kernel
theorem dX2_addRequest_2 : decode cX2_addRequest 2 = .ok (.invokevirtual 35, 3) := by decide +kernel
theorem dX2_addRequest_5 : decode cX2_addRequest 5 = .ok (.ifCond .eq 54, 3) := by decide +kernel
theorem dX2_addRequest_8 : decode cX2_addRequest 8 = .ok (.aload_n 0, 1) := by decide +kernel
theorem dX2_addRequest_9 : decode cX2_addRequest 9 = .ok (.getfield 9, 3) := by decide +kernel
theorem dX2_addRequest_12 : decode cX2_addRequest 12 = .ok (.aload_n 0, 1) := by decide +kernel
theorem dX2_addRequest_13 : decode cX2_addRequest 13 = .ok (.getfield 27, 3) := by decide +kernel
theorem dX2_addRequest_16 : decode cX2_addRequest 16 = .ok (.iload_n 1, 1) := by decide +kernel
theorem dX2_addRequest_17 : decode cX2_addRequest 17 = .ok (.iastore, 1) := by decide +kernel
theorem dX2_addRequest_18 : decode cX2_addRequest 18 = .ok (.aload_n 0, 1) := by decide +kernel
theorem dX2_addRequest_19 : decode cX2_addRequest 19 = .ok (.getfield 15, 3) := by decide +kernel
theorem dX2_addRequest_22 : decode cX2_addRequest 22 = .ok (.aload_n 0, 1) := by decide +kernel
theorem dX2_addRequest_23 : decode cX2_addRequest 23 = .ok (.getfield 27, 3) := by decide +kernel
theorem dX2_addRequest_26 : decode cX2_addRequest 26 = .ok (.iload_n 2, 1) := by decide +kernel
theorem dX2_addRequest_27 : decode cX2_addRequest 27 = .ok (.iastore, 1) := by decide +kernel
theorem dX2_addRequest_28 : decode cX2_addRequest 28 = .ok (.aload_n 0, 1) := by decide +kernel
theorem dX2_addRequest_29 : decode cX2_addRequest 29 = .ok (.getfield 18, 3) := by decide +kernel
theorem dX2_addRequest_32 : decode cX2_addRequest 32 = .ok (.aload_n 0, 1) := by decide +kernel
theorem dX2_addRequest_33 : decode cX2_addRequest 33 = .ok (.getfield 27, 3) := by decide +kernel
theorem dX2_addRequest_36 : decode cX2_addRequest 36 = .ok (.iload_n 3, 1) := by decide +kernel
theorem dX2_addRequest_37 : decode cX2_addRequest 37 = .ok (.iastore, 1) := by decide +kernel
theorem dX2_addRequest_38 : decode cX2_addRequest 38 = .ok (.aload_n 0, 1) := by decide +kernel
theorem dX2_addRequest_39 : decode cX2_addRequest 39 = .ok (.getfield 21, 3) := by decide +kernel
theorem dX2_addRequest_42 : decode cX2_addRequest 42 = .ok (.aload_n 0, 1) := by decide +kernel
theorem dX2_addRequest_43 : decode cX2_addRequest 43 = .ok (.getfield 27, 3) := by decide +kernel
theorem dX2_addRequest_46 : decode cX2_addRequest 46 = .ok (.iload 4, 2) := by decide +kernel
theorem dX2_addRequest_48 : decode cX2_addRequest 48 = .ok (.iastore, 1) := by decide +kernel
theorem dX2_addRequest_49 : decode cX2_addRequest 49 = .ok (.aload_n 0, 1) := by decide +kernel
theorem dX2_addRequest_50 : decode cX2_addRequest 50 = .ok (.dup, 1) := by decide +kernel
theorem dX2_addRequest_51 : decode cX2_addRequest 51 = .ok (.getfield 27, 3) := by decide +kernel
theorem dX2_addRequest_54 : decode cX2_addRequest 54 = .ok (.iconst 1, 1) := by decide +kernel
theorem dX2_addRequest_55 : decode cX2_addRequest 55 = .ok (.iadd, 1) := by decide +kernel
theorem dX2_addRequest_56 : decode cX2_addRequest 56 = .ok (.putfield 27, 3) := by decide +kernel
theorem dX2_addRequest_59 : decode cX2_addRequest 59 = .ok (.return_, 1) := by decide +kernel
theorem dX2_addTicks_0 : decode cX2_addTicks 0 = .ok (.aload_n 0, 1) := by decide +kernel
theorem dX2_addTicks_1 : decode cX2_addTicks 1 = .ok (.iload_n 1, 1) := by decide +kernel
theorem dX2_addTicks_2 : decode cX2_addTicks 2 = .ok (.invokevirtual 35, 3) := by decide +kernel
theorem dX2_addTicks_5 : decode cX2_addTicks 5 = .ok (.ifCond .eq 37, 3) := by decide +kernel
theorem dX2_addTicks_8 : decode cX2_addTicks 8 = .ok (.iconst 0, 1) := by decide +kernel
theorem dX2_addTicks_9 : decode cX2_addTicks 9 = .ok (.istore_n 2, 1) := by decide +kernel
theorem dX2_addTicks_10 : decode cX2_addTicks 10 = .ok (.iload_n 2, 1) := by decide +kernel
theorem dX2_addTicks_11 : decode cX2_addTicks 11 = .ok (.iload_n 1, 1) := by decide +kernel
theorem dX2_addTicks_12 : decode cX2_addTicks 12 = .ok (.if_icmp .ge 30, 3) := by decide +kernel
theorem dX2_addTicks_15 : decode cX2_addTicks 15 = .ok (.aload_n 0, 1) := by decide +kernel
theorem dX2_addTicks_16 : decode cX2_addTicks 16 = .ok (.getfield 9, 3) := by decide +kernel
theorem dX2_addTicks_19 : decode cX2_addTicks 19 = .ok (.aload_n 0, 1) := by decide +kernel
theorem dX2_addTicks_20 : decode cX2_addTicks 20 = .ok (.getfield 27, 3) := by decide +kernel
theorem dX2_addTicks_23 : decode cX2_addTicks 23 = .ok (.bipush (-2), 2) := by decide +kernel
theorem dX2_addTicks_25 : decode cX2_addTicks 25 = .ok (.iastore, 1) := by decide +kernel
theorem dX2_addTicks_26 : decode cX2_addTicks 26 = .ok (.aload_n 0, 1) := by decide +kernel
theorem dX2_addTicks_27 : decode cX2_addTicks 27 = .ok (.dup, 1) := by decide +kernel
theorem dX2_addTicks_28 : decode cX2_addTicks 28 = .ok (.getfield 27, 3) := by decide +kernel
theorem dX2_addTicks_31 : decode cX2_addTicks 31 = .ok (.iconst 1, 1) := by decide +kernel
theorem dX2_addTicks_32 : decode cX2_addTicks 32 = .ok (.iadd, 1) := by decide +kernel
theorem dX2_addTicks_33 : decode cX2_addTicks 33 = .ok (.putfield 27, 3) := by decide +kernel
theorem dX2_addTicks_36 : decode cX2_addTicks 36 = .ok (.iinc 2 1, 3) := by decide +kernel
theorem dX2_addTicks_39 : decode cX2_addTicks 39 = .ok (.goto (-29), 3) := by decide +kernel
theorem dX2_addTicks_42 : decode cX2_addTicks 42 = .ok (.return_, 1) := by decide +kernel
theorem dX2_makesRoomFor_0 : decode cX2_makesRoomFor 0 = .ok (.aload_n 0, 1) := by decide +kernel
theorem dX2_makesRoomFor_1 : decode cX2_makesRoomFor 1 = .ok (.getfield 27, 3) := by decide +kernel
theorem dX2_makesRoomFor_4 : decode cX2_makesRoomFor 4 = .ok (.iload_n 1, 1) := by decide +kernel
theorem dX2_makesRoomFor_5 : decode cX2_makesRoomFor 5 = .ok (.iadd, 1) := by decide +kernel
theorem dX2_makesRoomFor_6 : decode cX2_makesRoomFor 6 = .ok (.bipush 60, 2) := by decide +kernel
theorem dX2_makesRoomFor_8 : decode cX2_makesRoomFor 8 = .ok (.if_icmp .le 7, 3) := by decide +kernel
theorem dX2_makesRoomFor_11 : decode cX2_makesRoomFor 11 = .ok (.aload_n 0, 1) := by decide +kernel
theorem dX2_makesRoomFor_12 : decode cX2_makesRoomFor 12 = .ok (.invokevirtual 39, 3) := by decide +kernel
theorem dX2_makesRoomFor_15 : decode cX2_makesRoomFor 15 = .ok (.aload_n 0, 1) := by decide +kernel
theorem dX2_makesRoomFor_16 : decode cX2_makesRoomFor 16 = .ok (.getfield 31, 3) := by decide +kernel
theorem dX2_makesRoomFor_19 : decode cX2_makesRoomFor 19 = .ok (.ireturn, 1) := by decide +kernel
theorem dX2_changedAnswers_0 : decode cX2_changedAnswers 0 = .ok (.iconst 0, 1) := by decide +kernel
theorem dX2_changedAnswers_1 : decode cX2_changedAnswers 1 = .ok (.istore_n 1, 1) := by decide +kernel
theorem dX2_changedAnswers_2 : decode cX2_changedAnswers 2 = .ok (.iconst 0, 1) := by decide +kernel
theorem dX2_changedAnswers_3 : decode cX2_changedAnswers 3 = .ok (.istore_n 2, 1) := by decide +kernel
theorem dX2_changedAnswers_4 : decode cX2_changedAnswers 4 = .ok (.iload_n 2, 1) := by decide +kernel
theorem dX2_changedAnswers_5 : decode cX2_changedAnswers 5 = .ok (.aload_n 0, 1) := by decide +kernel
theorem dX2_changedAnswers_6 : decode cX2_changedAnswers 6 = .ok (.getfield 27, 3) := by decide +kernel
theorem dX2_changedAnswers_9 : decode cX2_changedAnswers 9 = .ok (.if_icmp .ge 38, 3) := by decide +kernel
theorem dX2_changedAnswers_12 : decode cX2_changedAnswers 12 = .ok (.aload_n 0, 1) := by decide +kernel
theorem dX2_changedAnswers_13 : decode cX2_changedAnswers 13 = .ok (.getfield 9, 3) := by decide +kernel
theorem dX2_changedAnswers_16 : decode cX2_changedAnswers 16 = .ok (.iload_n 2, 1) := by decide +kernel
theorem dX2_changedAnswers_17 : decode cX2_changedAnswers 17 = .ok (.iaload, 1) := by decide +kernel
theorem dX2_changedAnswers_18 : decode cX2_changedAnswers 18 = .ok (.bipush (-2), 2) := by decide +kernel
theorem dX2_changedAnswers_20 : decode cX2_changedAnswers 20 = .ok (.if_icmp .eq 21, 3) := by decide +kernel
theorem dX2_changedAnswers_23 : decode cX2_changedAnswers 23 = .ok (.aload_n 0, 1) := by decide +kernel
theorem dX2_changedAnswers_24 : decode cX2_changedAnswers 24 = .ok (.getfield 24, 3) := by decide +kernel
theorem dX2_changedAnswers_27 : decode cX2_changedAnswers 27 = .ok (.iload_n 2, 1) := by decide +kernel
theorem dX2_changedAnswers_28 : decode cX2_changedAnswers 28 = .ok (.iaload, 1) := by decide +kernel
theorem dX2_changedAnswers_29 : decode cX2_changedAnswers 29 = .ok (.aload_n 0, 1) := by decide +kernel
theorem dX2_changedAnswers_30 : decode cX2_changedAnswers 30 = .ok (.getfield 21, 3) := by decide +kernel
theorem dX2_changedAnswers_33 : decode cX2_changedAnswers 33 = .ok (.iload_n 2, 1) := by decide +kernel
theorem dX2_changedAnswers_34 : decode cX2_changedAnswers 34 = .ok (.iaload, 1) := by decide +kernel
theorem dX2_changedAnswers_35 : decode cX2_changedAnswers 35 = .ok (.if_icmp .eq 6, 3) := by decide +kernel
theorem dX2_changedAnswers_38 : decode cX2_changedAnswers 38 = .ok (.iinc 1 1, 3) := by decide +kernel
theorem dX2_changedAnswers_41 : decode cX2_changedAnswers 41 = .ok (.iinc 2 1, 3) := by decide +kernel
theorem dX2_changedAnswers_44 : decode cX2_changedAnswers 44 = .ok (.goto (-40), 3) := by decide +kernel
theorem dX2_changedAnswers_47 : decode cX2_changedAnswers 47 = .ok (.iload_n 1, 1) := by decide +kernel
theorem dX2_changedAnswers_48 : decode cX2_changedAnswers 48 = .ok (.ireturn, 1) := by decide +kernel
theorem dX2_answersByBackends_0 : decode cX2_answersByBackends 0 = .ok (.iconst 0, 1) := by decide +kernel
theorem dX2_answersByBackends_1 : decode cX2_answersByBackends 1 = .ok (.istore_n 1, 1) := by decide +kernel
theorem dX2_answersByBackends_2 : decode cX2_answersByBackends 2 = .ok (.iconst 0, 1) := by decide +kernel
theorem dX2_answersByBackends_3 : decode cX2_answersByBackends 3 = .ok (.istore_n 2, 1) := by decide +kernel
theorem dX2_answersByBackends_4 : decode cX2_answersByBackends 4 = .ok (.iload_n 2, 1) := by decide +kernel
theorem dX2_answersByBackends_5 : decode cX2_answersByBackends 5 = .ok (.aload_n 0, 1) := by decide +kernel
theorem dX2_answersByBackends_6 : decode cX2_answersByBackends 6 = .ok (.getfield 27, 3) := by decide +kernel
theorem dX2_answersByBackends_9 : decode cX2_answersByBackends 9 = .ok (.if_icmp .ge 32, 3) := by decide +kernel
theorem dX2_answersByBackends_12 : decode cX2_answersByBackends 12 = .ok (.aload_n 0, 1) := by decide +kernel
theorem dX2_answersByBackends_13 : decode cX2_answersByBackends 13 = .ok (.getfield 9, 3) := by decide +kernel
theorem dX2_answersByBackends_16 : decode cX2_answersByBackends 16 = .ok (.iload_n 2, 1) := by decide +kernel
theorem dX2_answersByBackends_17 : decode cX2_answersByBackends 17 = .ok (.iaload, 1) := by decide +kernel
theorem dX2_answersByBackends_18 : decode cX2_answersByBackends 18 = .ok (.bipush (-2), 2) := by decide +kernel
theorem dX2_answersByBackends_20 : decode cX2_answersByBackends 20 = .ok (.if_icmp .eq 15, 3) := by decide +kernel
theorem dX2_answersByBackends_23 : decode cX2_answersByBackends 23 = .ok (.aload_n 0, 1) := by decide +kernel
theorem dX2_answersByBackends_24 : decode cX2_answersByBackends 24 = .ok (.getfield 24, 3) := by decide +kernel
theorem dX2_answersByBackends_27 : decode cX2_answersByBackends 27 = .ok (.iload_n 2, 1) := by decide +kernel
theorem dX2_answersByBackends_28 : decode cX2_answersByBackends 28 = .ok (.iaload, 1) := by decide +kernel
theorem dX2_answersByBackends_29 : decode cX2_answersByBackends 29 = .ok (.ifCond .lt 6, 3) := by decide +kernel
theorem dX2_answersByBackends_32 : decode cX2_answersByBackends 32 = .ok (.iinc 1 1, 3) := by decide +kernel
theorem dX2_answersByBackends_35 : decode cX2_answersByBackends 35 = .ok (.iinc 2 1, 3) := by decide +kernel
theorem dX2_answersByBackends_38 : decode cX2_answersByBackends 38 = .ok (.goto (-34), 3) := by decide +kernel
theorem dX2_answersByBackends_41 : decode cX2_answersByBackends 41 = .ok (.iload_n 1, 1) := by decide +kernel
theorem dX2_answersByBackends_42 : decode cX2_answersByBackends 42 = .ok (.ireturn, 1) := by decide +kernel
theorem dX3_init_0 : decode cX3_init 0 = .ok (.aload_n 0, 1) := by decide +kernel
theorem dX3_init_1 : decode cX3_init 1 = .ok (.invokespecial 3, 3) := by decide +kernel
theorem dX3_init_4 : decode cX3_init 4 = .ok (.aload_n 0, 1) := by decide +kernel
theorem dX3_init_5 : decode cX3_init 5 = .ok (.new 9, 3) := by decide +kernel
theorem dX3_init_8 : decode cX3_init 8 = .ok (.dup, 1) := by decide +kernel
theorem dX3_init_9 : decode cX3_init 9 = .ok (.invokespecial 11, 3) := by decide +kernel
theorem dX3_init_12 : decode cX3_init 12 = .ok (.putfield 12, 3) := by decide +kernel
theorem dX3_init_15 : decode cX3_init 15 = .ok (.aload_n 0, 1) := by decide +kernel
theorem dX3_init_16 : decode cX3_init 16 = .ok (.iconst 3, 1) := by decide +kernel
theorem dX3_init_17 : decode cX3_init 17 = .ok (.anewarray 18, 3) := by decide +kernel
theorem dX3_init_20 : decode cX3_init 20 = .ok (.putfield 20, 3) := by decide +kernel
theorem dX3_init_23 : decode cX3_init 23 = .ok (.iconst 0, 1) := by decide +kernel
theorem dX3_init_24 : decode cX3_init 24 = .ok (.istore_n 1, 1) := by decide +kernel
theorem dX3_init_25 : decode cX3_init 25 = .ok (.iload_n 1, 1) := by decide +kernel
theorem dX3_init_26 : decode cX3_init 26 = .ok (.iconst 3, 1) := by decide +kernel
theorem dX3_init_27 : decode cX3_init 27 = .ok (.if_icmp .ge 22, 3) := by decide +kernel
theorem dX3_init_30 : decode cX3_init 30 = .ok (.aload_n 0, 1) := by decide +kernel
theorem dX3_init_31 : decode cX3_init 31 = .ok (.getfield 20, 3) := by decide +kernel
theorem dX3_init_34 : decode cX3_init 34 = .ok (.iload_n 1, 1) := by decide +kernel
theorem dX3_init_35 : decode cX3_init 35 = .ok (.new 18, 3) := by decide +kernel
theorem dX3_init_38 : decode cX3_init 38 = .ok (.dup, 1) := by decide +kernel
theorem dX3_init_39 : decode cX3_init 39 = .ok (.invokespecial 24, 3) := by decide +kernel
theorem dX3_init_42 : decode cX3_init 42 = .ok (.aastore, 1) := by decide +kernel
theorem dX3_init_43 : decode cX3_init 43 = .ok (.iinc 1 1, 3) := by decide +kernel
theorem dX3_init_46 : decode cX3_init 46 = .ok (.goto (-21), 3) := by decide +kernel
theorem dX3_init_49 : decode cX3_init 49 = .ok (.aload_n 0, 1) := by decide +kernel
theorem dX3_init_50 : decode cX3_init 50 = .ok (.invokevirtual 25, 3) := by decide +kernel
theorem dX3_init_53 : decode cX3_init 53 = .ok (.return_, 1) := by decide +kernel
theorem dX3_begin_0 : decode cX3_begin 0 = .ok (.aload_n 0, 1) := by decide +kernel
theorem dX3_begin_1 : decode cX3_begin 1 = .ok (.getfield 12, 3) := by decide +kernel
theorem dX3_begin_4 : decode cX3_begin 4 = .ok (.invokevirtual 28, 3) := by decide +kernel
theorem dX3_begin_7 : decode cX3_begin 7 = .ok (.aload_n 0, 1) := by decide +kernel
theorem dX3_begin_8 : decode cX3_begin 8 = .ok (.iconst 0, 1) := by decide +kernel
theorem dX3_begin_9 : decode cX3_begin 9 = .ok (.putfield 31, 3) := by decide +kernel
theorem dX3_begin_12 : decode cX3_begin 12 = .ok (.aload_n 0, 1) := by decide +kernel
theorem dX3_begin_13 : decode cX3_begin 13 = .ok (.bipush 9, 2) := by decide +kernel
theorem dX3_begin_15 : decode cX3_begin 15 = .ok (.putfield 35, 3) := by decide +kernel
theorem dX3_begin_18 : decode cX3_begin 18 = .ok (.aload_n 0, 1) := by decide +kernel
theorem dX3_begin_19 : decode cX3_begin 19 = .ok (.iconst 0, 1) := by decide +kernel
theorem dX3_begin_20 : decode cX3_begin 20 = .ok (.putfield 38, 3) := by decide +kernel
theorem dX3_begin_23 : decode cX3_begin 23 = .ok (.aload_n 0, 1) := by decide +kernel
theorem dX3_begin_24 : decode cX3_begin 24 = .ok (.iconst 1, 1) := by decide +kernel
theorem dX3_begin_25 : decode cX3_begin 25 = .ok (.putfield 41, 3) := by decide +kernel
theorem dX3_begin_28 : decode cX3_begin 28 = .ok (.aload_n 0, 1) := by decide +kernel
theorem dX3_begin_29 : decode cX3_begin 29 = .ok (.iconst (-1), 1) := by decide +kernel
theorem dX3_begin_30 : decode cX3_begin 30 = .ok (.putfield 44, 3) := by decide +kernel
theorem dX3_begin_33 : decode cX3_begin 33 = .ok (.return_, 1) := by decide +kernel
theorem dX3_copyFrom_0 : decode cX3_copyFrom 0 = .ok (.aload_n 0, 1) := by decide +kernel
theorem dX3_copyFrom_1 : decode cX3_copyFrom 1 = .ok (.getfield 12, 3) := by decide +kernel
theorem dX3_copyFrom_4 : decode cX3_copyFrom 4 = .ok (.invokevirtual 28, 3) := by decide +kernel
theorem dX3_copyFrom_7 : decode cX3_copyFrom 7 = .ok (.aload_n 0, 1) := by decide +kernel
theorem dX3_copyFrom_8 : decode cX3_copyFrom 8 = .ok (.getfield 12, 3) := by decide +kernel
theorem dX3_copyFrom_11 : decode cX3_copyFrom 11 = .ok (.aload_n 1, 1) := by decide +kernel
theorem dX3_copyFrom_12 : decode cX3_copyFrom 12 = .ok (.getfield 12, 3) := by decide +kernel
theorem dX3_copyFrom_15 : decode cX3_copyFrom 15 = .ok (.invokevirtual 47, 3) := by decide +kernel
theorem dX3_copyFrom_18 : decode cX3_copyFrom 18 = .ok (.aload_n 0, 1) := by decide +kernel
theorem dX3_copyFrom_19 : decode cX3_copyFrom 19 = .ok (.aload_n 1, 1) := by decide +kernel
theorem dX3_copyFrom_20 : decode cX3_copyFrom 20 = .ok (.getfield 31, 3) := by decide +kernel
theorem dX3_copyFrom_23 : decode cX3_copyFrom 23 = .ok (.putfield 31, 3) := by decide +kernel
theorem dX3_copyFrom_26 : decode cX3_copyFrom 26 = .ok (.aload_n 0, 1) := by decide +kernel
theorem dX3_copyFrom_27 : decode cX3_copyFrom 27 = .ok (.aload_n 1, 1) := by decide +kernel
theorem dX3_copyFrom_28 : decode cX3_copyFrom 28 = .ok (.getfield 35, 3) := by decide +kernel
theorem dX3_copyFrom_31 : decode cX3_copyFrom 31 = .ok (.putfield 35, 3) := by decide +kernel
theorem dX3_copyFrom_34 : decode cX3_copyFrom 34 = .ok (.aload_n 0, 1) := by decide +kernel
theorem dX3_copyFrom_35 : decode cX3_copyFrom 35 = .ok (.aload_n 1, 1) := by decide +kernel
theorem dX3_copyFrom_36 : decode cX3_copyFrom 36 = .ok (.getfield 38, 3) := by decide +kernel
theorem dX3_copyFrom_39 : decode cX3_copyFrom 39 = .ok (.putfield 38, 3) := by decide +kernel
theorem dX3_copyFrom_42 : decode cX3_copyFrom 42 = .ok (.iconst 0, 1) := by decide +kernel
theorem dX3_copyFrom_43 : decode cX3_copyFrom 43 = .ok (.istore_n 2, 1) := by decide +kernel
theorem dX3_copyFrom_44 : decode cX3_copyFrom 44 = .ok (.iload_n 2, 1) := by decide +kernel
theorem dX3_copyFrom_45 : decode cX3_copyFrom 45 = .ok (.aload_n 0, 1) := by decide +kernel
theorem dX3_copyFrom_46 : decode cX3_copyFrom 46 = .ok (.getfield 38, 3) := by decide +kernel
theorem dX3_copyFrom_49 : decode cX3_copyFrom 49 = .ok (.if_icmp .ge 24, 3) := by decide +kernel
theorem dX3_copyFrom_52 : decode cX3_copyFrom 52 = .ok (.aload_n 0, 1) := by decide +kernel
theorem dX3_copyFrom_53 : decode cX3_copyFrom 53 = .ok (.getfield 20, 3) := by decide +kernel
theorem dX3_copyFrom_56 : decode cX3_copyFrom 56 = .ok (.iload_n 2, 1) := by decide +kernel
theorem dX3_copyFrom_57 : decode cX3_copyFrom 57 = .ok (.aaload, 1) := by decide +kernel
theorem dX3_copyFrom_58 : decode cX3_copyFrom 58 = .ok (.aload_n 1, 1) := by decide +kernel
theorem dX3_copyFrom_59 : decode cX3_copyFrom 59 = .ok (.getfield 20, 3) := by decide +kernel
theorem dX3_copyFrom_62 : decode cX3_copyFrom 62 = .ok (.iload_n 2, 1) := by decide +kernel
theorem dX3_copyFrom_63 : decode cX3_copyFrom 63 = .ok (.aaload, 1) := by decide +kernel
theorem dX3_copyFrom_64 : decode cX3_copyFrom 64 = .ok (.invokevirtual 51, 3) := by decide +kernel
theorem dX3_copyFrom_67 : decode cX3_copyFrom 67 = .ok (.iinc 2 1, 3) := by decide +kernel
theorem dX3_copyFrom_70 : decode cX3_copyFrom 70 = .ok (.goto (-26), 3) := by decide +kernel
theorem dX3_copyFrom_73 : decode cX3_copyFrom 73 = .ok (.aload_n 0, 1) := by decide +kernel
theorem dX3_copyFrom_74 : decode cX3_copyFrom 74 = .ok (.aload_n 1, 1) := by decide +kernel
theorem dX3_copyFrom_75 : decode cX3_copyFrom 75 = .ok (.getfield 41, 3) := by decide +kernel
theorem dX3_copyFrom_78 : decode cX3_copyFrom 78 = .ok (.putfield 41, 3) := by decide +kernel
theorem dX3_copyFrom_81 : decode cX3_copyFrom 81 = .ok (.aload_n 0, 1) := by decide +kernel
theorem dX3_copyFrom_82 : decode cX3_copyFrom 82 = .ok (.aload_n 1, 1) := by decide +kernel
theorem dX3_copyFrom_83 : decode cX3_copyFrom 83 = .ok (.getfield 44, 3) := by decide +kernel
theorem dX3_copyFrom_86 : decode cX3_copyFrom 86 = .ok (.putfield 44, 3) := by decide +kernel
theorem dX3_copyFrom_89 : decode cX3_copyFrom 89 = .ok (.return_, 1) := by decide +kernel
theorem dX3_matches_0 : decode cX3_matches 0 = .ok (.iload_n 2, 1) := by decide +kernel
theorem dX3_matches_1 : decode cX3_matches 1 = .ok (.aload_n 0, 1) := by decide +kernel
theorem dX3_matches_2 : decode cX3_matches 2 = .ok (.getfield 31, 3) := by decide +kernel
theorem dX3_matches_5 : decode cX3_matches 5 = .ok (.aload_n 0, 1) := by decide +kernel
theorem dX3_matches_6 : decode cX3_matches 6 = .ok (.getfield 35, 3) := by decide +kernel
theorem dX3_matches_9 : decode cX3_matches 9 = .ok (.invokestatic 55, 3) := by decide +kernel
theorem dX3_matches_12 : decode cX3_matches 12 = .ok (.ifCond .eq 18, 3) := by decide +kernel
theorem dX3_matches_15 : decode cX3_matches 15 = .ok (.aload_n 1, 1) := by decide +kernel
theorem dX3_matches_16 : decode cX3_matches 16 = .ok (.aload_n 0, 1) := by decide +kernel
theorem dX3_matches_17 : decode cX3_matches 17 = .ok (.getfield 12, 3) := by decide +kernel
theorem dX3_matches_20 : decode cX3_matches 20 = .ok (.invokevirtual 59, 3) := by decide +kernel
theorem dX3_matches_23 : decode cX3_matches 23 = .ok (.ifCond .eq 7, 3) := by decide +kernel
theorem dX3_matches_26 : decode cX3_matches 26 = .ok (.iconst 1, 1) := by decide +kernel
theorem dX3_matches_27 : decode cX3_matches 27 = .ok (.goto 4, 3) := by decide +kernel
theorem dX3_matches_30 : decode cX3_matches 30 = .ok (.iconst 0, 1) := by decide +kernel
theorem dX3_matches_31 : decode cX3_matches 31 = .ok (.ireturn, 1) := by decide +kernel
theorem dX3_hasTarget_0 : decode cX3_hasTarget 0 = .ok (.iconst 0, 1) := by decide +kernel
theorem dX3_hasTarget_1 : decode cX3_hasTarget 1 = .ok (.istore_n 2, 1) := by decide +kernel
theorem dX3_hasTarget_2 : decode cX3_hasTarget 2 = .ok (.iload_n 2, 1) := by decide +kernel
theorem dX3_hasTarget_3 : decode cX3_hasTarget 3 = .ok (.aload_n 0, 1) := by decide +kernel
theorem dX3_hasTarget_4 : decode cX3_hasTarget 4 = .ok (.getfield 38, 3) := by decide +kernel
theorem dX3_hasTarget_7 : decode cX3_hasTarget 7 = .ok (.if_icmp .ge 24, 3) := by decide +kernel
theorem dX3_hasTarget_10 : decode cX3_hasTarget 10 = .ok (.aload_n 0, 1) := by decide +kernel
theorem dX3_hasTarget_11 : decode cX3_hasTarget 11 = .ok (.getfield 20, 3) := by decide +kernel
theorem dX3_hasTarget_14 : decode cX3_hasTarget 14 = .ok (.iload_n 2, 1) := by decide +kernel
theorem dX3_hasTarget_15 : decode cX3_hasTarget 15 = .ok (.aaload, 1) := by decide +kernel
theorem dX3_hasTarget_16 : decode cX3_hasTarget 16 = .ok (.getfield 63, 3) := by decide +kernel
theorem dX3_hasTarget_19 : decode cX3_hasTarget 19 = .ok (.iload_n 1, 1) := by decide +kernel
theorem dX3_hasTarget_20 : decode cX3_hasTarget 20 = .ok (.if_icmp .ne 5, 3) := by decide +kernel
theorem dX3_hasTarget_23 : decode cX3_hasTarget 23 = .ok (.iconst 1, 1) := by decide +kernel
theorem dX3_hasTarget_24 : decode cX3_hasTarget 24 = .ok (.ireturn, 1) := by decide +kernel
theorem dX3_hasTarget_25 : decode cX3_hasTarget 25 = .ok (.iinc 2 1, 3) := by decide +kernel
theorem dX3_hasTarget_28 : decode cX3_hasTarget 28 = .ok (.goto (-26), 3) := by decide +kernel
theorem dX3_hasTarget_31 : decode cX3_hasTarget 31 = .ok (.iconst 0, 1) := by decide +kernel
theorem dX3_hasTarget_32 : decode cX3_hasTarget 32 = .ok (.ireturn, 1) := by decide +kernel
theorem dX3_takeTarget_0 : decode cX3_takeTarget 0 = .ok (.aload_n 0, 1) := by decide +kernel
theorem dX3_takeTarget_1 : decode cX3_takeTarget 1 = .ok (.getfield 38, 3) := by decide +kernel
theorem dX3_takeTarget_4 : decode cX3_takeTarget 4 = .ok (.iconst 3, 1) := by decide +kernel
theorem dX3_takeTarget_5 : decode cX3_takeTarget 5 = .ok (.if_icmp .ge 27, 3) := by decide +kernel
theorem dX3_takeTarget_8 : decode cX3_takeTarget 8 = .ok (.aload_n 0, 1) := by decide +kernel
theorem dX3_takeTarget_9 : decode cX3_takeTarget 9 = .ok (.getfield 20, 3) := by decide +kernel
theorem dX3_takeTarget_12 : decode cX3_takeTarget 12 = .ok (.aload_n 0, 1) := by decide +kernel
theorem dX3_takeTarget_13 : decode cX3_takeTarget 13 = .ok (.getfield 38, 3) := by decide +kernel
theorem dX3_takeTarget_16 : decode cX3_takeTarget 16 = .ok (.aaload, 1) := by decide +kernel
theorem dX3_takeTarget_17 : decode cX3_takeTarget 17 = .ok (.iload_n 1, 1) := by decide +kernel
theorem dX3_takeTarget_18 : decode cX3_takeTarget 18 = .ok (.iload_n 2, 1) := by decide +kernel
theorem dX3_takeTarget_19 : decode cX3_takeTarget 19 = .ok (.invokevirtual 66, 3) := by decide +kernel
theorem dX3_takeTarget_22 : decode cX3_takeTarget 22 = .ok (.aload_n 0, 1) := by decide +kernel
theorem dX3_takeTarget_23 : decode cX3_takeTarget 23 = .ok (.dup, 1) := by decide +kernel
theorem dX3_takeTarget_24 : decode cX3_takeTarget 24 = .ok (.getfield 38, 3) := by decide +kernel
theorem dX3_takeTarget_27 : decode cX3_takeTarget 27 = .ok (.iconst 1, 1) := by decide +kernel
theorem dX3_takeTarget_28 : decode cX3_takeTarget 28 = .ok (.iadd, 1) := by decide +kernel
theorem dX3_takeTarget_29 : decode cX3_takeTarget 29 = .ok (.putfield 38, 3) := by decide +kernel
theorem dX3_takeTarget_32 : decode cX3_takeTarget 32 = .ok (.return_, 1) := by decide +kernel
theorem dX3_printTo_0 : decode cX3_printTo 0 = .ok (.aload_n 1, 1) := by decide +kernel
theorem dX3_printTo_1 : decode cX3_printTo 1 = .ok (.invokevirtual 28, 3) := by decide +kernel
theorem dX3_printTo_4 : decode cX3_printTo 4 = .ok (.aload_n 1, 1) := by decide +kernel
theorem dX3_printTo_5 : decode cX3_printTo 5 = .ok (.aload_n 0, 1) := by decide +kernel
theorem dX3_printTo_6 : decode cX3_printTo 6 = .ok (.getfield 12, 3) := by decide +kernel
theorem dX3_printTo_9 : decode cX3_printTo 9 = .ok (.invokevirtual 47, 3) := by decide +kernel
theorem dX3_printTo_12 : decode cX3_printTo 12 = .ok (.aload_n 0, 1) := by decide +kernel
theorem dX3_printTo_13 : decode cX3_printTo 13 = .ok (.getfield 31, 3) := by decide +kernel
theorem dX3_printTo_16 : decode cX3_printTo 16 = .ok (.ifCond .ne 12, 3) := by decide +kernel
theorem dX3_printTo_19 : decode cX3_printTo 19 = .ok (.aload_n 0, 1) := by decide +kernel
theorem dX3_printTo_20 : decode cX3_printTo 20 = .ok (.getfield 35, 3) := by decide +kernel
theorem dX3_printTo_23 : decode cX3_printTo 23 = .ok (.bipush 9, 2) := by decide +kernel
theorem dX3_printTo_25 : decode cX3_printTo 25 = .ok (.if_icmp .eq 37, 3) := by decide +kernel
theorem dX3_printTo_28 : decode cX3_printTo 28 = .ok (.aload_n 1, 1) := by decide +kernel
theorem dX3_printTo_29 : decode cX3_printTo 29 = .ok (.bipush 91, 2) := by decide +kernel
theorem dX3_printTo_31 : decode cX3_printTo 31 = .ok (.invokevirtual 69, 3) := by decide +kernel
theorem dX3_printTo_34 : decode cX3_printTo 34 = .ok (.aload_n 1, 1) := by decide +kernel
theorem dX3_printTo_35 : decode cX3_printTo 35 = .ok (.aload_n 0, 1) := by decide +kernel
theorem dX3_printTo_36 : decode cX3_printTo 36 = .ok (.getfield 31, 3) := by decide +kernel
theorem dX3_printTo_39 : decode cX3_printTo 39 = .ok (.invokevirtual 73, 3) := by decide +kernel
theorem dX3_printTo_42 : decode cX3_printTo 42 = .ok (.aload_n 1, 1) := by decide +kernel
theorem dX3_printTo_43 : decode cX3_printTo 43 = .ok (.bipush 45, 2) := by decide +kernel
theorem dX3_printTo_45 : decode cX3_printTo 45 = .ok (.invokevirtual 69, 3) := by decide +kernel
theorem dX3_printTo_48 : decode cX3_printTo 48 = .ok (.aload_n 1, 1) := by decide +kernel
theorem dX3_printTo_49 : decode cX3_printTo 49 = .ok (.aload_n 0, 1) := by decide +kernel
theorem dX3_printTo_50 : decode cX3_printTo 50 = .ok (.getfield 35, 3) := by decide +kernel
theorem dX3_printTo_53 : decode cX3_printTo 53 = .ok (.invokevirtual 73, 3) := by decide +kernel
theorem dX3_printTo_56 : decode cX3_printTo 56 = .ok (.aload_n 1, 1) := by decide +kernel
theorem dX3_printTo_57 : decode cX3_printTo 57 = .ok (.bipush 93, 2) := by decide +kernel
theorem dX3_printTo_59 : decode cX3_printTo 59 = .ok (.invokevirtual 69, 3) := by decide +kernel
theorem dX3_printTo_62 : decode cX3_printTo 62 = .ok (.iconst 0, 1) := by decide +kernel
theorem dX3_printTo_63 : decode cX3_printTo 63 = .ok (.istore_n 2, 1) := by decide +kernel
theorem dX3_printTo_64 : decode cX3_printTo 64 = .ok (.iload_n 2, 1) := by decide +kernel
theorem dX3_printTo_65 : decode cX3_printTo 65 = .ok (.aload_n 0, 1) := by decide +kernel
theorem dX3_printTo_66 : decode cX3_printTo 66 = .ok (.getfield 38, 3) := by decide +kernel
theorem dX3_printTo_69 : decode cX3_printTo 69 = .ok (.if_icmp .ge 69, 3) := by decide +kernel
theorem dX3_printTo_72 : decode cX3_printTo 72 = .ok (.aload_n 1, 1) := by decide +kernel
theorem dX3_printTo_73 : decode cX3_printTo 73 = .ok (.iload_n 2, 1) := by decide +kernel
theorem dX3_printTo_74 : decode cX3_printTo 74 = .ok (.ifCond .ne 8, 3) := by decide +kernel
theorem dX3_printTo_77 : decode cX3_printTo 77 = .ok (.bipush 61, 2) := by decide +kernel
theorem dX3_printTo_79 : decode cX3_printTo 79 = .ok (.goto 5, 3) := by decide +kernel
theorem dX3_printTo_82 : decode cX3_printTo 82 = .ok (.bipush 44, 2) := by decide +kernel
theorem dX3_printTo_84 : decode cX3_printTo 84 = .ok (.invokevirtual 69, 3) := by decide +kernel
theorem dX3_printTo_87 : decode cX3_printTo 87 = .ok (.aload_n 1, 1) := by decide +kernel
theorem dX3_printTo_88 : decode cX3_printTo 88 = .ok (.aload_n 0, 1) := by decide +kernel
theorem dX3_printTo_89 : decode cX3_printTo 89 = .ok (.getfield 20, 3) := by decide +kernel
theorem dX3_printTo_92 : decode cX3_printTo 92 = .ok (.iload_n 2, 1) := by decide +kernel
theorem dX3_printTo_93 : decode cX3_printTo 93 = .ok (.aaload, 1) := by decide +kernel
theorem dX3_printTo_94 : decode cX3_printTo 94 = .ok (.getfield 63, 3) := by decide +kernel
theorem dX3_printTo_97 : decode cX3_printTo 97 = .ok (.invokevirtual 73, 3) := by decide +kernel
theorem dX3_printTo_100 : decode cX3_printTo 100 = .ok (.aload_n 0, 1) := by decide +kernel
theorem dX3_printTo_101 : decode cX3_printTo 101 = .ok (.getfield 20, 3) := by decide +kernel
theorem dX3_printTo_104 : decode cX3_printTo 104 = .ok (.iload_n 2, 1) := by decide +kernel
theorem dX3_printTo_105 : decode cX3_printTo 105 = .ok (.aaload, 1) := by decide +kernel
theorem dX3_printTo_106 : decode cX3_printTo 106 = .ok (.getfield 76, 3) := by decide +kernel
theorem dX3_printTo_109 : decode cX3_printTo 109 = .ok (.iconst 1, 1) := by decide +kernel
theorem dX3_printTo_110 : decode cX3_printTo 110 = .ok (.if_icmp .eq 22, 3) := by decide +kernel
theorem dX3_printTo_113 : decode cX3_printTo 113 = .ok (.aload_n 1, 1) := by decide +kernel
theorem dX3_printTo_114 : decode cX3_printTo 114 = .ok (.bipush 58, 2) := by decide +kernel
theorem dX3_printTo_116 : decode cX3_printTo 116 = .ok (.invokevirtual 69, 3) := by decide +kernel
theorem dX3_printTo_119 : decode cX3_printTo 119 = .ok (.aload_n 1, 1) := by decide +kernel
theorem dX3_printTo_120 : decode cX3_printTo 120 = .ok (.aload_n 0, 1) := by decide +kernel
theorem dX3_printTo_121 : decode cX3_printTo 121 = .ok (.getfield 20, 3) := by decide +kernel
theorem dX3_printTo_124 : decode cX3_printTo 124 = .ok (.iload_n 2, 1) := by decide +kernel
theorem dX3_printTo_125 : decode cX3_printTo 125 = .ok (.aaload, 1) := by decide +kernel
theorem dX3_printTo_126 : decode cX3_printTo 126 = .ok (.getfield 76, 3) := by decide +kernel
theorem dX3_printTo_129 : decode cX3_printTo 129 = .ok (.invokevirtual 73, 3) := by decide +kernel
theorem dX3_printTo_132 : decode cX3_printTo 132 = .ok (.iinc 2 1, 3) := by decide +kernel
theorem dX3_printTo_135 : decode cX3_printTo 135 = .ok (.goto (-71), 3) := by decide +kernel
theorem dX3_printTo_138 : decode cX3_printTo 138 = .ok (.aload_n 0, 1) := by decide +kernel
theorem dX3_printTo_139 : decode cX3_printTo 139 = .ok (.getfield 44, 3) := by decide +kernel
theorem dX3_printTo_142 : decode cX3_printTo 142 = .ok (.iconst (-1), 1) := by decide +kernel
theorem dX3_printTo_143 : decode cX3_printTo 143 = .ok (.if_icmp .eq 17, 3) := by decide +kernel
theorem dX3_printTo_146 : decode cX3_printTo 146 = .ok (.aload_n 1, 1) := by decide +kernel
theorem dX3_printTo_147 : decode cX3_printTo 147 = .ok (.bipush 126, 2) := by decide +kernel
theorem dX3_printTo_149 : decode cX3_printTo 149 = .ok (.invokevirtual 69, 3) := by decide +kernel
theorem dX3_printTo_152 : decode cX3_printTo 152 = .ok (.aload_n 1, 1) := by decide +kernel
theorem dX3_printTo_153 : decode cX3_printTo 153 = .ok (.aload_n 0, 1) := by decide +kernel
theorem dX3_printTo_154 : decode cX3_printTo 154 = .ok (.getfield 44, 3) := by decide +kernel
theorem dX3_printTo_157 : decode cX3_printTo 157 = .ok (.invokevirtual 73, 3) := by decide +kernel
theorem dX3_printTo_160 : decode cX3_printTo 160 = .ok (.aload_n 0, 1) := by decide +kernel
theorem dX3_printTo_161 : decode cX3_printTo 161 = .ok (.getfield 41, 3) := by decide +kernel
theorem dX3_printTo_164 : decode cX3_printTo 164 = .ok (.iconst 1, 1) := by decide +kernel
theorem dX3_printTo_165 : decode cX3_printTo 165 = .ok (.if_icmp .eq 17, 3) := by decide +kernel
theorem dX3_printTo_168 : decode cX3_printTo 168 = .ok (.aload_n 1, 1) := by decide +kernel
theorem dX3_printTo_169 : decode cX3_printTo 169 = .ok (.bipush 42, 2) := by decide +kernel
theorem dX3_printTo_171 : decode cX3_printTo 171 = .ok (.invokevirtual 69, 3) := by decide +kernel
theorem dX3_printTo_174 : decode cX3_printTo 174 = .ok (.aload_n 1, 1) := by decide +kernel
theorem dX3_printTo_175 : decode cX3_printTo 175 = .ok (.aload_n 0, 1) := by decide +kernel
theorem dX3_printTo_176 : decode cX3_printTo 176 = .ok (.getfield 41, 3) := by decide +kernel
theorem dX3_printTo_179 : decode cX3_printTo 179 = .ok (.invokevirtual 73, 3) := by decide +kernel
theorem dX3_printTo_182 : decode cX3_printTo 182 = .ok (.return_, 1) := by decide +kernel
theorem dX4_init_0 : decode cX4_init 0 = .ok (.aload_n 0, 1) := by decide +kernel
theorem dX4_init_1 : decode cX4_init 1 = .ok (.invokespecial 3, 3) := by decide +kernel
theorem dX4_init_4 : decode cX4_init 4 = .ok (.aload_n 0, 1) := by decide +kernel
theorem dX4_init_5 : decode cX4_init 5 = .ok (.new 9, 3) := by decide +kernel
theorem dX4_init_8 : decode cX4_init 8 = .ok (.dup, 1) := by decide +kernel
theorem dX4_init_9 : decode cX4_init 9 = .ok (.invokespecial 11, 3) := by decide +kernel
theorem dX4_init_12 : decode cX4_init 12 = .ok (.putfield 12, 3) := by decide +kernel
theorem dX4_init_15 : decode cX4_init 15 = .ok (.aload_n 0, 1) := by decide +kernel
theorem dX4_init_16 : decode cX4_init 16 = .ok (.aload_n 1, 1) := by decide +kernel
theorem dX4_init_17 : decode cX4_init 17 = .ok (.putfield 18, 3) := by decide +kernel
theorem dX4_init_20 : decode cX4_init 20 = .ok (.return_, 1) := by decide +kernel
theorem dX4_read_0 : decode cX4_read 0 = .ok (.aload_n 0, 1) := by decide +kernel
theorem dX4_read_1 : decode cX4_read 1 = .ok (.iconst 0, 1) := by decide +kernel
theorem dX4_read_2 : decode cX4_read 2 = .ok (.putfield 22, 3) := by decide +kernel
theorem dX4_read_5 : decode cX4_read 5 = .ok (.aload_n 0, 1) := by decide +kernel
theorem dX4_read_6 : decode cX4_read 6 = .ok (.getfield 12, 3) := by decide +kernel
theorem dX4_read_9 : decode cX4_read 9 = .ok (.invokevirtual 26, 3) := by decide +kernel
theorem dX4_read_12 : decode cX4_read 12 = .ok (.aload_n 0, 1) := by decide +kernel
theorem dX4_read_13 : decode cX4_read 13 = .ok (.invokevirtual 29, 3) := by decide +kernel
theorem dX4_read_16 : decode cX4_read 16 = .ok (.ifCond .eq 58, 3) := by decide +kernel
theorem dX4_read_19 : decode cX4_read 19 = .ok (.aload_n 0, 1) := by decide +kernel
theorem dX4_read_20 : decode cX4_read 20 = .ok (.invokevirtual 33, 3) := by decide +kernel
theorem dX4_read_23 : decode cX4_read 23 = .ok (.ifCond .eq 51, 3) := by decide +kernel
theorem dX4_read_26 : decode cX4_read 26 = .ok (.aload_n 0, 1) := by decide +kernel
theorem dX4_read_27 : decode cX4_read 27 = .ok (.bipush 61, 2) := by decide +kernel
theorem dX4_read_29 : decode cX4_read 29 = .ok (.invokevirtual 36, 3) := by decide +kernel
theorem dX4_read_32 : decode cX4_read 32 = .ok (.ifCond .eq 42, 3) := by decide +kernel
theorem dX4_read_35 : decode cX4_read 35 = .ok (.aload_n 0, 1) := by decide +kernel
theorem dX4_read_36 : decode cX4_read 36 = .ok (.invokevirtual 40, 3) := by decide +kernel
theorem dX4_read_39 : decode cX4_read 39 = .ok (.ifCond .eq 35, 3) := by decide +kernel
theorem dX4_read_42 : decode cX4_read 42 = .ok (.aload_n 0, 1) := by decide +kernel
theorem dX4_read_43 : decode cX4_read 43 = .ok (.invokevirtual 43, 3) := by decide +kernel
theorem dX4_read_46 : decode cX4_read 46 = .ok (.ifCond .eq 28, 3) := by decide +kernel
theorem dX4_read_49 : decode cX4_read 49 = .ok (.aload_n 0, 1) := by decide +kernel
theorem dX4_read_50 : decode cX4_read 50 = .ok (.invokevirtual 46, 3) := by decide +kernel
theorem dX4_read_53 : decode cX4_read 53 = .ok (.ifCond .eq 21, 3) := by decide +kernel
theorem dX4_read_56 : decode cX4_read 56 = .ok (.aload_n 0, 1) := by decide +kernel
theorem dX4_read_57 : decode cX4_read 57 = .ok (.getfield 22, 3) := by decide +kernel
theorem dX4_read_60 : decode cX4_read 60 = .ok (.aload_n 0, 1) := by decide +kernel
theorem dX4_read_61 : decode cX4_read 61 = .ok (.getfield 18, 3) := by decide +kernel
theorem dX4_read_64 : decode cX4_read 64 = .ok (.getfield 49, 3) := by decide +kernel
theorem dX4_read_67 : decode cX4_read 67 = .ok (.if_icmp .ne 7, 3) := by decide +kernel
theorem dX4_read_70 : decode cX4_read 70 = .ok (.iconst 1, 1) := by decide +kernel
theorem dX4_read_71 : decode cX4_read 71 = .ok (.goto 4, 3) := by decide +kernel
theorem dX4_read_74 : decode cX4_read 74 = .ok (.iconst 0, 1) := by decide +kernel
theorem dX4_read_75 : decode cX4_read 75 = .ok (.istore_n 1, 1) := by decide +kernel
theorem dX4_read_76 : decode cX4_read 76 = .ok (.iload_n 1, 1) := by decide +kernel
theorem dX4_read_77 : decode cX4_read 77 = .ok (.ifCond .eq 7, 3) := by decide +kernel
theorem dX4_read_80 : decode cX4_read 80 = .ok (.iconst (-1), 1) := by decide +kernel
theorem dX4_read_81 : decode cX4_read 81 = .ok (.goto 7, 3) := by decide +kernel
theorem dX4_read_84 : decode cX4_read 84 = .ok (.aload_n 0, 1) := by decide +kernel
theorem dX4_read_85 : decode cX4_read 85 = .ok (.getfield 22, 3) := by decide +kernel
theorem dX4_read_88 : decode cX4_read 88 = .ok (.ireturn, 1) := by decide +kernel
theorem dX4_readPrefix_0 : decode cX4_readPrefix 0 = .ok (.aload_n 0, 1) := by decide +kernel
theorem dX4_readPrefix_1 : decode cX4_readPrefix 1 = .ok (.getfield 18, 3) := by decide +kernel
theorem dX4_readPrefix_4 : decode cX4_readPrefix 4 = .ok (.iconst 0, 1) := by decide +kernel
theorem dX4_readPrefix_5 : decode cX4_readPrefix 5 = .ok (.invokevirtual 54, 3) := by decide +kernel
theorem dX4_readPrefix_8 : decode cX4_readPrefix 8 = .ok (.bipush 47, 2) := by decide +kernel
theorem dX4_readPrefix_10 : decode cX4_readPrefix 10 = .ok (.if_icmp .eq 5, 3) := by decide +kernel
theorem dX4_readPrefix_13 : decode cX4_readPrefix 13 = .ok (.iconst 0, 1) := by decide +kernel
theorem dX4_readPrefix_14 : decode cX4_readPrefix 14 = .ok (.ireturn, 1) := by decide +kernel
theorem dX4_readPrefix_15 : decode cX4_readPrefix 15 = .ok (.aload_n 0, 1) := by decide +kernel
theorem dX4_readPrefix_16 : decode cX4_readPrefix 16 = .ok (.getfield 22, 3) := by decide +kernel
theorem dX4_readPrefix_19 : decode cX4_readPrefix 19 = .ok (.aload_n 0, 1) := by decide +kernel
theorem dX4_readPrefix_20 : decode cX4_readPrefix 20 = .ok (.getfield 18, 3) := by decide +kernel
theorem dX4_readPrefix_23 : decode cX4_readPrefix 23 = .ok (.getfield 49, 3) := by decide +kernel
theorem dX4_readPrefix_26 : decode cX4_readPrefix 26 = .ok (.if_icmp .ge 54, 3) := by decide +kernel
theorem dX4_readPrefix_29 : decode cX4_readPrefix 29 = .ok (.aload_n 0, 1) := by decide +kernel
theorem dX4_readPrefix_30 : decode cX4_readPrefix 30 = .ok (.getfield 18, 3) := by decide +kernel
theorem dX4_readPrefix_33 : decode cX4_readPrefix 33 = .ok (.aload_n 0, 1) := by decide +kernel
theorem dX4_readPrefix_34 : decode cX4_readPrefix 34 = .ok (.getfield 22, 3) := by decide +kernel
theorem dX4_readPrefix_37 : decode cX4_readPrefix 37 = .ok (.invokevirtual 54, 3) := by decide +kernel
theorem dX4_readPrefix_40 : decode cX4_readPrefix 40 = .ok (.invokestatic 58, 3) := by decide +kernel
theorem dX4_readPrefix_43 : decode cX4_readPrefix 43 = .ok (.ifCond .eq 37, 3) := by decide +kernel
theorem dX4_readPrefix_46 : decode cX4_readPrefix 46 = .ok (.aload_n 0, 1) := by decide +kernel
theorem dX4_readPrefix_47 : decode cX4_readPrefix 47 = .ok (.getfield 12, 3) := by decide +kernel
theorem dX4_readPrefix_50 : decode cX4_readPrefix 50 = .ok (.getfield 62, 3) := by decide +kernel
theorem dX4_readPrefix_53 : decode cX4_readPrefix 53 = .ok (.aload_n 0, 1) := by decide +kernel
theorem dX4_readPrefix_54 : decode cX4_readPrefix 54 = .ok (.getfield 18, 3) := by decide +kernel
theorem dX4_readPrefix_57 : decode cX4_readPrefix 57 = .ok (.aload_n 0, 1) := by decide +kernel
theorem dX4_readPrefix_58 : decode cX4_readPrefix 58 = .ok (.getfield 22, 3) := by decide +kernel
theorem dX4_readPrefix_61 : decode cX4_readPrefix 61 = .ok (.invokevirtual 54, 3) := by decide +kernel
theorem dX4_readPrefix_64 : decode cX4_readPrefix 64 = .ok (.invokevirtual 65, 3) := by decide +kernel
theorem dX4_readPrefix_67 : decode cX4_readPrefix 67 = .ok (.aload_n 0, 1) := by decide +kernel
theorem dX4_readPrefix_68 : decode cX4_readPrefix 68 = .ok (.dup, 1) := by decide +kernel
theorem dX4_readPrefix_69 : decode cX4_readPrefix 69 = .ok (.getfield 22, 3) := by decide +kernel
theorem dX4_readPrefix_72 : decode cX4_readPrefix 72 = .ok (.iconst 1, 1) := by decide +kernel
theorem dX4_readPrefix_73 : decode cX4_readPrefix 73 = .ok (.iadd, 1) := by decide +kernel
theorem dX4_readPrefix_74 : decode cX4_readPrefix 74 = .ok (.putfield 22, 3) := by decide +kernel
theorem dX4_readPrefix_77 : decode cX4_readPrefix 77 = .ok (.goto (-62), 3) := by decide +kernel
theorem dX4_readPrefix_80 : decode cX4_readPrefix 80 = .ok (.iconst 1, 1) := by decide +kernel
theorem dX4_readPrefix_81 : decode cX4_readPrefix 81 = .ok (.ireturn, 1) := by decide +kernel
theorem dX4_readRange_0 : decode cX4_readRange 0 = .ok (.aload_n 0, 1) := by decide +kernel
theorem dX4_readRange_1 : decode cX4_readRange 1 = .ok (.bipush 91, 2) := by decide +kernel
theorem dX4_readRange_3 : decode cX4_readRange 3 = .ok (.invokevirtual 36, 3) := by decide +kernel
theorem dX4_readRange_6 : decode cX4_readRange 6 = .ok (.ifCond .ne 5, 3) := by decide +kernel
theorem dX4_readRange_9 : decode cX4_readRange 9 = .ok (.iconst 1, 1) := by decide +kernel
theorem dX4_readRange_10 : decode cX4_readRange 10 = .ok (.ireturn, 1) := by decide +kernel
theorem dX4_readRange_11 : decode cX4_readRange 11 = .ok (.aload_n 0, 1) := by decide +kernel
theorem dX4_readRange_12 : decode cX4_readRange 12 = .ok (.iconst 0, 1) := by decide +kernel
theorem dX4_readRange_13 : decode cX4_readRange 13 = .ok (.bipush 9, 2) := by decide +kernel
theorem dX4_readRange_15 : decode cX4_readRange 15 = .ok (.invokevirtual 69, 3) := by decide +kernel
theorem dX4_readRange_18 : decode cX4_readRange 18 = .ok (.istore_n 1, 1) := by decide +kernel
theorem dX4_readRange_19 : decode cX4_readRange 19 = .ok (.iload_n 1, 1) := by decide +kernel
theorem dX4_readRange_20 : decode cX4_readRange 20 = .ok (.iconst (-1), 1) := by decide +kernel
theorem dX4_readRange_21 : decode cX4_readRange 21 = .ok (.if_icmp .eq 12, 3) := by decide +kernel
theorem dX4_readRange_24 : decode cX4_readRange 24 = .ok (.aload_n 0, 1) := by decide +kernel
theorem dX4_readRange_25 : decode cX4_readRange 25 = .ok (.bipush 45, 2) := by decide +kernel
theorem dX4_readRange_27 : decode cX4_readRange 27 = .ok (.invokevirtual 36, 3) := by decide +kernel
theorem dX4_readRange_30 : decode cX4_readRange 30 = .ok (.ifCond .ne 5, 3) := by decide +kernel
theorem dX4_readRange_33 : decode cX4_readRange 33 = .ok (.iconst 0, 1) := by decide +kernel
theorem dX4_readRange_34 : decode cX4_readRange 34 = .ok (.ireturn, 1) := by decide +kernel
theorem dX4_readRange_35 : decode cX4_readRange 35 = .ok (.aload_n 0, 1) := by decide +kernel
theorem dX4_readRange_36 : decode cX4_readRange 36 = .ok (.iload_n 1, 1) := by decide +kernel
theorem dX4_readRange_37 : decode cX4_readRange 37 = .ok (.bipush 9, 2) := by decide +kernel
theorem dX4_readRange_39 : decode cX4_readRange 39 = .ok (.invokevirtual 69, 3) := by decide +kernel
theorem dX4_readRange_42 : decode cX4_readRange 42 = .ok (.istore_n 2, 1) := by decide +kernel
theorem dX4_readRange_43 : decode cX4_readRange 43 = .ok (.aload_n 0, 1) := by decide +kernel
theorem dX4_readRange_44 : decode cX4_readRange 44 = .ok (.getfield 12, 3) := by decide +kernel
theorem dX4_readRange_47 : decode cX4_readRange 47 = .ok (.iload_n 1, 1) := by decide +kernel
theorem dX4_readRange_48 : decode cX4_readRange 48 = .ok (.putfield 73, 3) := by decide +kernel
theorem dX4_readRange_51 : decode cX4_readRange 51 = .ok (.aload_n 0, 1) := by decide +kernel
theorem dX4_readRange_52 : decode cX4_readRange 52 = .ok (.getfield 12, 3) := by decide +kernel
theorem dX4_readRange_55 : decode cX4_readRange 55 = .ok (.iload_n 2, 1) := by decide +kernel
theorem dX4_readRange_56 : decode cX4_readRange 56 = .ok (.putfield 76, 3) := by decide +kernel
theorem dX4_readRange_59 : decode cX4_readRange 59 = .ok (.iload_n 2, 1) := by decide +kernel
theorem dX4_readRange_60 : decode cX4_readRange 60 = .ok (.iconst (-1), 1) := by decide +kernel
theorem dX4_readRange_61 : decode cX4_readRange 61 = .ok (.if_icmp .eq 16, 3) := by decide +kernel
theorem dX4_readRange_64 : decode cX4_readRange 64 = .ok (.aload_n 0, 1) := by decide +kernel
theorem dX4_readRange_65 : decode cX4_readRange 65 = .ok (.bipush 93, 2) := by decide +kernel
theorem dX4_readRange_67 : decode cX4_readRange 67 = .ok (.invokevirtual 36, 3) := by decide +kernel
theorem dX4_readRange_70 : decode cX4_readRange 70 = .ok (.ifCond .eq 7, 3) := by decide +kernel
theorem dX4_readRange_73 : decode cX4_readRange 73 = .ok (.iconst 1, 1) := by decide +kernel
theorem dX4_readRange_74 : decode cX4_readRange 74 = .ok (.goto 4, 3) := by decide +kernel
theorem dX4_readRange_77 : decode cX4_readRange 77 = .ok (.iconst 0, 1) := by decide +kernel
theorem dX4_readRange_78 : decode cX4_readRange 78 = .ok (.ireturn, 1) := by decide +kernel
theorem dX4_readTargets_0 : decode cX4_readTargets 0 = .ok (.iconst 0, 1) := by decide +kernel
theorem dX4_readTargets_1 : decode cX4_readTargets 1 = .ok (.istore_n 1, 1) := by decide +kernel
theorem dX4_readTargets_2 : decode cX4_readTargets 2 = .ok (.iload_n 1, 1) := by decide +kernel
theorem dX4_readTargets_3 : decode cX4_readTargets 3 = .ok (.iconst 3, 1) := by decide +kernel
theorem dX4_readTargets_4 : decode cX4_readTargets 4 = .ok (.if_icmp .ge 33, 3) := by decide +kernel
theorem dX4_readTargets_7 : decode cX4_readTargets 7 = .ok (.iload_n 1, 1) := by decide +kernel
theorem dX4_readTargets_8 : decode cX4_readTargets 8 = .ok (.ifCond .le 14, 3) := by decide +kernel
theorem dX4_readTargets_11 : decode cX4_readTargets 11 = .ok (.aload_n 0, 1) := by decide +kernel
theorem dX4_readTargets_12 : decode cX4_readTargets 12 = .ok (.bipush 44, 2) := by decide +kernel
theorem dX4_readTargets_14 : decode cX4_readTargets 14 = .ok (.invokevirtual 36, 3) := by decide +kernel
theorem dX4_readTargets_17 : decode cX4_readTargets 17 = .ok (.ifCond .ne 5, 3) := by decide +kernel
theorem dX4_readTargets_20 : decode cX4_readTargets 20 = .ok (.iconst 1, 1) := by decide +kernel
theorem dX4_readTargets_21 : decode cX4_readTargets 21 = .ok (.ireturn, 1) := by decide +kernel
theorem dX4_readTargets_22 : decode cX4_readTargets 22 = .ok (.aload_n 0, 1) := by decide +kernel
theorem dX4_readTargets_23 : decode cX4_readTargets 23 = .ok (.invokevirtual 79, 3) := by decide +kernel
theorem dX4_readTargets_26 : decode cX4_readTargets 26 = .ok (.ifCond .ne 5, 3) := by decide +kernel
theorem dX4_readTargets_29 : decode cX4_readTargets 29 = .ok (.iconst 0, 1) := by decide +kernel
theorem dX4_readTargets_30 : decode cX4_readTargets 30 = .ok (.ireturn, 1) := by decide +kernel
theorem dX4_readTargets_31 : decode cX4_readTargets 31 = .ok (.iinc 1 1, 3) := by decide +kernel
theorem dX4_readTargets_34 : decode cX4_readTargets 34 = .ok (.goto (-32), 3) := by decide +kernel
theorem dX4_readTargets_37 : decode cX4_readTargets 37 = .ok (.iconst 1, 1) := by decide +kernel
theorem dX4_readTargets_38 : decode cX4_readTargets 38 = .ok (.ireturn, 1) := by decide +kernel
theorem dX4_readTarget_0 : decode cX4_readTarget 0 = .ok (.aload_n 0, 1) := by decide +kernel
theorem dX4_readTarget_1 : decode cX4_readTarget 1 = .ok (.getfield 12, 3) := by decide +kernel
theorem dX4_readTarget_4 : decode cX4_readTarget 4 = .ok (.aload_n 0, 1) := by decide +kernel
theorem dX4_readTarget_5 : decode cX4_readTarget 5 = .ok (.getfield 18, 3) := by decide +kernel
theorem dX4_readTarget_8 : decode cX4_readTarget 8 = .ok (.aload_n 0, 1) := by decide +kernel
theorem dX4_readTarget_9 : decode cX4_readTarget 9 = .ok (.getfield 22, 3) := by decide +kernel
theorem dX4_readTarget_12 : decode cX4_readTarget 12 = .ok (.invokevirtual 54, 3) := by decide +kernel
theorem dX4_readTarget_15 : decode cX4_readTarget 15 = .ok (.bipush 48, 2) := by decide +kernel
theorem dX4_readTarget_17 : decode cX4_readTarget 17 = .ok (.isub, 1) := by decide +kernel
theorem dX4_readTarget_18 : decode cX4_readTarget 18 = .ok (.invokevirtual 82, 3) := by decide +kernel
theorem dX4_readTarget_21 : decode cX4_readTarget 21 = .ok (.ifCond .eq 5, 3) := by decide +kernel
theorem dX4_readTarget_24 : decode cX4_readTarget 24 = .ok (.iconst 0, 1) := by decide +kernel
theorem dX4_readTarget_25 : decode cX4_readTarget 25 = .ok (.ireturn, 1) := by decide +kernel
theorem dX4_readTarget_26 : decode cX4_readTarget 26 = .ok (.aload_n 0, 1) := by decide +kernel
theorem dX4_readTarget_27 : decode cX4_readTarget 27 = .ok (.iconst 0, 1) := by decide +kernel
theorem dX4_readTarget_28 : decode cX4_readTarget 28 = .ok (.iconst 3, 1) := by decide +kernel
theorem dX4_readTarget_29 : decode cX4_readTarget 29 = .ok (.invokevirtual 69, 3) := by decide +kernel
theorem dX4_readTarget_32 : decode cX4_readTarget 32 = .ok (.istore_n 1, 1) := by decide +kernel
theorem dX4_readTarget_33 : decode cX4_readTarget 33 = .ok (.iload_n 1, 1) := by decide +kernel
theorem dX4_readTarget_34 : decode cX4_readTarget 34 = .ok (.iconst (-1), 1) := by decide +kernel
theorem dX4_readTarget_35 : decode cX4_readTarget 35 = .ok (.if_icmp .ne 5, 3) := by decide +kernel
theorem dX4_readTarget_38 : decode cX4_readTarget 38 = .ok (.iconst 0, 1) := by decide +kernel
theorem dX4_readTarget_39 : decode cX4_readTarget 39 = .ok (.ireturn, 1) := by decide +kernel
theorem dX4_readTarget_40 : decode cX4_readTarget 40 = .ok (.aload_n 0, 1) := by decide +kernel
theorem dX4_readTarget_41 : decode cX4_readTarget 41 = .ok (.bipush 58, 2) := by decide +kernel
theorem dX4_readTarget_43 : decode cX4_readTarget 43 = .ok (.invokevirtual 36, 3) := by decide +kernel
theorem dX4_readTarget_46 : decode cX4_readTarget 46 = .ok (.ifCond .eq 13, 3) := by decide +kernel
theorem dX4_readTarget_49 : decode cX4_readTarget 49 = .ok (.aload_n 0, 1) := by decide +kernel
theorem dX4_readTarget_50 : decode cX4_readTarget 50 = .ok (.iconst 1, 1) := by decide +kernel
theorem dX4_readTarget_51 : decode cX4_readTarget 51 = .ok (.bipush 9, 2) := by decide +kernel
theorem dX4_readTarget_53 : decode cX4_readTarget 53 = .ok (.invokevirtual 69, 3) := by decide +kernel
theorem dX4_readTarget_56 : decode cX4_readTarget 56 = .ok (.goto 4, 3) := by decide +kernel
theorem dX4_readTarget_59 : decode cX4_readTarget 59 = .ok (.iconst 1, 1) := by decide +kernel
theorem dX4_readTarget_60 : decode cX4_readTarget 60 = .ok (.istore_n 2, 1) := by decide +kernel
theorem dX4_readTarget_61 : decode cX4_readTarget 61 = .ok (.aload_n 0, 1) := by decide +kernel
theorem dX4_readTarget_62 : decode cX4_readTarget 62 = .ok (.getfield 12, 3) := by decide +kernel
theorem dX4_readTarget_65 : decode cX4_readTarget 65 = .ok (.iload_n 1, 1) := by decide +kernel
theorem dX4_readTarget_66 : decode cX4_readTarget 66 = .ok (.iload_n 2, 1) := by decide +kernel
theorem dX4_readTarget_67 : decode cX4_readTarget 67 = .ok (.invokevirtual 85, 3) := by decide +kernel
theorem dX4_readTarget_70 : decode cX4_readTarget 70 = .ok (.iload_n 2, 1) := by decide +kernel
theorem dX4_readTarget_71 : decode cX4_readTarget 71 = .ok (.iconst (-1), 1) := by decide +kernel
theorem dX4_readTarget_72 : decode cX4_readTarget 72 = .ok (.if_icmp .eq 7, 3) := by decide +kernel
theorem dX4_readTarget_75 : decode cX4_readTarget 75 = .ok (.iconst 1, 1) := by decide +kernel
theorem dX4_readTarget_76 : decode cX4_readTarget 76 = .ok (.goto 4, 3) := by decide +kernel
theorem dX4_readTarget_79 : decode cX4_readTarget 79 = .ok (.iconst 0, 1) := by decide +kernel
theorem dX4_readTarget_80 : decode cX4_readTarget 80 = .ok (.ireturn, 1) := by decide +kernel
theorem dX4_readShadow_0 : decode cX4_readShadow 0 = .ok (.aload_n 0, 1) := by decide +kernel
theorem dX4_readShadow_1 : decode cX4_readShadow 1 = .ok (.bipush 126, 2) := by decide +kernel
theorem dX4_readShadow_3 : decode cX4_readShadow 3 = .ok (.invokevirtual 36, 3) := by decide +kernel
theorem dX4_readShadow_6 : decode cX4_readShadow 6 = .ok (.ifCond .ne 5, 3) := by decide +kernel
theorem dX4_readShadow_9 : decode cX4_readShadow 9 = .ok (.iconst 1, 1) := by decide +kernel
theorem dX4_readShadow_10 : decode cX4_readShadow 10 = .ok (.ireturn, 1) := by decide +kernel
theorem dX4_readShadow_11 : decode cX4_readShadow 11 = .ok (.aload_n 0, 1) := by decide +kernel
theorem dX4_readShadow_12 : decode cX4_readShadow 12 = .ok (.getfield 12, 3) := by decide +kernel
theorem dX4_readShadow_15 : decode cX4_readShadow 15 = .ok (.aload_n 0, 1) := by decide +kernel
theorem dX4_readShadow_16 : decode cX4_readShadow 16 = .ok (.iconst 0, 1) := by decide +kernel
theorem dX4_readShadow_17 : decode cX4_readShadow 17 = .ok (.iconst 3, 1) := by decide +kernel
theorem dX4_readShadow_18 : decode cX4_readShadow 18 = .ok (.invokevirtual 69, 3) := by decide +kernel
theorem dX4_readShadow_21 : decode cX4_readShadow 21 = .ok (.putfield 89, 3) := by decide +kernel
theorem dX4_readShadow_24 : decode cX4_readShadow 24 = .ok (.aload_n 0, 1) := by decide +kernel
theorem dX4_readShadow_25 : decode cX4_readShadow 25 = .ok (.getfield 12, 3) := by decide +kernel
theorem dX4_readShadow_28 : decode cX4_readShadow 28 = .ok (.getfield 89, 3) := by decide +kernel
theorem dX4_readShadow_31 : decode cX4_readShadow 31 = .ok (.iconst (-1), 1) := by decide +kernel
theorem dX4_readShadow_32 : decode cX4_readShadow 32 = .ok (.if_icmp .eq 7, 3) := by decide +kernel
theorem dX4_readShadow_35 : decode cX4_readShadow 35 = .ok (.iconst 1, 1) := by decide +kernel
theorem dX4_readShadow_36 : decode cX4_readShadow 36 = .ok (.goto 4, 3) := by decide +kernel
theorem dX4_readShadow_39 : decode cX4_readShadow 39 = .ok (.iconst 0, 1) := by decide +kernel
theorem dX4_readShadow_40 : decode cX4_readShadow 40 = .ok (.ireturn, 1) := by decide +kernel
theorem dX4_readAttempts_0 : decode cX4_readAttempts 0 = .ok (.aload_n 0, 1) := by decide +kernel
theorem dX4_readAttempts_1 : decode cX4_readAttempts 1 = .ok (.bipush 42, 2) := by decide +kernel
theorem dX4_readAttempts_3 : decode cX4_readAttempts 3 = .ok (.invokevirtual 36, 3) := by decide +kernel
theorem dX4_readAttempts_6 : decode cX4_readAttempts 6 = .ok (.ifCond .ne 5, 3) := by decide +kernel
theorem dX4_readAttempts_9 : decode cX4_readAttempts 9 = .ok (.iconst 1, 1) := by decide +kernel
theorem dX4_readAttempts_10 : decode cX4_readAttempts 10 = .ok (.ireturn, 1) := by decide +kernel
theorem dX4_readAttempts_11 : decode cX4_readAttempts 11 = .ok (.aload_n 0, 1) := by decide +kernel
theorem dX4_readAttempts_12 : decode cX4_readAttempts 12 = .ok (.getfield 12, 3) := by decide +kernel
theorem dX4_readAttempts_15 : decode cX4_readAttempts 15 = .ok (.aload_n 0, 1) := by decide +kernel
theorem dX4_readAttempts_16 : decode cX4_readAttempts 16 = .ok (.iconst 1, 1) := by decide +kernel
theorem dX4_readAttempts_17 : decode cX4_readAttempts 17 = .ok (.iconst 4, 1) := by decide +kernel
theorem dX4_readAttempts_18 : decode cX4_readAttempts 18 = .ok (.invokevirtual 69, 3) := by decide +kernel
theorem dX4_readAttempts_21 : decode cX4_readAttempts 21 = .ok (.putfield 92, 3) := by decide +kernel
theorem dX4_readAttempts_24 : decode cX4_readAttempts 24 = .ok (.aload_n 0, 1) := by decide +kernel
theorem dX4_readAttempts_25 : decode cX4_readAttempts 25 = .ok (.getfield 12, 3) := by decide +kernel
theorem dX4_readAttempts_28 : decode cX4_readAttempts 28 = .ok (.getfield 92, 3) := by decide +kernel
theorem dX4_readAttempts_31 : decode cX4_readAttempts 31 = .ok (.iconst (-1), 1) := by decide +kernel
theorem dX4_readAttempts_32 : decode cX4_readAttempts 32 = .ok (.if_icmp .eq 7, 3) := by decide +kernel
theorem dX4_readAttempts_35 : decode cX4_readAttempts 35 = .ok (.iconst 1, 1) := by decide +kernel
theorem dX4_readAttempts_36 : decode cX4_readAttempts 36 = .ok (.goto 4, 3) := by decide +kernel
theorem dX4_readAttempts_39 : decode cX4_readAttempts 39 = .ok (.iconst 0, 1) := by decide +kernel
theorem dX4_readAttempts_40 : decode cX4_readAttempts 40 = .ok (.ireturn, 1) := by decide +kernel
theorem dX4_readSign_0 : decode cX4_readSign 0 = .ok (.aload_n 0, 1) := by decide +kernel
theorem dX4_readSign_1 : decode cX4_readSign 1 = .ok (.getfield 18, 3) := by decide +kernel
theorem dX4_readSign_4 : decode cX4_readSign 4 = .ok (.aload_n 0, 1) := by decide +kernel
theorem dX4_readSign_5 : decode cX4_readSign 5 = .ok (.getfield 22, 3) := by decide +kernel
theorem dX4_readSign_8 : decode cX4_readSign 8 = .ok (.invokevirtual 54, 3) := by decide +kernel
theorem dX4_readSign_11 : decode cX4_readSign 11 = .ok (.iload_n 1, 1) := by decide +kernel
theorem dX4_readSign_12 : decode cX4_readSign 12 = .ok (.if_icmp .eq 5, 3) := by decide +kernel
theorem dX4_readSign_15 : decode cX4_readSign 15 = .ok (.iconst 0, 1) := by decide +kernel
theorem dX4_readSign_16 : decode cX4_readSign 16 = .ok (.ireturn, 1) := by decide +kernel
theorem dX4_readSign_17 : decode cX4_readSign 17 = .ok (.aload_n 0, 1) := by decide +kernel
theorem dX4_readSign_18 : decode cX4_readSign 18 = .ok (.dup, 1) := by decide +kernel
theorem dX4_readSign_19 : decode cX4_readSign 19 = .ok (.getfield 22, 3) := by decide +kernel
theorem dX4_readSign_22 : decode cX4_readSign 22 = .ok (.iconst 1, 1) := by decide +kernel
theorem dX4_readSign_23 : decode cX4_readSign 23 = .ok (.iadd, 1) := by decide +kernel
theorem dX4_readSign_24 : decode cX4_readSign 24 = .ok (.putfield 22, 3) := by decide +kernel
theorem dX4_readSign_27 : decode cX4_readSign 27 = .ok (.iconst 1, 1) := by decide +kernel
theorem dX4_readSign_28 : decode cX4_readSign 28 = .ok (.ireturn, 1) := by decide +kernel
theorem dX4_readDigit_0 : decode cX4_readDigit 0 = .ok (.aload_n 0, 1) := by decide +kernel
theorem dX4_readDigit_1 : decode cX4_readDigit 1 = .ok (.getfield 18, 3) := by decide +kernel
theorem dX4_readDigit_4 : decode cX4_readDigit 4 = .ok (.aload_n 0, 1) := by decide +kernel
theorem dX4_readDigit_5 : decode cX4_readDigit 5 = .ok (.getfield 22, 3) := by decide +kernel
theorem dX4_readDigit_8 : decode cX4_readDigit 8 = .ok (.invokevirtual 54, 3) := by decide +kernel
theorem dX4_readDigit_11 : decode cX4_readDigit 11 = .ok (.bipush 48, 2) := by decide +kernel
theorem dX4_readDigit_13 : decode cX4_readDigit 13 = .ok (.isub, 1) := by decide +kernel
theorem dX4_readDigit_14 : decode cX4_readDigit 14 = .ok (.istore_n 3, 1) := by decide +kernel
theorem dX4_readDigit_15 : decode cX4_readDigit 15 = .ok (.iload_n 3, 1) := by decide +kernel
theorem dX4_readDigit_16 : decode cX4_readDigit 16 = .ok (.iload_n 1, 1) := by decide +kernel
theorem dX4_readDigit_17 : decode cX4_readDigit 17 = .ok (.iload_n 2, 1) := by decide +kernel
theorem dX4_readDigit_18 : decode cX4_readDigit 18 = .ok (.invokestatic 95, 3) := by decide +kernel
theorem dX4_readDigit_21 : decode cX4_readDigit 21 = .ok (.ifCond .ne 5, 3) := by decide +kernel
theorem dX4_readDigit_24 : decode cX4_readDigit 24 = .ok (.iconst (-1), 1) := by decide +kernel
theorem dX4_readDigit_25 : decode cX4_readDigit 25 = .ok (.ireturn, 1) := by decide +kernel
theorem dX4_readDigit_26 : decode cX4_readDigit 26 = .ok (.aload_n 0, 1) := by decide +kernel
theorem dX4_readDigit_27 : decode cX4_readDigit 27 = .ok (.dup, 1) := by decide +kernel
theorem dX4_readDigit_28 : decode cX4_readDigit 28 = .ok (.getfield 22, 3) := by decide +kernel
theorem dX4_readDigit_31 : decode cX4_readDigit 31 = .ok (.iconst 1, 1) := by decide +kernel
theorem dX4_readDigit_32 : decode cX4_readDigit 32 = .ok (.iadd, 1) := by decide +kernel
theorem dX4_readDigit_33 : decode cX4_readDigit 33 = .ok (.putfield 22, 3) := by decide +kernel
theorem dX4_readDigit_36 : decode cX4_readDigit 36 = .ok (.iload_n 3, 1) := by decide +kernel
theorem dX4_readDigit_37 : decode cX4_readDigit 37 = .ok (.ireturn, 1) := by decide +kernel
theorem dX5_init_0 : decode cX5_init 0 = .ok (.aload_n 0, 1) := by decide +kernel
theorem dX5_init_1 : decode cX5_init 1 = .ok (.invokespecial 3, 3) := by decide +kernel
theorem dX5_init_4 : decode cX5_init 4 = .ok (.aload_n 0, 1) := by decide +kernel
theorem dX5_init_5 : decode cX5_init 5 = .ok (.iconst 0, 1) := by decide +kernel
theorem dX5_init_6 : decode cX5_init 6 = .ok (.putfield 9, 3) := by decide +kernel
theorem dX5_init_9 : decode cX5_init 9 = .ok (.aload_n 0, 1) := by decide +kernel
theorem dX5_init_10 : decode cX5_init 10 = .ok (.iconst 3, 1) := by decide +kernel
theorem dX5_init_11 : decode cX5_init 11 = .ok (.putfield 15, 3) := by decide +kernel
theorem dX5_init_14 : decode cX5_init 14 = .ok (.aload_n 0, 1) := by decide +kernel
theorem dX5_init_15 : decode cX5_init 15 = .ok (.iconst 5, 1) := by decide +kernel
theorem dX5_init_16 : decode cX5_init 16 = .ok (.putfield 18, 3) := by decide +kernel
theorem dX5_init_19 : decode cX5_init 19 = .ok (.aload_n 0, 1) := by decide +kernel
theorem dX5_init_20 : decode cX5_init 20 = .ok (.bipush 50, 2) := by decide +kernel
theorem dX5_init_22 : decode cX5_init 22 = .ok (.putfield 21, 3) := by decide +kernel
theorem dX5_init_25 : decode cX5_init 25 = .ok (.aload_n 0, 1) := by decide +kernel
theorem dX5_init_26 : decode cX5_init 26 = .ok (.bipush 20, 2) := by decide +kernel
theorem dX5_init_28 : decode cX5_init 28 = .ok (.putfield 24, 3) := by decide +kernel
theorem dX5_init_31 : decode cX5_init 31 = .ok (.aload_n 0, 1) := by decide +kernel
theorem dX5_init_32 : decode cX5_init 32 = .ok (.sipush 300, 3) := by decide +kernel
theorem dX5_init_35 : decode cX5_init 35 = .ok (.putfield 27, 3) := by decide +kernel
theorem dX5_init_38 : decode cX5_init 38 = .ok (.aload_n 0, 1) := by decide +kernel
theorem dX5_init_39 : decode cX5_init 39 = .ok (.iconst 3, 1) := by decide +kernel
theorem dX5_init_40 : decode cX5_init 40 = .ok (.newarray .int, 2) := by decide +kernel
theorem dX5_init_42 : decode cX5_init 42 = .ok (.putfield 30, 3) := by decide +kernel
theorem dX5_init_45 : decode cX5_init 45 = .ok (.aload_n 0, 1) := by decide +kernel
theorem dX5_init_46 : decode cX5_init 46 = .ok (.bipush 10, 2) := by decide +kernel
theorem dX5_init_48 : decode cX5_init 48 = .ok (.newarray .int, 2) := by decide +kernel
theorem dX5_init_50 : decode cX5_init 50 = .ok (.putfield 34, 3) := by decide +kernel
theorem dX5_init_53 : decode cX5_init 53 = .ok (.iconst 0, 1) := by decide +kernel
theorem dX5_init_54 : decode cX5_init 54 = .ok (.istore_n 1, 1) := by decide +kernel
theorem dX5_init_55 : decode cX5_init 55 = .ok (.iload_n 1, 1) := by decide +kernel
theorem dX5_init_56 : decode cX5_init 56 = .ok (.bipush 10, 2) := by decide +kernel
theorem dX5_init_58 : decode cX5_init 58 = .ok (.if_icmp .ge 16, 3) := by decide +kernel
theorem dX5_init_61 : decode cX5_init 61 = .ok (.aload_n 0, 1) := by decide +kernel
theorem dX5_init_62 : decode cX5_init 62 = .ok (.getfield 34, 3) := by decide +kernel
theorem dX5_init_65 : decode cX5_init 65 = .ok (.iload_n 1, 1) := by decide +kernel
theorem dX5_init_66 : decode cX5_init 66 = .ok (.iconst (-1), 1) := by decide +kernel
theorem dX5_init_67 : decode cX5_init 67 = .ok (.iastore, 1) := by decide +kernel
theorem dX5_init_68 : decode cX5_init 68 = .ok (.iinc 1 1, 3) := by decide +kernel
theorem dX5_init_71 : decode cX5_init 71 = .ok (.goto (-16), 3) := by decide +kernel
theorem dX5_init_74 : decode cX5_init 74 = .ok (.return_, 1) := by decide +kernel
theorem dX5_copyFrom_0 : decode cX5_copyFrom 0 = .ok (.aload_n 0, 1) := by decide +kernel
theorem dX5_copyFrom_1 : decode cX5_copyFrom 1 = .ok (.aload_n 1, 1) := by decide +kernel
theorem dX5_copyFrom_2 : decode cX5_copyFrom 2 = .ok (.getfield 9, 3) := by decide +kernel
theorem dX5_copyFrom_5 : decode cX5_copyFrom 5 = .ok (.putfield 9, 3) := by decide +kernel
theorem dX5_copyFrom_8 : decode cX5_copyFrom 8 = .ok (.aload_n 0, 1) := by decide +kernel
theorem dX5_copyFrom_9 : decode cX5_copyFrom 9 = .ok (.aload_n 1, 1) := by decide +kernel
theorem dX5_copyFrom_10 : decode cX5_copyFrom 10 = .ok (.getfield 15, 3) := by decide +kernel
theorem dX5_copyFrom_13 : decode cX5_copyFrom 13 = .ok (.putfield 15, 3) := by decide +kernel
theorem dX5_copyFrom_16 : decode cX5_copyFrom 16 = .ok (.aload_n 0, 1) := by decide +kernel
theorem dX5_copyFrom_17 : decode cX5_copyFrom 17 = .ok (.aload_n 1, 1) := by decide +kernel
theorem dX5_copyFrom_18 : decode cX5_copyFrom 18 = .ok (.getfield 18, 3) := by decide +kernel
theorem dX5_copyFrom_21 : decode cX5_copyFrom 21 = .ok (.putfield 18, 3) := by decide +kernel
theorem dX5_copyFrom_24 : decode cX5_copyFrom 24 = .ok (.aload_n 0, 1) := by decide +kernel
theorem dX5_copyFrom_25 : decode cX5_copyFrom 25 = .ok (.aload_n 1, 1) := by decide +kernel
theorem dX5_copyFrom_26 : decode cX5_copyFrom 26 = .ok (.getfield 21, 3) := by decide +kernel
theorem dX5_copyFrom_29 : decode cX5_copyFrom 29 = .ok (.putfield 21, 3) := by decide +kernel
theorem dX5_copyFrom_32 : decode cX5_copyFrom 32 = .ok (.aload_n 0, 1) := by decide +kernel
theorem dX5_copyFrom_33 : decode cX5_copyFrom 33 = .ok (.aload_n 1, 1) := by decide +kernel
theorem dX5_copyFrom_34 : decode cX5_copyFrom 34 = .ok (.getfield 24, 3) := by decide +kernel
theorem dX5_copyFrom_37 : decode cX5_copyFrom 37 = .ok (.putfield 24, 3) := by decide +kernel
theorem dX5_copyFrom_40 : decode cX5_copyFrom 40 = .ok (.aload_n 0, 1) := by decide +kernel
theorem dX5_copyFrom_41 : decode cX5_copyFrom 41 = .ok (.aload_n 1, 1) := by decide +kernel
theorem dX5_copyFrom_42 : decode cX5_copyFrom 42 = .ok (.getfield 27, 3) := by decide +kernel
theorem dX5_copyFrom_45 : decode cX5_copyFrom 45 = .ok (.putfield 27, 3) := by decide +kernel
theorem dX5_copyFrom_48 : decode cX5_copyFrom 48 = .ok (.aload_n 0, 1) := by decide +kernel
theorem dX5_copyFrom_49 : decode cX5_copyFrom 49 = .ok (.aload_n 1, 1) := by decide +kernel
theorem dX5_copyFrom_50 : decode cX5_copyFrom 50 = .ok (.getfield 37, 3) := by decide +kernel
theorem dX5_copyFrom_53 : decode cX5_copyFrom 53 = .ok (.putfield 37, 3) := by decide +kernel
theorem dX5_copyFrom_56 : decode cX5_copyFrom 56 = .ok (.aload_n 0, 1) := by decide +kernel
theorem dX5_copyFrom_57 : decode cX5_copyFrom 57 = .ok (.aload_n 1, 1) := by decide +kernel
theorem dX5_copyFrom_58 : decode cX5_copyFrom 58 = .ok (.getfield 40, 3) := by decide +kernel
theorem dX5_copyFrom_61 : decode cX5_copyFrom 61 = .ok (.putfield 40, 3) := by decide +kernel
theorem dX5_copyFrom_64 : decode cX5_copyFrom 64 = .ok (.iconst 0, 1) := by decide +kernel
theorem dX5_copyFrom_65 : decode cX5_copyFrom 65 = .ok (.istore_n 2, 1) := by decide +kernel
theorem dX5_copyFrom_66 : decode cX5_copyFrom 66 = .ok (.iload_n 2, 1) := by decide +kernel
theorem dX5_copyFrom_67 : decode cX5_copyFrom 67 = .ok (.iconst 3, 1) := by decide +kernel
theorem dX5_copyFrom_68 : decode cX5_copyFrom 68 = .ok (.if_icmp .ge 21, 3) := by decide +kernel
theorem dX5_copyFrom_71 : decode cX5_copyFrom 71 = .ok (.aload_n 0, 1) := by decide +kernel
theorem dX5_copyFrom_72 : decode cX5_copyFrom 72 = .ok (.getfield 30, 3) := by decide +kernel
theorem dX5_copyFrom_75 : decode cX5_copyFrom 75 = .ok (.iload_n 2, 1) := by decide +kernel
theorem dX5_copyFrom_76 : decode cX5_copyFrom 76 = .ok (.aload_n 1, 1) := by decide +kernel
theorem dX5_copyFrom_77 : decode cX5_copyFrom 77 = .ok (.getfield 30, 3) := by decide +kernel
theorem dX5_copyFrom_80 : decode cX5_copyFrom 80 = .ok (.iload_n 2, 1) := by decide +kernel
theorem dX5_copyFrom_81 : decode cX5_copyFrom 81 = .ok (.iaload, 1) := by decide +kernel
theorem dX5_copyFrom_82 : decode cX5_copyFrom 82 = .ok (.iastore, 1) := by decide +kernel
theorem dX5_copyFrom_83 : decode cX5_copyFrom 83 = .ok (.iinc 2 1, 3) := by decide +kernel
theorem dX5_copyFrom_86 : decode cX5_copyFrom 86 = .ok (.goto (-20), 3) := by decide +kernel
theorem dX5_copyFrom_89 : decode cX5_copyFrom 89 = .ok (.iconst 0, 1) := by decide +kernel
theorem dX5_copyFrom_90 : decode cX5_copyFrom 90 = .ok (.istore_n 2, 1) := by decide +kernel
theorem dX5_copyFrom_91 : decode cX5_copyFrom 91 = .ok (.iload_n 2, 1) := by decide +kernel
theorem dX5_copyFrom_92 : decode cX5_copyFrom 92 = .ok (.bipush 10, 2) := by decide +kernel
theorem dX5_copyFrom_94 : decode cX5_copyFrom 94 = .ok (.if_icmp .ge 21, 3) := by decide +kernel
theorem dX5_copyFrom_97 : decode cX5_copyFrom 97 = .ok (.aload_n 0, 1) := by decide +kernel
theorem dX5_copyFrom_98 : decode cX5_copyFrom 98 = .ok (.getfield 34, 3) := by decide +kernel
theorem dX5_copyFrom_101 : decode cX5_copyFrom 101 = .ok (.iload_n 2, 1) := by decide +kernel
theorem dX5_copyFrom_102 : decode cX5_copyFrom 102 = .ok (.aload_n 1, 1) := by decide +kernel
theorem dX5_copyFrom_103 : decode cX5_copyFrom 103 = .ok (.getfield 34, 3) := by decide +kernel
theorem dX5_copyFrom_106 : decode cX5_copyFrom 106 = .ok (.iload_n 2, 1) := by decide +kernel
theorem dX5_copyFrom_107 : decode cX5_copyFrom 107 = .ok (.iaload, 1) := by decide +kernel
theorem dX5_copyFrom_108 : decode cX5_copyFrom 108 = .ok (.iastore, 1) := by decide +kernel
theorem dX5_copyFrom_109 : decode cX5_copyFrom 109 = .ok (.iinc 2 1, 3) := by decide +kernel
theorem dX5_copyFrom_112 : decode cX5_copyFrom 112 = .ok (.goto (-21), 3) := by decide +kernel
theorem dX5_copyFrom_115 : decode cX5_copyFrom 115 = .ok (.return_, 1) := by decide +kernel
theorem dX5_earnTokens_0 : decode cX5_earnTokens 0 = .ok (.aload_n 0, 1) := by decide +kernel
theorem dX5_earnTokens_1 : decode cX5_earnTokens 1 = .ok (.sipush 1000, 3) := by decide +kernel
theorem dX5_earnTokens_4 : decode cX5_earnTokens 4 = .ok (.aload_n 0, 1) := by decide +kernel
theorem dX5_earnTokens_5 : decode cX5_earnTokens 5 = .ok (.getfield 27, 3) := by decide +kernel
theorem dX5_earnTokens_8 : decode cX5_earnTokens 8 = .ok (.aload_n 0, 1) := by decide +kernel
theorem dX5_earnTokens_9 : decode cX5_earnTokens 9 = .ok (.getfield 24, 3) := by decide +kernel
theorem dX5_earnTokens_12 : decode cX5_earnTokens 12 = .ok (.iadd, 1) := by decide +kernel
theorem dX5_earnTokens_13 : decode cX5_earnTokens 13 = .ok (.invokestatic 43, 3) := by decide +kernel
theorem dX5_earnTokens_16 : decode cX5_earnTokens 16 = .ok (.putfield 27, 3) := by decide +kernel
theorem dX5_earnTokens_19 : decode cX5_earnTokens 19 = .ok (.return_, 1) := by decide +kernel
theorem dX5_staysNear_0 : decode cX5_staysNear 0 = .ok (.iload 4, 2) := by decide +kernel
theorem dX5_staysNear_2 : decode cX5_staysNear 2 = .ok (.iload_n 3, 1) := by decide +kernel
theorem dX5_staysNear_3 : decode cX5_staysNear 3 = .ok (.imul, 1) := by decide +kernel
theorem dX5_staysNear_4 : decode cX5_staysNear 4 = .ok (.istore 5, 2) := by decide +kernel
theorem dX5_staysNear_6 : decode cX5_staysNear 6 = .ok (.iload 5, 2) := by decide +kernel
theorem dX5_staysNear_8 : decode cX5_staysNear 8 = .ok (.ifCond .le 12, 3) := by decide +kernel
theorem dX5_staysNear_11 : decode cX5_staysNear 11 = .ok (.bipush 100, 2) := by decide +kernel
theorem dX5_staysNear_13 : decode cX5_staysNear 13 = .ok (.iload_n 2, 1) := by decide +kernel
theorem dX5_staysNear_14 : decode cX5_staysNear 14 = .ok (.imul, 1) := by decide +kernel
theorem dX5_staysNear_15 : decode cX5_staysNear 15 = .ok (.iload 5, 2) := by decide +kernel
theorem dX5_staysNear_17 : decode cX5_staysNear 17 = .ok (.if_icmp .lt 5, 3) := by decide +kernel
theorem dX5_staysNear_20 : decode cX5_staysNear 20 = .ok (.iconst 1, 1) := by decide +kernel
theorem dX5_staysNear_21 : decode cX5_staysNear 21 = .ok (.ireturn, 1) := by decide +kernel
theorem dX5_staysNear_22 : decode cX5_staysNear 22 = .ok (.aload_n 0, 1) := by decide +kernel
theorem dX5_staysNear_23 : decode cX5_staysNear 23 = .ok (.getfield 30, 3) := by decide +kernel
theorem dX5_staysNear_26 : decode cX5_staysNear 26 = .ok (.iload_n 1, 1) := by decide +kernel
theorem dX5_staysNear_27 : decode cX5_staysNear 27 = .ok (.dup2, 1) := by decide +kernel
theorem dX5_staysNear_28 : decode cX5_staysNear 28 = .ok (.iaload, 1) := by decide +kernel
theorem dX5_staysNear_29 : decode cX5_staysNear 29 = .ok (.sipush 10000, 3) := by decide +kernel
theorem dX5_staysNear_32 : decode cX5_staysNear 32 = .ok (.iload_n 2, 1) := by decide +kernel
theorem dX5_staysNear_33 : decode cX5_staysNear 33 = .ok (.imul, 1) := by decide +kernel
theorem dX5_staysNear_34 : decode cX5_staysNear 34 = .ok (.iload 5, 2) := by decide +kernel
theorem dX5_staysNear_36 : decode cX5_staysNear 36 = .ok (.idiv, 1) := by decide +kernel
theorem dX5_staysNear_37 : decode cX5_staysNear 37 = .ok (.iadd, 1) := by decide +kernel
theorem dX5_staysNear_38 : decode cX5_staysNear 38 = .ok (.iastore, 1) := by decide +kernel
theorem dX5_staysNear_39 : decode cX5_staysNear 39 = .ok (.aload_n 0, 1) := by decide +kernel
theorem dX5_staysNear_40 : decode cX5_staysNear 40 = .ok (.getfield 30, 3) := by decide +kernel
theorem dX5_staysNear_43 : decode cX5_staysNear 43 = .ok (.iload_n 1, 1) := by decide +kernel
theorem dX5_staysNear_44 : decode cX5_staysNear 44 = .ok (.iaload, 1) := by decide +kernel
theorem dX5_staysNear_45 : decode cX5_staysNear 45 = .ok (.bipush 100, 2) := by decide +kernel
theorem dX5_staysNear_47 : decode cX5_staysNear 47 = .ok (.if_icmp .ge 5, 3) := by decide +kernel
theorem dX5_staysNear_50 : decode cX5_staysNear 50 = .ok (.iconst 0, 1) := by decide +kernel
theorem dX5_staysNear_51 : decode cX5_staysNear 51 = .ok (.ireturn, 1) := by decide +kernel
theorem dX5_staysNear_52 : decode cX5_staysNear 52 = .ok (.aload_n 0, 1) := by decide +kernel
theorem dX5_staysNear_53 : decode cX5_staysNear 53 = .ok (.getfield 30, 3) := by decide +kernel
theorem dX5_staysNear_56 : decode cX5_staysNear 56 = .ok (.iload_n 1, 1) := by decide +kernel
theorem dX5_staysNear_57 : decode cX5_staysNear 57 = .ok (.dup2, 1) := by decide +kernel
theorem dX5_staysNear_58 : decode cX5_staysNear 58 = .ok (.iaload, 1) := by decide +kernel
theorem dX5_staysNear_59 : decode cX5_staysNear 59 = .ok (.bipush 100, 2) := by decide +kernel
theorem dX5_staysNear_61 : decode cX5_staysNear 61 = .ok (.isub, 1) := by decide +kernel
theorem dX5_staysNear_62 : decode cX5_staysNear 62 = .ok (.iastore, 1) := by decide +kernel
theorem dX5_staysNear_63 : decode cX5_staysNear 63 = .ok (.iconst 1, 1) := by decide +kernel
theorem dX5_staysNear_64 : decode cX5_staysNear 64 = .ok (.ireturn, 1) := by decide +kernel
theorem dX6_init_0 : decode cX6_init 0 = .ok (.aload_n 0, 1) := by decide +kernel
theorem dX6_init_1 : decode cX6_init 1 = .ok (.invokespecial 3, 3) := by decide +kernel
theorem dX6_init_4 : decode cX6_init 4 = .ok (.return_, 1) := by decide +kernel
theorem dX6_begin_0 : decode cX6_begin 0 = .ok (.aload_n 0, 1) := by decide +kernel
theorem dX6_begin_1 : decode cX6_begin 1 = .ok (.iload_n 1, 1) := by decide +kernel
theorem dX6_begin_2 : decode cX6_begin 2 = .ok (.putfield 9, 3) := by decide +kernel
theorem dX6_begin_5 : decode cX6_begin 5 = .ok (.aload_n 0, 1) := by decide +kernel
theorem dX6_begin_6 : decode cX6_begin 6 = .ok (.iload_n 2, 1) := by decide +kernel
theorem dX6_begin_7 : decode cX6_begin 7 = .ok (.putfield 15, 3) := by decide +kernel
theorem dX6_begin_10 : decode cX6_begin 10 = .ok (.aload_n 0, 1) := by decide +kernel
theorem dX6_begin_11 : decode cX6_begin 11 = .ok (.iconst 0, 1) := by decide +kernel
theorem dX6_begin_12 : decode cX6_begin 12 = .ok (.putfield 18, 3) := by decide +kernel
theorem dX6_begin_15 : decode cX6_begin 15 = .ok (.aload_n 0, 1) := by decide +kernel
theorem dX6_begin_16 : decode cX6_begin 16 = .ok (.iconst 0, 1) := by decide +kernel
theorem dX6_begin_17 : decode cX6_begin 17 = .ok (.putfield 21, 3) := by decide +kernel
theorem dX6_begin_20 : decode cX6_begin 20 = .ok (.return_, 1) := by decide +kernel
theorem dX6_copyFrom_0 : decode cX6_copyFrom 0 = .ok (.aload_n 0, 1) := by decide +kernel
theorem dX6_copyFrom_1 : decode cX6_copyFrom 1 = .ok (.aload_n 1, 1) := by decide +kernel
theorem dX6_copyFrom_2 : decode cX6_copyFrom 2 = .ok (.getfield 9, 3) := by decide +kernel
theorem dX6_copyFrom_5 : decode cX6_copyFrom 5 = .ok (.putfield 9, 3) := by decide +kernel
theorem dX6_copyFrom_8 : decode cX6_copyFrom 8 = .ok (.aload_n 0, 1) := by decide +kernel
theorem dX6_copyFrom_9 : decode cX6_copyFrom 9 = .ok (.aload_n 1, 1) := by decide +kernel
theorem dX6_copyFrom_10 : decode cX6_copyFrom 10 = .ok (.getfield 15, 3) := by decide +kernel
theorem dX6_copyFrom_13 : decode cX6_copyFrom 13 = .ok (.putfield 15, 3) := by decide +kernel
theorem dX6_copyFrom_16 : decode cX6_copyFrom 16 = .ok (.aload_n 0, 1) := by decide +kernel
theorem dX6_copyFrom_17 : decode cX6_copyFrom 17 = .ok (.aload_n 1, 1) := by decide +kernel
theorem dX6_copyFrom_18 : decode cX6_copyFrom 18 = .ok (.getfield 18, 3) := by decide +kernel
theorem dX6_copyFrom_21 : decode cX6_copyFrom 21 = .ok (.putfield 18, 3) := by decide +kernel
theorem dX6_copyFrom_24 : decode cX6_copyFrom 24 = .ok (.aload_n 0, 1) := by decide +kernel
theorem dX6_copyFrom_25 : decode cX6_copyFrom 25 = .ok (.aload_n 1, 1) := by decide +kernel
theorem dX6_copyFrom_26 : decode cX6_copyFrom 26 = .ok (.getfield 21, 3) := by decide +kernel
theorem dX6_copyFrom_29 : decode cX6_copyFrom 29 = .ok (.putfield 21, 3) := by decide +kernel
theorem dX6_copyFrom_32 : decode cX6_copyFrom 32 = .ok (.return_, 1) := by decide +kernel
theorem dX6_property_0 : decode cX6_property 0 = .ok (.iload_n 1, 1) := by decide +kernel
theorem dX6_property_1 : decode cX6_property 1 = .ok (.tableswitch 51 0 3 #[31, 36, 41, 46], 31) := by decide +kernel
theorem dX6_property_32 : decode cX6_property 32 = .ok (.aload_n 0, 1) := by decide +kernel
theorem dX6_property_33 : decode cX6_property 33 = .ok (.getfield 9, 3) := by decide +kernel
theorem dX6_property_36 : decode cX6_property 36 = .ok (.ireturn, 1) := by decide +kernel
theorem dX6_property_37 : decode cX6_property 37 = .ok (.aload_n 0, 1) := by decide +kernel
theorem dX6_property_38 : decode cX6_property 38 = .ok (.getfield 15, 3) := by decide +kernel
theorem dX6_property_41 : decode cX6_property 41 = .ok (.ireturn, 1) := by decide +kernel
theorem dX6_property_42 : decode cX6_property 42 = .ok (.aload_n 0, 1) := by decide +kernel
theorem dX6_property_43 : decode cX6_property 43 = .ok (.getfield 18, 3) := by decide +kernel
theorem dX6_property_46 : decode cX6_property 46 = .ok (.ireturn, 1) := by decide +kernel
theorem dX6_property_47 : decode cX6_property 47 = .ok (.aload_n 0, 1) := by decide +kernel
theorem dX6_property_48 : decode cX6_property 48 = .ok (.getfield 21, 3) := by decide +kernel
theorem dX6_property_51 : decode cX6_property 51 = .ok (.ireturn, 1) := by decide +kernel
theorem dX6_property_52 : decode cX6_property 52 = .ok (.bipush (-2), 2) := by decide +kernel
theorem dX6_property_54 : decode cX6_property 54 = .ok (.ireturn, 1) := by decide +kernel
theorem dX7_init_0 : decode cX7_init 0 = .ok (.aload_n 0, 1) := by decide +kernel
theorem dX7_init_1 : decode cX7_init 1 = .ok (.invokespecial 3, 3) := by decide +kernel
theorem dX7_init_4 : decode cX7_init 4 = .ok (.aload_n 0, 1) := by decide +kernel
theorem dX7_init_5 : decode cX7_init 5 = .ok (.bipush 40, 2) := by decide +kernel
theorem dX7_init_7 : decode cX7_init 7 = .ok (.newarray .char, 2) := by decide +kernel
theorem dX7_init_9 : decode cX7_init 9 = .ok (.putfield 9, 3) := by decide +kernel
theorem dX7_init_12 : decode cX7_init 12 = .ok (.return_, 1) := by decide +kernel
theorem dX7_clear_0 : decode cX7_clear 0 = .ok (.aload_n 0, 1) := by decide +kernel
theorem dX7_clear_1 : decode cX7_clear 1 = .ok (.iconst 0, 1) := by decide +kernel
theorem dX7_clear_2 : decode cX7_clear 2 = .ok (.putfield 15, 3) := by decide +kernel
theorem dX7_clear_5 : decode cX7_clear 5 = .ok (.return_, 1) := by decide +kernel
theorem dX7_put_0 : decode cX7_put 0 = .ok (.aload_n 0, 1) := by decide +kernel
theorem dX7_put_1 : decode cX7_put 1 = .ok (.getfield 15, 3) := by decide +kernel
theorem dX7_put_4 : decode cX7_put 4 = .ok (.bipush 40, 2) := by decide +kernel
theorem dX7_put_6 : decode cX7_put 6 = .ok (.if_icmp .ge 24, 3) := by decide +kernel
theorem dX7_put_9 : decode cX7_put 9 = .ok (.aload_n 0, 1) := by decide +kernel
theorem dX7_put_10 : decode cX7_put 10 = .ok (.getfield 9, 3) := by decide +kernel
theorem dX7_put_13 : decode cX7_put 13 = .ok (.aload_n 0, 1) := by decide +kernel
theorem dX7_put_14 : decode cX7_put 14 = .ok (.getfield 15, 3) := by decide +kernel
theorem dX7_put_17 : decode cX7_put 17 = .ok (.iload_n 1, 1) := by decide +kernel
theorem dX7_put_18 : decode cX7_put 18 = .ok (.i2c, 1) := by decide +kernel
theorem dX7_put_19 : decode cX7_put 19 = .ok (.castore, 1) := by decide +kernel
theorem dX7_put_20 : decode cX7_put 20 = .ok (.aload_n 0, 1) := by decide +kernel
theorem dX7_put_21 : decode cX7_put 21 = .ok (.dup, 1) := by decide +kernel
theorem dX7_put_22 : decode cX7_put 22 = .ok (.getfield 15, 3) := by decide +kernel
theorem dX7_put_25 : decode cX7_put 25 = .ok (.iconst 1, 1) := by decide +kernel
theorem dX7_put_26 : decode cX7_put 26 = .ok (.iadd, 1) := by decide +kernel
theorem dX7_put_27 : decode cX7_put 27 = .ok (.putfield 15, 3) := by decide +kernel
theorem dX7_put_30 : decode cX7_put 30 = .ok (.return_, 1) := by decide +kernel
theorem dX7_putDigit_0 : decode cX7_putDigit 0 = .ok (.aload_n 0, 1) := by decide +kernel
theorem dX7_putDigit_1 : decode cX7_putDigit 1 = .ok (.bipush 48, 2) := by decide +kernel
theorem dX7_putDigit_3 : decode cX7_putDigit 3 = .ok (.iload_n 1, 1) := by decide +kernel
theorem dX7_putDigit_4 : decode cX7_putDigit 4 = .ok (.iadd, 1) := by decide +kernel
theorem dX7_putDigit_5 : decode cX7_putDigit 5 = .ok (.invokevirtual 19, 3) := by decide +kernel
theorem dX7_putDigit_8 : decode cX7_putDigit 8 = .ok (.return_, 1) := by decide +kernel
theorem dX7_putAll_0 : decode cX7_putAll 0 = .ok (.iconst 0, 1) := by decide +kernel
theorem dX7_putAll_1 : decode cX7_putAll 1 = .ok (.istore_n 2, 1) := by decide +kernel
theorem dX7_putAll_2 : decode cX7_putAll 2 = .ok (.iload_n 2, 1) := by decide +kernel
theorem dX7_putAll_3 : decode cX7_putAll 3 = .ok (.aload_n 1, 1) := by decide +kernel
theorem dX7_putAll_4 : decode cX7_putAll 4 = .ok (.getfield 15, 3) := by decide +kernel
theorem dX7_putAll_7 : decode cX7_putAll 7 = .ok (.if_icmp .ge 19, 3) := by decide +kernel
theorem dX7_putAll_10 : decode cX7_putAll 10 = .ok (.aload_n 0, 1) := by decide +kernel
theorem dX7_putAll_11 : decode cX7_putAll 11 = .ok (.aload_n 1, 1) := by decide +kernel
theorem dX7_putAll_12 : decode cX7_putAll 12 = .ok (.getfield 9, 3) := by decide +kernel
theorem dX7_putAll_15 : decode cX7_putAll 15 = .ok (.iload_n 2, 1) := by decide +kernel
theorem dX7_putAll_16 : decode cX7_putAll 16 = .ok (.caload, 1) := by decide +kernel
theorem dX7_putAll_17 : decode cX7_putAll 17 = .ok (.invokevirtual 19, 3) := by decide +kernel
theorem dX7_putAll_20 : decode cX7_putAll 20 = .ok (.iinc 2 1, 3) := by decide +kernel
theorem dX7_putAll_23 : decode cX7_putAll 23 = .ok (.goto (-21), 3) := by decide +kernel
theorem dX7_putAll_26 : decode cX7_putAll 26 = .ok (.return_, 1) := by decide +kernel
theorem dX7_signAt_0 : decode cX7_signAt 0 = .ok (.iload_n 1, 1) := by decide +kernel
theorem dX7_signAt_1 : decode cX7_signAt 1 = .ok (.iconst 0, 1) := by decide +kernel
theorem dX7_signAt_2 : decode cX7_signAt 2 = .ok (.aload_n 0, 1) := by decide +kernel
theorem dX7_signAt_3 : decode cX7_signAt 3 = .ok (.getfield 15, 3) := by decide +kernel
theorem dX7_signAt_6 : decode cX7_signAt 6 = .ok (.iconst 1, 1) := by decide +kernel
theorem dX7_signAt_7 : decode cX7_signAt 7 = .ok (.isub, 1) := by decide +kernel
theorem dX7_signAt_8 : decode cX7_signAt 8 = .ok (.invokestatic 23, 3) := by decide +kernel
theorem dX7_signAt_11 : decode cX7_signAt 11 = .ok (.ifCond .eq 12, 3) := by decide +kernel
theorem dX7_signAt_14 : decode cX7_signAt 14 = .ok (.aload_n 0, 1) := by decide +kernel
theorem dX7_signAt_15 : decode cX7_signAt 15 = .ok (.getfield 9, 3) := by decide +kernel
theorem dX7_signAt_18 : decode cX7_signAt 18 = .ok (.iload_n 1, 1) := by decide +kernel
theorem dX7_signAt_19 : decode cX7_signAt 19 = .ok (.caload, 1) := by decide +kernel
theorem dX7_signAt_20 : decode cX7_signAt 20 = .ok (.goto 4, 3) := by decide +kernel
theorem dX7_signAt_23 : decode cX7_signAt 23 = .ok (.iconst (-1), 1) := by decide +kernel
theorem dX7_signAt_24 : decode cX7_signAt 24 = .ok (.ireturn, 1) := by decide +kernel
theorem dX7_isPath_0 : decode cX7_isPath 0 = .ok (.iconst 0, 1) := by decide +kernel
theorem dX7_isPath_1 : decode cX7_isPath 1 = .ok (.istore_n 1, 1) := by decide +kernel
theorem dX7_isPath_2 : decode cX7_isPath 2 = .ok (.iload_n 1, 1) := by decide +kernel
theorem dX7_isPath_3 : decode cX7_isPath 3 = .ok (.aload_n 0, 1) := by decide +kernel
theorem dX7_isPath_4 : decode cX7_isPath 4 = .ok (.getfield 15, 3) := by decide +kernel
theorem dX7_isPath_7 : decode cX7_isPath 7 = .ok (.if_icmp .ge 23, 3) := by decide +kernel
theorem dX7_isPath_10 : decode cX7_isPath 10 = .ok (.aload_n 0, 1) := by decide +kernel
theorem dX7_isPath_11 : decode cX7_isPath 11 = .ok (.getfield 9, 3) := by decide +kernel
theorem dX7_isPath_14 : decode cX7_isPath 14 = .ok (.iload_n 1, 1) := by decide +kernel
theorem dX7_isPath_15 : decode cX7_isPath 15 = .ok (.caload, 1) := by decide +kernel
theorem dX7_isPath_16 : decode cX7_isPath 16 = .ok (.invokestatic 27, 3) := by decide +kernel
theorem dX7_isPath_19 : decode cX7_isPath 19 = .ok (.ifCond .ne 5, 3) := by decide +kernel
theorem dX7_isPath_22 : decode cX7_isPath 22 = .ok (.iconst 0, 1) := by decide +kernel
theorem dX7_isPath_23 : decode cX7_isPath 23 = .ok (.ireturn, 1) := by decide +kernel
theorem dX7_isPath_24 : decode cX7_isPath 24 = .ok (.iinc 1 1, 3) := by decide +kernel
theorem dX7_isPath_27 : decode cX7_isPath 27 = .ok (.goto (-25), 3) := by decide +kernel
theorem dX7_isPath_30 : decode cX7_isPath 30 = .ok (.aload_n 0, 1) := by decide +kernel
theorem dX7_isPath_31 : decode cX7_isPath 31 = .ok (.iconst 0, 1) := by decide +kernel
theorem dX7_isPath_32 : decode cX7_isPath 32 = .ok (.invokevirtual 31, 3) := by decide +kernel
theorem dX7_isPath_35 : decode cX7_isPath 35 = .ok (.bipush 47, 2) := by decide +kernel
theorem dX7_isPath_37 : decode cX7_isPath 37 = .ok (.if_icmp .ne 7, 3) := by decide +kernel
theorem dX7_isPath_40 : decode cX7_isPath 40 = .ok (.iconst 1, 1) := by decide +kernel
theorem dX7_isPath_41 : decode cX7_isPath 41 = .ok (.goto 4, 3) := by decide +kernel
theorem dX7_isPath_44 : decode cX7_isPath 44 = .ok (.iconst 0, 1) := by decide +kernel
theorem dX7_isPath_45 : decode cX7_isPath 45 = .ok (.ireturn, 1) := by decide +kernel
theorem dX7_beginsWith_0 : decode cX7_beginsWith 0 = .ok (.iconst 0, 1) := by decide +kernel
theorem dX7_beginsWith_1 : decode cX7_beginsWith 1 = .ok (.istore_n 2, 1) := by decide +kernel
theorem dX7_beginsWith_2 : decode cX7_beginsWith 2 = .ok (.iload_n 2, 1) := by decide +kernel
theorem dX7_beginsWith_3 : decode cX7_beginsWith 3 = .ok (.aload_n 1, 1) := by decide +kernel
theorem dX7_beginsWith_4 : decode cX7_beginsWith 4 = .ok (.getfield 15, 3) := by decide +kernel
theorem dX7_beginsWith_7 : decode cX7_beginsWith 7 = .ok (.if_icmp .ge 25, 3) := by decide +kernel
theorem dX7_beginsWith_10 : decode cX7_beginsWith 10 = .ok (.aload_n 0, 1) := by decide +kernel
theorem dX7_beginsWith_11 : decode cX7_beginsWith 11 = .ok (.iload_n 2, 1) := by decide +kernel
theorem dX7_beginsWith_12 : decode cX7_beginsWith 12 = .ok (.invokevirtual 31, 3) := by decide +kernel
theorem dX7_beginsWith_15 : decode cX7_beginsWith 15 = .ok (.aload_n 1, 1) := by decide +kernel
theorem dX7_beginsWith_16 : decode cX7_beginsWith 16 = .ok (.getfield 9, 3) := by decide +kernel
theorem dX7_beginsWith_19 : decode cX7_beginsWith 19 = .ok (.iload_n 2, 1) := by decide +kernel
theorem dX7_beginsWith_20 : decode cX7_beginsWith 20 = .ok (.caload, 1) := by decide +kernel
theorem dX7_beginsWith_21 : decode cX7_beginsWith 21 = .ok (.if_icmp .eq 5, 3) := by decide +kernel
theorem dX7_beginsWith_24 : decode cX7_beginsWith 24 = .ok (.iconst 0, 1) := by decide +kernel
theorem dX7_beginsWith_25 : decode cX7_beginsWith 25 = .ok (.ireturn, 1) := by decide +kernel
theorem dX7_beginsWith_26 : decode cX7_beginsWith 26 = .ok (.iinc 2 1, 3) := by decide +kernel
theorem dX7_beginsWith_29 : decode cX7_beginsWith 29 = .ok (.goto (-27), 3) := by decide +kernel
theorem dX7_beginsWith_32 : decode cX7_beginsWith 32 = .ok (.iconst 1, 1) := by decide +kernel
theorem dX7_beginsWith_33 : decode cX7_beginsWith 33 = .ok (.ireturn, 1) := by decide +kernel
theorem dX8_init_0 : decode cX8_init 0 = .ok (.aload_n 0, 1) := by decide +kernel
theorem dX8_init_1 : decode cX8_init 1 = .ok (.invokespecial 3, 3) := by decide +kernel
theorem dX8_init_4 : decode cX8_init 4 = .ok (.aload_n 0, 1) := by decide +kernel
theorem dX8_init_5 : decode cX8_init 5 = .ok (.iconst 4, 1) := by decide +kernel
theorem dX8_init_6 : decode cX8_init 6 = .ok (.iconst 4, 1) := by decide +kernel
theorem dX8_init_7 : decode cX8_init 7 = .ok (.multianewarray 11 2, 4) := by decide +kernel
theorem dX8_init_11 : decode cX8_init 11 = .ok (.putfield 13, 3) := by decide +kernel
theorem dX8_init_14 : decode cX8_init 14 = .ok (.return_, 1) := by decide +kernel
theorem dX8_add_0 : decode cX8_add 0 = .ok (.aload_n 0, 1) := by decide +kernel
theorem dX8_add_1 : decode cX8_add 1 = .ok (.getfield 16, 3) := by decide +kernel
theorem dX8_add_4 : decode cX8_add 4 = .ok (.iconst 4, 1) := by decide +kernel
theorem dX8_add_5 : decode cX8_add 5 = .ok (.if_icmp .ge 86, 3) := by decide +kernel
theorem dX8_add_8 : decode cX8_add 8 = .ok (.aload_n 0, 1) := by decide +kernel
theorem dX8_add_9 : decode cX8_add 9 = .ok (.getfield 13, 3) := by decide +kernel
theorem dX8_add_12 : decode cX8_add 12 = .ok (.aload_n 0, 1) := by decide +kernel
theorem dX8_add_13 : decode cX8_add 13 = .ok (.getfield 16, 3) := by decide +kernel
theorem dX8_add_16 : decode cX8_add 16 = .ok (.aaload, 1) := by decide +kernel
theorem dX8_add_17 : decode cX8_add 17 = .ok (.iconst 0, 1) := by decide +kernel
theorem dX8_add_18 : decode cX8_add 18 = .ok (.iload_n 1, 1) := by decide +kernel
theorem dX8_add_19 : decode cX8_add 19 = .ok (.iastore, 1) := by decide +kernel
theorem dX8_add_20 : decode cX8_add 20 = .ok (.aload_n 0, 1) := by decide +kernel
theorem dX8_add_21 : decode cX8_add 21 = .ok (.getfield 13, 3) := by decide +kernel
theorem dX8_add_24 : decode cX8_add 24 = .ok (.aload_n 0, 1) := by decide +kernel
theorem dX8_add_25 : decode cX8_add 25 = .ok (.getfield 16, 3) := by decide +kernel
theorem dX8_add_28 : decode cX8_add 28 = .ok (.aaload, 1) := by decide +kernel
theorem dX8_add_29 : decode cX8_add 29 = .ok (.iconst 1, 1) := by decide +kernel
theorem dX8_add_30 : decode cX8_add 30 = .ok (.iload_n 2, 1) := by decide +kernel
theorem dX8_add_31 : decode cX8_add 31 = .ok (.ifCond .eq 7, 3) := by decide +kernel
theorem dX8_add_34 : decode cX8_add 34 = .ok (.iconst 1, 1) := by decide +kernel
theorem dX8_add_35 : decode cX8_add 35 = .ok (.goto 4, 3) := by decide +kernel
theorem dX8_add_38 : decode cX8_add 38 = .ok (.iconst 0, 1) := by decide +kernel
theorem dX8_add_39 : decode cX8_add 39 = .ok (.iastore, 1) := by decide +kernel
theorem dX8_add_40 : decode cX8_add 40 = .ok (.aload_n 0, 1) := by decide +kernel
theorem dX8_add_41 : decode cX8_add 41 = .ok (.getfield 13, 3) := by decide +kernel
theorem dX8_add_44 : decode cX8_add 44 = .ok (.aload_n 0, 1) := by decide +kernel
theorem dX8_add_45 : decode cX8_add 45 = .ok (.getfield 16, 3) := by decide +kernel
theorem dX8_add_48 : decode cX8_add 48 = .ok (.aaload, 1) := by decide +kernel
theorem dX8_add_49 : decode cX8_add 49 = .ok (.iconst 2, 1) := by decide +kernel
theorem dX8_add_50 : decode cX8_add 50 = .ok (.iload_n 3, 1) := by decide +kernel
theorem dX8_add_51 : decode cX8_add 51 = .ok (.ifCond .eq 7, 3) := by decide +kernel
theorem dX8_add_54 : decode cX8_add 54 = .ok (.iconst 1, 1) := by decide +kernel
theorem dX8_add_55 : decode cX8_add 55 = .ok (.goto 4, 3) := by decide +kernel
theorem dX8_add_58 : decode cX8_add 58 = .ok (.iconst 0, 1) := by decide +kernel
theorem dX8_add_59 : decode cX8_add 59 = .ok (.iastore, 1) := by decide +kernel
theorem dX8_add_60 : decode cX8_add 60 = .ok (.aload_n 0, 1) := by decide +kernel
theorem dX8_add_61 : decode cX8_add 61 = .ok (.getfield 13, 3) := by decide +kernel
theorem dX8_add_64 : decode cX8_add 64 = .ok (.aload_n 0, 1) := by decide +kernel
theorem dX8_add_65 : decode cX8_add 65 = .ok (.getfield 16, 3) := by decide +kernel
theorem dX8_add_68 : decode cX8_add 68 = .ok (.aaload, 1) := by decide +kernel
theorem dX8_add_69 : decode cX8_add 69 = .ok (.iconst 3, 1) := by decide +kernel
theorem dX8_add_70 : decode cX8_add 70 = .ok (.iload 4, 2) := by decide +kernel
theorem dX8_add_72 : decode cX8_add 72 = .ok (.ifCond .eq 7, 3) := by decide +kernel
theorem dX8_add_75 : decode cX8_add 75 = .ok (.iconst 1, 1) := by decide +kernel
theorem dX8_add_76 : decode cX8_add 76 = .ok (.goto 4, 3) := by decide +kernel
theorem dX8_add_79 : decode cX8_add 79 = .ok (.iconst 0, 1) := by decide +kernel
theorem dX8_add_80 : decode cX8_add 80 = .ok (.iastore, 1) := by decide +kernel
theorem dX8_add_81 : decode cX8_add 81 = .ok (.aload_n 0, 1) := by decide +kernel
theorem dX8_add_82 : decode cX8_add 82 = .ok (.dup, 1) := by decide +kernel
theorem dX8_add_83 : decode cX8_add 83 = .ok (.getfield 16, 3) := by decide +kernel
theorem dX8_add_86 : decode cX8_add 86 = .ok (.iconst 1, 1) := by decide +kernel
theorem dX8_add_87 : decode cX8_add 87 = .ok (.iadd, 1) := by decide +kernel
theorem dX8_add_88 : decode cX8_add 88 = .ok (.putfield 16, 3) := by decide +kernel
theorem dX8_add_91 : decode cX8_add 91 = .ok (.return_, 1) := by decide +kernel
theorem dX9_init_0 : decode cX9_init 0 = .ok (.aload_n 0, 1) := by decide +kernel
theorem dX9_init_1 : decode cX9_init 1 = .ok (.invokespecial 3, 3) := by decide +kernel
theorem dX9_init_4 : decode cX9_init 4 = .ok (.return_, 1) := by decide +kernel
theorem dX9_chooseByWeights_0 : decode cX9_chooseByWeights 0 = .ok (.iconst (-1), 1) := by decide +kernel
theorem dX9_chooseByWeights_1 : decode cX9_chooseByWeights 1 = .ok (.istore_n 2, 1) := by decide +kernel
theorem dX9_chooseByWeights_2 : decode cX9_chooseByWeights 2 = .ok (.iconst 0, 1) := by decide +kernel
theorem dX9_chooseByWeights_3 : decode cX9_chooseByWeights 3 = .ok (.istore_n 3, 1) := by decide +kernel
theorem dX9_chooseByWeights_4 : decode cX9_chooseByWeights 4 = .ok (.iconst 0, 1) := by decide +kernel
theorem dX9_chooseByWeights_5 : decode cX9_chooseByWeights 5 = .ok (.istore 4, 2) := by decide +kernel
theorem dX9_chooseByWeights_7 : decode cX9_chooseByWeights 7 = .ok (.iload 4, 2) := by decide +kernel
theorem dX9_chooseByWeights_9 : decode cX9_chooseByWeights 9 = .ok (.iload_n 1, 1) := by decide +kernel
theorem dX9_chooseByWeights_10 : decode cX9_chooseByWeights 10 = .ok (.if_icmp .ge 75, 3) := by decide +kernel
theorem dX9_chooseByWeights_13 : decode cX9_chooseByWeights 13 = .ok (.iload 4, 2) := by decide +kernel
theorem dX9_chooseByWeights_15 : decode cX9_chooseByWeights 15 = .ok (.aload_n 0, 1) := by decide +kernel
theorem dX9_chooseByWeights_16 : decode cX9_chooseByWeights 16 = .ok (.arraylength, 1) := by decide +kernel
theorem dX9_chooseByWeights_17 : decode cX9_chooseByWeights 17 = .ok (.if_icmp .ge 68, 3) := by decide +kernel
theorem dX9_chooseByWeights_20 : decode cX9_chooseByWeights 20 = .ok (.aload_n 0, 1) := by decide +kernel
theorem dX9_chooseByWeights_21 : decode cX9_chooseByWeights 21 = .ok (.iload 4, 2) := by decide +kernel
theorem dX9_chooseByWeights_23 : decode cX9_chooseByWeights 23 = .ok (.aaload, 1) := by decide +kernel
theorem dX9_chooseByWeights_24 : decode cX9_chooseByWeights 24 = .ok (.astore 5, 2) := by decide +kernel
theorem dX9_chooseByWeights_26 : decode cX9_chooseByWeights 26 = .ok (.aload 5, 2) := by decide +kernel
theorem dX9_chooseByWeights_28 : decode cX9_chooseByWeights 28 = .ok (.getfield 9, 3) := by decide +kernel
theorem dX9_chooseByWeights_31 : decode cX9_chooseByWeights 31 = .ok (.ifCond .eq 48, 3) := by decide +kernel
theorem dX9_chooseByWeights_34 : decode cX9_chooseByWeights 34 = .ok (.aload 5, 2) := by decide +kernel
theorem dX9_chooseByWeights_36 : decode cX9_chooseByWeights 36 = .ok (.dup, 1) := by decide +kernel
theorem dX9_chooseByWeights_37 : decode cX9_chooseByWeights 37 = .ok (.getfield 15, 3) := by decide +kernel
theorem dX9_chooseByWeights_40 : decode cX9_chooseByWeights 40 = .ok (.aload 5, 2) := by decide +kernel
theorem dX9_chooseByWeights_42 : decode cX9_chooseByWeights 42 = .ok (.getfield 19, 3) := by decide +kernel
theorem dX9_chooseByWeights_45 : decode cX9_chooseByWeights 45 = .ok (.iadd, 1) := by decide +kernel
theorem dX9_chooseByWeights_46 : decode cX9_chooseByWeights 46 = .ok (.putfield 15, 3) := by decide +kernel
theorem dX9_chooseByWeights_49 : decode cX9_chooseByWeights 49 = .ok (.iload_n 3, 1) := by decide +kernel
theorem dX9_chooseByWeights_50 : decode cX9_chooseByWeights 50 = .ok (.aload 5, 2) := by decide +kernel
theorem dX9_chooseByWeights_52 : decode cX9_chooseByWeights 52 = .ok (.getfield 19, 3) := by decide +kernel
theorem dX9_chooseByWeights_55 : decode cX9_chooseByWeights 55 = .ok (.iadd, 1) := by decide +kernel
theorem dX9_chooseByWeights_56 : decode cX9_chooseByWeights 56 = .ok (.istore_n 3, 1) := by decide +kernel
theorem dX9_chooseByWeights_57 : decode cX9_chooseByWeights 57 = .ok (.iload_n 2, 1) := by decide +kernel
theorem dX9_chooseByWeights_58 : decode cX9_chooseByWeights 58 = .ok (.iconst (-1), 1) := by decide +kernel
theorem dX9_chooseByWeights_59 : decode cX9_chooseByWeights 59 = .ok (.if_icmp .eq 17, 3) := by decide +kernel
theorem dX9_chooseByWeights_62 : decode cX9_chooseByWeights 62 = .ok (.aload 5, 2) := by decide +kernel
theorem dX9_chooseByWeights_64 : decode cX9_chooseByWeights 64 = .ok (.getfield 15, 3) := by decide +kernel
theorem dX9_chooseByWeights_67 : decode cX9_chooseByWeights 67 = .ok (.aload_n 0, 1) := by decide +kernel
theorem dX9_chooseByWeights_68 : decode cX9_chooseByWeights 68 = .ok (.iload_n 2, 1) := by decide +kernel
theorem dX9_chooseByWeights_69 : decode cX9_chooseByWeights 69 = .ok (.aaload, 1) := by decide +kernel
theorem dX9_chooseByWeights_70 : decode cX9_chooseByWeights 70 = .ok (.getfield 15, 3) := by decide +kernel
theorem dX9_chooseByWeights_73 : decode cX9_chooseByWeights 73 = .ok (.if_icmp .le 6, 3) := by decide +kernel
theorem dX9_chooseByWeights_76 : decode cX9_chooseByWeights 76 = .ok (.iload 4, 2) := by decide +kernel
theorem dX9_chooseByWeights_78 : decode cX9_chooseByWeights 78 = .ok (.istore_n 2, 1) := by decide +kernel
theorem dX9_chooseByWeights_79 : decode cX9_chooseByWeights 79 = .ok (.iinc 4 1, 3) := by decide +kernel
theorem dX9_chooseByWeights_82 : decode cX9_chooseByWeights 82 = .ok (.goto (-75), 3) := by decide +kernel
theorem dX9_chooseByWeights_85 : decode cX9_chooseByWeights 85 = .ok (.iload_n 2, 1) := by decide +kernel
theorem dX9_chooseByWeights_86 : decode cX9_chooseByWeights 86 = .ok (.iconst (-1), 1) := by decide +kernel
theorem dX9_chooseByWeights_87 : decode cX9_chooseByWeights 87 = .ok (.if_icmp .eq 15, 3) := by decide +kernel
theorem dX9_chooseByWeights_90 : decode cX9_chooseByWeights 90 = .ok (.aload_n 0, 1) := by decide +kernel
theorem dX9_chooseByWeights_91 : decode cX9_chooseByWeights 91 = .ok (.iload_n 2, 1) := by decide +kernel
theorem dX9_chooseByWeights_92 : decode cX9_chooseByWeights 92 = .ok (.aaload, 1) := by decide +kernel
theorem dX9_chooseByWeights_93 : decode cX9_chooseByWeights 93 = .ok (.dup, 1) := by decide +kernel
theorem dX9_chooseByWeights_94 : decode cX9_chooseByWeights 94 = .ok (.getfield 15, 3) := by decide +kernel
theorem dX9_chooseByWeights_97 : decode cX9_chooseByWeights 97 = .ok (.iload_n 3, 1) := by decide +kernel
theorem dX9_chooseByWeights_98 : decode cX9_chooseByWeights 98 = .ok (.isub, 1) := by decide +kernel
theorem dX9_chooseByWeights_99 : decode cX9_chooseByWeights 99 = .ok (.putfield 15, 3) := by decide +kernel
theorem dX9_chooseByWeights_102 : decode cX9_chooseByWeights 102 = .ok (.iload_n 2, 1) := by decide +kernel
theorem dX9_chooseByWeights_103 : decode cX9_chooseByWeights 103 = .ok (.ireturn, 1) := by decide +kernel
theorem dX10_init_0 : decode cX10_init 0 = .ok (.aload_n 0, 1) := by decide +kernel
theorem dX10_init_1 : decode cX10_init 1 = .ok (.invokespecial 1, 3) := by decide +kernel
theorem dX10_init_4 : decode cX10_init 4 = .ok (.aload_n 0, 1) := by decide +kernel
theorem dX10_init_5 : decode cX10_init 5 = .ok (.new 7, 3) := by decide +kernel
theorem dX10_init_8 : decode cX10_init 8 = .ok (.dup, 1) := by decide +kernel
theorem dX10_init_9 : decode cX10_init 9 = .ok (.invokespecial 9, 3) := by decide +kernel
theorem dX10_init_12 : decode cX10_init 12 = .ok (.putfield 10, 3) := by decide +kernel
theorem dX10_init_15 : decode cX10_init 15 = .ok (.aload_n 0, 1) := by decide +kernel
theorem dX10_init_16 : decode cX10_init 16 = .ok (.new 7, 3) := by decide +kernel
theorem dX10_init_19 : decode cX10_init 19 = .ok (.dup, 1) := by decide +kernel
theorem dX10_init_20 : decode cX10_init 20 = .ok (.invokespecial 9, 3) := by decide +kernel
theorem dX10_init_23 : decode cX10_init 23 = .ok (.putfield 16, 3) := by decide +kernel
theorem dX10_init_26 : decode cX10_init 26 = .ok (.aload_n 0, 1) := by decide +kernel
theorem dX10_init_27 : decode cX10_init 27 = .ok (.new 7, 3) := by decide +kernel
theorem dX10_init_30 : decode cX10_init 30 = .ok (.dup, 1) := by decide +kernel
theorem dX10_init_31 : decode cX10_init 31 = .ok (.invokespecial 9, 3) := by decide +kernel
theorem dX10_init_34 : decode cX10_init 34 = .ok (.putfield 19, 3) := by decide +kernel
theorem dX10_init_37 : decode cX10_init 37 = .ok (.aload_n 0, 1) := by decide +kernel
theorem dX10_init_38 : decode cX10_init 38 = .ok (.new 7, 3) := by decide +kernel
theorem dX10_init_41 : decode cX10_init 41 = .ok (.dup, 1) := by decide +kernel
theorem dX10_init_42 : decode cX10_init 42 = .ok (.invokespecial 9, 3) := by decide +kernel
theorem dX10_init_45 : decode cX10_init 45 = .ok (.putfield 22, 3) := by decide +kernel
theorem dX10_init_48 : decode cX10_init 48 = .ok (.aload_n 0, 1) := by decide +kernel
theorem dX10_init_49 : decode cX10_init 49 = .ok (.new 25, 3) := by decide +kernel
theorem dX10_init_52 : decode cX10_init 52 = .ok (.dup, 1) := by decide +kernel
theorem dX10_init_53 : decode cX10_init 53 = .ok (.invokespecial 27, 3) := by decide +kernel
theorem dX10_init_56 : decode cX10_init 56 = .ok (.putfield 28, 3) := by decide +kernel
theorem dX10_init_59 : decode cX10_init 59 = .ok (.aload_n 0, 1) := by decide +kernel
theorem dX10_init_60 : decode cX10_init 60 = .ok (.new 32, 3) := by decide +kernel
theorem dX10_init_63 : decode cX10_init 63 = .ok (.dup, 1) := by decide +kernel
theorem dX10_init_64 : decode cX10_init 64 = .ok (.invokespecial 34, 3) := by decide +kernel
theorem dX10_init_67 : decode cX10_init 67 = .ok (.putfield 35, 3) := by decide +kernel
theorem dX10_init_70 : decode cX10_init 70 = .ok (.aload_n 0, 1) := by decide +kernel
theorem dX10_init_71 : decode cX10_init 71 = .ok (.new 32, 3) := by decide +kernel
theorem dX10_init_74 : decode cX10_init 74 = .ok (.dup, 1) := by decide +kernel
theorem dX10_init_75 : decode cX10_init 75 = .ok (.invokespecial 34, 3) := by decide +kernel
theorem dX10_init_78 : decode cX10_init 78 = .ok (.putfield 39, 3) := by decide +kernel
theorem dX10_init_81 : decode cX10_init 81 = .ok (.aload_n 0, 1) := by decide +kernel
theorem dX10_init_82 : decode cX10_init 82 = .ok (.new 42, 3) := by decide +kernel
theorem dX10_init_85 : decode cX10_init 85 = .ok (.dup, 1) := by decide +kernel
theorem dX10_init_86 : decode cX10_init 86 = .ok (.aload_n 0, 1) := by decide +kernel
theorem dX10_init_87 : decode cX10_init 87 = .ok (.getfield 35, 3) := by decide +kernel
theorem dX10_init_90 : decode cX10_init 90 = .ok (.invokespecial 44, 3) := by decide +kernel
theorem dX10_init_93 : decode cX10_init 93 = .ok (.putfield 47, 3) := by decide +kernel
theorem dX10_init_96 : decode cX10_init 96 = .ok (.return_, 1) := by decide +kernel
theorem dX10_addBackend_0 : decode cX10_addBackend 0 = .ok (.iload_n 1, 1) := by decide +kernel
theorem dX10_addBackend_1 : decode cX10_addBackend 1 = .ok (.invokestatic 51, 3) := by decide +kernel
theorem dX10_addBackend_4 : decode cX10_addBackend 4 = .ok (.ifCond .eq 20, 3) := by decide +kernel
theorem dX10_addBackend_7 : decode cX10_addBackend 7 = .ok (.iload_n 2, 1) := by decide +kernel
theorem dX10_addBackend_8 : decode cX10_addBackend 8 = .ok (.invokestatic 55, 3) := by decide +kernel
theorem dX10_addBackend_11 : decode cX10_addBackend 11 = .ok (.ifCond .eq 13, 3) := by decide +kernel
theorem dX10_addBackend_14 : decode cX10_addBackend 14 = .ok (.iload_n 3, 1) := by decide +kernel
theorem dX10_addBackend_15 : decode cX10_addBackend 15 = .ok (.iconst 0, 1) := by decide +kernel
theorem dX10_addBackend_16 : decode cX10_addBackend 16 = .ok (.bipush 9, 2) := by decide +kernel
theorem dX10_addBackend_18 : decode cX10_addBackend 18 = .ok (.invokestatic 58, 3) := by decide +kernel
theorem dX10_addBackend_21 : decode cX10_addBackend 21 = .ok (.ifCond .ne 6, 3) := by decide +kernel
theorem dX10_addBackend_24 : decode cX10_addBackend 24 = .ok (.bipush (-2), 2) := by decide +kernel
theorem dX10_addBackend_26 : decode cX10_addBackend 26 = .ok (.ireturn, 1) := by decide +kernel
theorem dX10_addBackend_27 : decode cX10_addBackend 27 = .ok (.aload_n 0, 1) := by decide +kernel
theorem dX10_addBackend_28 : decode cX10_addBackend 28 = .ok (.getfield 10, 3) := by decide +kernel
theorem dX10_addBackend_31 : decode cX10_addBackend 31 = .ok (.getfield 62, 3) := by decide +kernel
theorem dX10_addBackend_34 : decode cX10_addBackend 34 = .ok (.bipush 12, 2) := by decide +kernel
theorem dX10_addBackend_36 : decode cX10_addBackend 36 = .ok (.if_icmp .lt 6, 3) := by decide +kernel
theorem dX10_addBackend_39 : decode cX10_addBackend 39 = .ok (.bipush (-3), 2) := by decide +kernel
theorem dX10_addBackend_41 : decode cX10_addBackend 41 = .ok (.ireturn, 1) := by decide +kernel
theorem dX10_addBackend_42 : decode cX10_addBackend 42 = .ok (.aload_n 0, 1) := by decide +kernel
theorem dX10_addBackend_43 : decode cX10_addBackend 43 = .ok (.getfield 28, 3) := by decide +kernel
theorem dX10_addBackend_46 : decode cX10_addBackend 46 = .ok (.invokevirtual 66, 3) := by decide +kernel
theorem dX10_addBackend_49 : decode cX10_addBackend 49 = .ok (.aload_n 0, 1) := by decide +kernel
theorem dX10_addBackend_50 : decode cX10_addBackend 50 = .ok (.getfield 10, 3) := by decide +kernel
theorem dX10_addBackend_53 : decode cX10_addBackend 53 = .ok (.iload_n 1, 1) := by decide +kernel
theorem dX10_addBackend_54 : decode cX10_addBackend 54 = .ok (.iload_n 2, 1) := by decide +kernel
theorem dX10_addBackend_55 : decode cX10_addBackend 55 = .ok (.iload_n 3, 1) := by decide +kernel
theorem dX10_addBackend_56 : decode cX10_addBackend 56 = .ok (.invokevirtual 69, 3) := by decide +kernel
theorem dX10_addBackend_59 : decode cX10_addBackend 59 = .ok (.ireturn, 1) := by decide +kernel
theorem dX10_setWeight_0 : decode cX10_setWeight 0 = .ok (.aload_n 0, 1) := by decide +kernel
theorem dX10_setWeight_1 : decode cX10_setWeight 1 = .ok (.getfield 10, 3) := by decide +kernel
theorem dX10_setWeight_4 : decode cX10_setWeight 4 = .ok (.iload_n 1, 1) := by decide +kernel
theorem dX10_setWeight_5 : decode cX10_setWeight 5 = .ok (.invokevirtual 73, 3) := by decide +kernel
theorem dX10_setWeight_8 : decode cX10_setWeight 8 = .ok (.ifCond .ne 5, 3) := by decide +kernel
theorem dX10_setWeight_11 : decode cX10_setWeight 11 = .ok (.iconst (-1), 1) := by decide +kernel
theorem dX10_setWeight_12 : decode cX10_setWeight 12 = .ok (.ireturn, 1) := by decide +kernel
theorem dX10_setWeight_13 : decode cX10_setWeight 13 = .ok (.iload_n 2, 1) := by decide +kernel
theorem dX10_setWeight_14 : decode cX10_setWeight 14 = .ok (.iconst 0, 1) := by decide +kernel
theorem dX10_setWeight_15 : decode cX10_setWeight 15 = .ok (.bipush 9, 2) := by decide +kernel
theorem dX10_setWeight_17 : decode cX10_setWeight 17 = .ok (.invokestatic 58, 3) := by decide +kernel
theorem dX10_setWeight_20 : decode cX10_setWeight 20 = .ok (.ifCond .ne 6, 3) := by decide +kernel
theorem dX10_setWeight_23 : decode cX10_setWeight 23 = .ok (.bipush (-2), 2) := by decide +kernel
theorem dX10_setWeight_25 : decode cX10_setWeight 25 = .ok (.ireturn, 1) := by decide +kernel
theorem dX10_setWeight_26 : decode cX10_setWeight 26 = .ok (.aload_n 0, 1) := by decide +kernel
theorem dX10_setWeight_27 : decode cX10_setWeight 27 = .ok (.getfield 28, 3) := by decide +kernel
theorem dX10_setWeight_30 : decode cX10_setWeight 30 = .ok (.invokevirtual 66, 3) := by decide +kernel
theorem dX10_setWeight_33 : decode cX10_setWeight 33 = .ok (.aload_n 0, 1) := by decide +kernel
theorem dX10_setWeight_34 : decode cX10_setWeight 34 = .ok (.getfield 10, 3) := by decide +kernel
theorem dX10_setWeight_37 : decode cX10_setWeight 37 = .ok (.getfield 76, 3) := by decide +kernel
theorem dX10_setWeight_40 : decode cX10_setWeight 40 = .ok (.iload_n 1, 1) := by decide +kernel
theorem dX10_setWeight_41 : decode cX10_setWeight 41 = .ok (.aaload, 1) := by decide +kernel
theorem dX10_setWeight_42 : decode cX10_setWeight 42 = .ok (.getfield 80, 3) := by decide +kernel
theorem dX10_setWeight_45 : decode cX10_setWeight 45 = .ok (.istore_n 3, 1) := by decide +kernel
theorem dX10_setWeight_46 : decode cX10_setWeight 46 = .ok (.aload_n 0, 1) := by decide +kernel
theorem dX10_setWeight_47 : decode cX10_setWeight 47 = .ok (.getfield 10, 3) := by decide +kernel
theorem dX10_setWeight_50 : decode cX10_setWeight 50 = .ok (.getfield 76, 3) := by decide +kernel
theorem dX10_setWeight_53 : decode cX10_setWeight 53 = .ok (.iload_n 1, 1) := by decide +kernel
theorem dX10_setWeight_54 : decode cX10_setWeight 54 = .ok (.aaload, 1) := by decide +kernel
theorem dX10_setWeight_55 : decode cX10_setWeight 55 = .ok (.iload_n 2, 1) := by decide +kernel
theorem dX10_setWeight_56 : decode cX10_setWeight 56 = .ok (.putfield 80, 3) := by decide +kernel
theorem dX10_setWeight_59 : decode cX10_setWeight 59 = .ok (.iload_n 3, 1) := by decide +kernel
theorem dX10_setWeight_60 : decode cX10_setWeight 60 = .ok (.ireturn, 1) := by decide +kernel
theorem dX10_setPattern_0 : decode cX10_setPattern 0 = .ok (.aload_n 0, 1) := by decide +kernel
theorem dX10_setPattern_1 : decode cX10_setPattern 1 = .ok (.getfield 10, 3) := by decide +kernel
theorem dX10_setPattern_4 : decode cX10_setPattern 4 = .ok (.iload_n 1, 1) := by decide +kernel
theorem dX10_setPattern_5 : decode cX10_setPattern 5 = .ok (.invokevirtual 73, 3) := by decide +kernel
theorem dX10_setPattern_8 : decode cX10_setPattern 8 = .ok (.ifCond .ne 5, 3) := by decide +kernel
theorem dX10_setPattern_11 : decode cX10_setPattern 11 = .ok (.iconst (-1), 1) := by decide +kernel
theorem dX10_setPattern_12 : decode cX10_setPattern 12 = .ok (.ireturn, 1) := by decide +kernel
theorem dX10_setPattern_13 : decode cX10_setPattern 13 = .ok (.iload_n 2, 1) := by decide +kernel
theorem dX10_setPattern_14 : decode cX10_setPattern 14 = .ok (.iconst 0, 1) := by decide +kernel
theorem dX10_setPattern_15 : decode cX10_setPattern 15 = .ok (.sipush 255, 3) := by decide +kernel
theorem dX10_setPattern_18 : decode cX10_setPattern 18 = .ok (.invokestatic 58, 3) := by decide +kernel
theorem dX10_setPattern_21 : decode cX10_setPattern 21 = .ok (.ifCond .ne 6, 3) := by decide +kernel
theorem dX10_setPattern_24 : decode cX10_setPattern 24 = .ok (.bipush (-2), 2) := by decide +kernel
theorem dX10_setPattern_26 : decode cX10_setPattern 26 = .ok (.ireturn, 1) := by decide +kernel
theorem dX10_setPattern_27 : decode cX10_setPattern 27 = .ok (.aload_n 0, 1) := by decide +kernel
theorem dX10_setPattern_28 : decode cX10_setPattern 28 = .ok (.getfield 28, 3) := by decide +kernel
theorem dX10_setPattern_31 : decode cX10_setPattern 31 = .ok (.invokevirtual 66, 3) := by decide +kernel
theorem dX10_setPattern_34 : decode cX10_setPattern 34 = .ok (.aload_n 0, 1) := by decide +kernel
theorem dX10_setPattern_35 : decode cX10_setPattern 35 = .ok (.getfield 10, 3) := by decide +kernel
theorem dX10_setPattern_38 : decode cX10_setPattern 38 = .ok (.getfield 76, 3) := by decide +kernel
theorem dX10_setPattern_41 : decode cX10_setPattern 41 = .ok (.iload_n 1, 1) := by decide +kernel
theorem dX10_setPattern_42 : decode cX10_setPattern 42 = .ok (.aaload, 1) := by decide +kernel
theorem dX10_setPattern_43 : decode cX10_setPattern 43 = .ok (.getfield 85, 3) := by decide +kernel
theorem dX10_setPattern_46 : decode cX10_setPattern 46 = .ok (.istore_n 3, 1) := by decide +kernel
theorem dX10_setPattern_47 : decode cX10_setPattern 47 = .ok (.aload_n 0, 1) := by decide +kernel
theorem dX10_setPattern_48 : decode cX10_setPattern 48 = .ok (.getfield 10, 3) := by decide +kernel
theorem dX10_setPattern_51 : decode cX10_setPattern 51 = .ok (.getfield 76, 3) := by decide +kernel
theorem dX10_setPattern_54 : decode cX10_setPattern 54 = .ok (.iload_n 1, 1) := by decide +kernel
theorem dX10_setPattern_55 : decode cX10_setPattern 55 = .ok (.aaload, 1) := by decide +kernel
theorem dX10_setPattern_56 : decode cX10_setPattern 56 = .ok (.iload_n 2, 1) := by decide +kernel
theorem dX10_setPattern_57 : decode cX10_setPattern 57 = .ok (.putfield 85, 3) := by decide +kernel
theorem dX10_setPattern_60 : decode cX10_setPattern 60 = .ok (.iload_n 3, 1) := by decide +kernel
theorem dX10_setPattern_61 : decode cX10_setPattern 61 = .ok (.ireturn, 1) := by decide +kernel
theorem dX10_configure_0 : decode cX10_configure 0 = .ok (.iload_n 1, 1) := by decide +kernel
theorem dX10_configure_1 : decode cX10_configure 1 = .ok (.invokestatic 51, 3) := by decide +kernel
theorem dX10_configure_4 : decode cX10_configure 4 = .ok (.ifCond .eq 59, 3) := by decide +kernel
theorem dX10_configure_7 : decode cX10_configure 7 = .ok (.iload_n 2, 1) := by decide +kernel
theorem dX10_configure_8 : decode cX10_configure 8 = .ok (.iconst 0, 1) := by decide +kernel
theorem dX10_configure_9 : decode cX10_configure 9 = .ok (.iconst 2, 1) := by decide +kernel
theorem dX10_configure_10 : decode cX10_configure 10 = .ok (.invokestatic 58, 3) := by decide +kernel
theorem dX10_configure_13 : decode cX10_configure 13 = .ok (.ifCond .eq 50, 3) := by decide +kernel
theorem dX10_configure_16 : decode cX10_configure 16 = .ok (.iload_n 3, 1) := by decide +kernel
theorem dX10_configure_17 : decode cX10_configure 17 = .ok (.iconst 1, 1) := by decide +kernel
theorem dX10_configure_18 : decode cX10_configure 18 = .ok (.bipush 9, 2) := by decide +kernel
theorem dX10_configure_20 : decode cX10_configure 20 = .ok (.invokestatic 58, 3) := by decide +kernel
theorem dX10_configure_23 : decode cX10_configure 23 = .ok (.ifCond .eq 40, 3) := by decide +kernel
theorem dX10_configure_26 : decode cX10_configure 26 = .ok (.iload 4, 2) := by decide +kernel
theorem dX10_configure_28 : decode cX10_configure 28 = .ok (.iconst 1, 1) := by decide +kernel
theorem dX10_configure_29 : decode cX10_configure 29 = .ok (.bipush 20, 2) := by decide +kernel
theorem dX10_configure_31 : decode cX10_configure 31 = .ok (.invokestatic 58, 3) := by decide +kernel
theorem dX10_configure_34 : decode cX10_configure 34 = .ok (.ifCond .eq 29, 3) := by decide +kernel
theorem dX10_configure_37 : decode cX10_configure 37 = .ok (.iload 5, 2) := by decide +kernel
theorem dX10_configure_39 : decode cX10_configure 39 = .ok (.iconst 0, 1) := by decide +kernel
theorem dX10_configure_40 : decode cX10_configure 40 = .ok (.bipush 100, 2) := by decide +kernel
theorem dX10_configure_42 : decode cX10_configure 42 = .ok (.invokestatic 58, 3) := by decide +kernel
theorem dX10_configure_45 : decode cX10_configure 45 = .ok (.ifCond .eq 18, 3) := by decide +kernel
theorem dX10_configure_48 : decode cX10_configure 48 = .ok (.iload 6, 2) := by decide +kernel
theorem dX10_configure_50 : decode cX10_configure 50 = .ok (.iconst 0, 1) := by decide +kernel
theorem dX10_configure_51 : decode cX10_configure 51 = .ok (.bipush 100, 2) := by decide +kernel
theorem dX10_configure_53 : decode cX10_configure 53 = .ok (.invokestatic 58, 3) := by decide +kernel
theorem dX10_configure_56 : decode cX10_configure 56 = .ok (.ifCond .eq 7, 3) := by decide +kernel
theorem dX10_configure_59 : decode cX10_configure 59 = .ok (.iconst 1, 1) := by decide +kernel
theorem dX10_configure_60 : decode cX10_configure 60 = .ok (.goto 4, 3) := by decide +kernel
theorem dX10_configure_63 : decode cX10_configure 63 = .ok (.iconst 0, 1) := by decide +kernel
theorem dX10_configure_64 : decode cX10_configure 64 = .ok (.istore 7, 2) := by decide +kernel
theorem dX10_configure_66 : decode cX10_configure 66 = .ok (.iload 7, 2) := by decide +kernel
theorem dX10_configure_68 : decode cX10_configure 68 = .ok (.ifCond .ne 6, 3) := by decide +kernel
theorem dX10_configure_71 : decode cX10_configure 71 = .ok (.bipush (-2), 2) := by decide +kernel
theorem dX10_configure_73 : decode cX10_configure 73 = .ok (.ireturn, 1) := by decide +kernel
theorem dX10_configure_74 : decode cX10_configure 74 = .ok (.aload_n 0, 1) := by decide +kernel
theorem dX10_configure_75 : decode cX10_configure 75 = .ok (.getfield 28, 3) := by decide +kernel
theorem dX10_configure_78 : decode cX10_configure 78 = .ok (.invokevirtual 66, 3) := by decide +kernel
theorem dX10_configure_81 : decode cX10_configure 81 = .ok (.aload_n 0, 1) := by decide +kernel
theorem dX10_configure_82 : decode cX10_configure 82 = .ok (.getfield 10, 3) := by decide +kernel
theorem dX10_configure_85 : decode cX10_configure 85 = .ok (.getfield 88, 3) := by decide +kernel
theorem dX10_configure_88 : decode cX10_configure 88 = .ok (.iload_n 1, 1) := by decide +kernel
theorem dX10_configure_89 : decode cX10_configure 89 = .ok (.aaload, 1) := by decide +kernel
theorem dX10_configure_90 : decode cX10_configure 90 = .ok (.astore 8, 2) := by decide +kernel
theorem dX10_configure_92 : decode cX10_configure 92 = .ok (.aload 8, 2) := by decide +kernel
theorem dX10_configure_94 : decode cX10_configure 94 = .ok (.getfield 92, 3) := by decide +kernel
theorem dX10_configure_97 : decode cX10_configure 97 = .ok (.istore 9, 2) := by decide +kernel
theorem dX10_configure_99 : decode cX10_configure 99 = .ok (.aload 8, 2) := by decide +kernel
theorem dX10_configure_101 : decode cX10_configure 101 = .ok (.iload_n 2, 1) := by decide +kernel
theorem dX10_configure_102 : decode cX10_configure 102 = .ok (.putfield 92, 3) := by decide +kernel
theorem dX10_configure_105 : decode cX10_configure 105 = .ok (.aload 8, 2) := by decide +kernel
theorem dX10_configure_107 : decode cX10_configure 107 = .ok (.iload_n 3, 1) := by decide +kernel
theorem dX10_configure_108 : decode cX10_configure 108 = .ok (.putfield 97, 3) := by decide +kernel
theorem dX10_configure_111 : decode cX10_configure 111 = .ok (.aload 8, 2) := by decide +kernel
theorem dX10_configure_113 : decode cX10_configure 113 = .ok (.iload 4, 2) := by decide +kernel
theorem dX10_configure_115 : decode cX10_configure 115 = .ok (.putfield 100, 3) := by decide +kernel
theorem dX10_configure_118 : decode cX10_configure 118 = .ok (.aload 8, 2) := by decide +kernel
theorem dX10_configure_120 : decode cX10_configure 120 = .ok (.iload 5, 2) := by decide +kernel
theorem dX10_configure_122 : decode cX10_configure 122 = .ok (.putfield 103, 3) := by decide +kernel
theorem dX10_configure_125 : decode cX10_configure 125 = .ok (.aload 8, 2) := by decide +kernel
theorem dX10_configure_127 : decode cX10_configure 127 = .ok (.iload 6, 2) := by decide +kernel
theorem dX10_configure_129 : decode cX10_configure 129 = .ok (.putfield 106, 3) := by decide +kernel
theorem dX10_configure_132 : decode cX10_configure 132 = .ok (.iload 9, 2) := by decide +kernel
theorem dX10_configure_134 : decode cX10_configure 134 = .ok (.ireturn, 1) := by decide +kernel
theorem dX10_setZoneLimit_0 : decode cX10_setZoneLimit 0 = .ok (.iload_n 1, 1) := by decide +kernel
theorem dX10_setZoneLimit_1 : decode cX10_setZoneLimit 1 = .ok (.iconst 1, 1) := by decide +kernel
theorem dX10_setZoneLimit_2 : decode cX10_setZoneLimit 2 = .ok (.bipush 100, 2) := by decide +kernel
theorem dX10_setZoneLimit_4 : decode cX10_setZoneLimit 4 = .ok (.invokestatic 58, 3) := by decide +kernel
theorem dX10_setZoneLimit_7 : decode cX10_setZoneLimit 7 = .ok (.ifCond .ne 6, 3) := by decide +kernel
theorem dX10_setZoneLimit_10 : decode cX10_setZoneLimit 10 = .ok (.bipush (-2), 2) := by decide +kernel
theorem dX10_setZoneLimit_12 : decode cX10_setZoneLimit 12 = .ok (.ireturn, 1) := by decide +kernel
theorem dX10_setZoneLimit_13 : decode cX10_setZoneLimit 13 = .ok (.aload_n 0, 1) := by decide +kernel
theorem dX10_setZoneLimit_14 : decode cX10_setZoneLimit 14 = .ok (.getfield 28, 3) := by decide +kernel
theorem dX10_setZoneLimit_17 : decode cX10_setZoneLimit 17 = .ok (.invokevirtual 66, 3) := by decide +kernel
theorem dX10_setZoneLimit_20 : decode cX10_setZoneLimit 20 = .ok (.aload_n 0, 1) := by decide +kernel
theorem dX10_setZoneLimit_21 : decode cX10_setZoneLimit 21 = .ok (.getfield 10, 3) := by decide +kernel
theorem dX10_setZoneLimit_24 : decode cX10_setZoneLimit 24 = .ok (.getfield 109, 3) := by decide +kernel
theorem dX10_setZoneLimit_27 : decode cX10_setZoneLimit 27 = .ok (.istore_n 2, 1) := by decide +kernel
theorem dX10_setZoneLimit_28 : decode cX10_setZoneLimit 28 = .ok (.aload_n 0, 1) := by decide +kernel
theorem dX10_setZoneLimit_29 : decode cX10_setZoneLimit 29 = .ok (.getfield 10, 3) := by decide +kernel
theorem dX10_setZoneLimit_32 : decode cX10_setZoneLimit 32 = .ok (.iload_n 1, 1) := by decide +kernel
theorem dX10_setZoneLimit_33 : decode cX10_setZoneLimit 33 = .ok (.putfield 109, 3) := by decide +kernel
theorem dX10_setZoneLimit_36 : decode cX10_setZoneLimit 36 = .ok (.iload_n 2, 1) := by decide +kernel
theorem dX10_setZoneLimit_37 : decode cX10_setZoneLimit 37 = .ok (.ireturn, 1) := by decide +kernel
theorem dX10_append_0 : decode cX10_append 0 = .ok (.iload_n 1, 1) := by decide +kernel
theorem dX10_append_1 : decode cX10_append 1 = .ok (.iconst 0, 1) := by decide +kernel
theorem dX10_append_2 : decode cX10_append 2 = .ok (.bipush 127, 2) := by decide +kernel
theorem dX10_append_4 : decode cX10_append 4 = .ok (.invokestatic 58, 3) := by decide +kernel
theorem dX10_append_7 : decode cX10_append 7 = .ok (.ifCond .eq 13, 3) := by decide +kernel
theorem dX10_append_10 : decode cX10_append 10 = .ok (.iload_n 2, 1) := by decide +kernel
theorem dX10_append_11 : decode cX10_append 11 = .ok (.iconst 1, 1) := by decide +kernel
theorem dX10_append_12 : decode cX10_append 12 = .ok (.bipush 40, 2) := by decide +kernel
theorem dX10_append_14 : decode cX10_append 14 = .ok (.invokestatic 58, 3) := by decide +kernel
theorem dX10_append_17 : decode cX10_append 17 = .ok (.ifCond .ne 6, 3) := by decide +kernel
theorem dX10_append_20 : decode cX10_append 20 = .ok (.bipush (-2), 2) := by decide +kernel
theorem dX10_append_22 : decode cX10_append 22 = .ok (.ireturn, 1) := by decide +kernel
theorem dX10_append_23 : decode cX10_append 23 = .ok (.aload_n 0, 1) := by decide +kernel
theorem dX10_append_24 : decode cX10_append 24 = .ok (.getfield 35, 3) := by decide +kernel
theorem dX10_append_27 : decode cX10_append 27 = .ok (.getfield 112, 3) := by decide +kernel
theorem dX10_append_30 : decode cX10_append 30 = .ok (.iload_n 2, 1) := by decide +kernel
theorem dX10_append_31 : decode cX10_append 31 = .ok (.iadd, 1) := by decide +kernel
theorem dX10_append_32 : decode cX10_append 32 = .ok (.bipush 40, 2) := by decide +kernel
theorem dX10_append_34 : decode cX10_append 34 = .ok (.if_icmp .le 6, 3) := by decide +kernel
theorem dX10_append_37 : decode cX10_append 37 = .ok (.bipush (-3), 2) := by decide +kernel
theorem dX10_append_39 : decode cX10_append 39 = .ok (.ireturn, 1) := by decide +kernel
theorem dX10_append_40 : decode cX10_append 40 = .ok (.iconst 0, 1) := by decide +kernel
theorem dX10_append_41 : decode cX10_append 41 = .ok (.istore_n 3, 1) := by decide +kernel
theorem dX10_append_42 : decode cX10_append 42 = .ok (.iload_n 3, 1) := by decide +kernel
theorem dX10_append_43 : decode cX10_append 43 = .ok (.iload_n 2, 1) := by decide +kernel
theorem dX10_append_44 : decode cX10_append 44 = .ok (.if_icmp .ge 17, 3) := by decide +kernel
theorem dX10_append_47 : decode cX10_append 47 = .ok (.aload_n 0, 1) := by decide +kernel
theorem dX10_append_48 : decode cX10_append 48 = .ok (.getfield 35, 3) := by decide +kernel
theorem dX10_append_51 : decode cX10_append 51 = .ok (.iload_n 1, 1) := by decide +kernel
theorem dX10_append_52 : decode cX10_append 52 = .ok (.invokevirtual 115, 3) := by decide +kernel
theorem dX10_append_55 : decode cX10_append 55 = .ok (.iinc 3 1, 3) := by decide +kernel
theorem dX10_append_58 : decode cX10_append 58 = .ok (.goto (-16), 3) := by decide +kernel
theorem dX10_append_61 : decode cX10_append 61 = .ok (.aload_n 0, 1) := by decide +kernel
theorem dX10_append_62 : decode cX10_append 62 = .ok (.getfield 35, 3) := by decide +kernel
theorem dX10_append_65 : decode cX10_append 65 = .ok (.getfield 112, 3) := by decide +kernel
theorem dX10_append_68 : decode cX10_append 68 = .ok (.ireturn, 1) := by decide +kernel
theorem dX10_addRule_0 : decode cX10_addRule 0 = .ok (.aload_n 0, 1) := by decide +kernel
theorem dX10_addRule_1 : decode cX10_addRule 1 = .ok (.getfield 47, 3) := by decide +kernel
theorem dX10_addRule_4 : decode cX10_addRule 4 = .ok (.invokevirtual 119, 3) := by decide +kernel
theorem dX10_addRule_7 : decode cX10_addRule 7 = .ok (.istore_n 1, 1) := by decide +kernel
theorem dX10_addRule_8 : decode cX10_addRule 8 = .ok (.aload_n 0, 1) := by decide +kernel
theorem dX10_addRule_9 : decode cX10_addRule 9 = .ok (.getfield 35, 3) := by decide +kernel
theorem dX10_addRule_12 : decode cX10_addRule 12 = .ok (.invokevirtual 123, 3) := by decide +kernel
theorem dX10_addRule_15 : decode cX10_addRule 15 = .ok (.iload_n 1, 1) := by decide +kernel
theorem dX10_addRule_16 : decode cX10_addRule 16 = .ok (.iconst (-1), 1) := by decide +kernel
theorem dX10_addRule_17 : decode cX10_addRule 17 = .ok (.if_icmp .eq 8, 3) := by decide +kernel
theorem dX10_addRule_20 : decode cX10_addRule 20 = .ok (.bipush (-100), 2) := by decide +kernel
theorem dX10_addRule_22 : decode cX10_addRule 22 = .ok (.iload_n 1, 1) := by decide +kernel
theorem dX10_addRule_23 : decode cX10_addRule 23 = .ok (.isub, 1) := by decide +kernel
theorem dX10_addRule_24 : decode cX10_addRule 24 = .ok (.ireturn, 1) := by decide +kernel
theorem dX10_addRule_25 : decode cX10_addRule 25 = .ok (.aload_n 0, 1) := by decide +kernel
theorem dX10_addRule_26 : decode cX10_addRule 26 = .ok (.getfield 10, 3) := by decide +kernel
theorem dX10_addRule_29 : decode cX10_addRule 29 = .ok (.getfield 126, 3) := by decide +kernel
theorem dX10_addRule_32 : decode cX10_addRule 32 = .ok (.bipush 8, 2) := by decide +kernel
theorem dX10_addRule_34 : decode cX10_addRule 34 = .ok (.if_icmp .lt 6, 3) := by decide +kernel
theorem dX10_addRule_37 : decode cX10_addRule 37 = .ok (.bipush (-3), 2) := by decide +kernel
theorem dX10_addRule_39 : decode cX10_addRule 39 = .ok (.ireturn, 1) := by decide +kernel
theorem dX10_addRule_40 : decode cX10_addRule 40 = .ok (.aload_n 0, 1) := by decide +kernel
theorem dX10_addRule_41 : decode cX10_addRule 41 = .ok (.getfield 28, 3) := by decide +kernel
theorem dX10_addRule_44 : decode cX10_addRule 44 = .ok (.invokevirtual 66, 3) := by decide +kernel
theorem dX10_addRule_47 : decode cX10_addRule 47 = .ok (.aload_n 0, 1) := by decide +kernel
theorem dX10_addRule_48 : decode cX10_addRule 48 = .ok (.getfield 10, 3) := by decide +kernel
theorem dX10_addRule_51 : decode cX10_addRule 51 = .ok (.aload_n 0, 1) := by decide +kernel
theorem dX10_addRule_52 : decode cX10_addRule 52 = .ok (.getfield 47, 3) := by decide +kernel
theorem dX10_addRule_55 : decode cX10_addRule 55 = .ok (.getfield 129, 3) := by decide +kernel
theorem dX10_addRule_58 : decode cX10_addRule 58 = .ok (.invokevirtual 133, 3) := by decide +kernel
theorem dX10_addRule_61 : decode cX10_addRule 61 = .ok (.ireturn, 1) := by decide +kernel
theorem dX10_removeRule_0 : decode cX10_removeRule 0 = .ok (.aload_n 0, 1) := by decide +kernel
theorem dX10_removeRule_1 : decode cX10_removeRule 1 = .ok (.getfield 10, 3) := by decide +kernel
theorem dX10_removeRule_4 : decode cX10_removeRule 4 = .ok (.iload_n 1, 1) := by decide +kernel
theorem dX10_removeRule_5 : decode cX10_removeRule 5 = .ok (.invokevirtual 137, 3) := by decide +kernel
theorem dX10_removeRule_8 : decode cX10_removeRule 8 = .ok (.ifCond .ne 5, 3) := by decide +kernel
theorem dX10_removeRule_11 : decode cX10_removeRule 11 = .ok (.iconst (-1), 1) := by decide +kernel
theorem dX10_removeRule_12 : decode cX10_removeRule 12 = .ok (.ireturn, 1) := by decide +kernel
theorem dX10_removeRule_13 : decode cX10_removeRule 13 = .ok (.aload_n 0, 1) := by decide +kernel
theorem dX10_removeRule_14 : decode cX10_removeRule 14 = .ok (.getfield 28, 3) := by decide +kernel
theorem dX10_removeRule_17 : decode cX10_removeRule 17 = .ok (.invokevirtual 66, 3) := by decide +kernel
theorem dX10_removeRule_20 : decode cX10_removeRule 20 = .ok (.aload_n 0, 1) := by decide +kernel
theorem dX10_removeRule_21 : decode cX10_removeRule 21 = .ok (.getfield 10, 3) := by decide +kernel
theorem dX10_removeRule_24 : decode cX10_removeRule 24 = .ok (.iload_n 1, 1) := by decide +kernel
theorem dX10_removeRule_25 : decode cX10_removeRule 25 = .ok (.aload_n 0, 1) := by decide +kernel
theorem dX10_removeRule_26 : decode cX10_removeRule 26 = .ok (.getfield 10, 3) := by decide +kernel
theorem dX10_removeRule_29 : decode cX10_removeRule 29 = .ok (.getfield 126, 3) := by decide +kernel
theorem dX10_removeRule_32 : decode cX10_removeRule 32 = .ok (.iconst 1, 1) := by decide +kernel
theorem dX10_removeRule_33 : decode cX10_removeRule 33 = .ok (.isub, 1) := by decide +kernel
theorem dX10_removeRule_34 : decode cX10_removeRule 34 = .ok (.invokevirtual 140, 3) := by decide +kernel
theorem dX10_removeRule_37 : decode cX10_removeRule 37 = .ok (.aload_n 0, 1) := by decide +kernel
theorem dX10_removeRule_38 : decode cX10_removeRule 38 = .ok (.getfield 10, 3) := by decide +kernel
theorem dX10_removeRule_41 : decode cX10_removeRule 41 = .ok (.dup, 1) := by decide +kernel
theorem dX10_removeRule_42 : decode cX10_removeRule 42 = .ok (.getfield 126, 3) := by decide +kernel
theorem dX10_removeRule_45 : decode cX10_removeRule 45 = .ok (.iconst 1, 1) := by decide +kernel
theorem dX10_removeRule_46 : decode cX10_removeRule 46 = .ok (.isub, 1) := by decide +kernel
theorem dX10_removeRule_47 : decode cX10_removeRule 47 = .ok (.putfield 126, 3) := by decide +kernel
theorem dX10_removeRule_50 : decode cX10_removeRule 50 = .ok (.aload_n 0, 1) := by decide +kernel
theorem dX10_removeRule_51 : decode cX10_removeRule 51 = .ok (.getfield 10, 3) := by decide +kernel
theorem dX10_removeRule_54 : decode cX10_removeRule 54 = .ok (.getfield 126, 3) := by decide +kernel
theorem dX10_removeRule_57 : decode cX10_removeRule 57 = .ok (.ireturn, 1) := by decide +kernel
theorem dX10_moveRule_0 : decode cX10_moveRule 0 = .ok (.aload_n 0, 1) := by decide +kernel
theorem dX10_moveRule_1 : decode cX10_moveRule 1 = .ok (.getfield 10, 3) := by decide +kernel
theorem dX10_moveRule_4 : decode cX10_moveRule 4 = .ok (.iload_n 1, 1) := by decide +kernel
theorem dX10_moveRule_5 : decode cX10_moveRule 5 = .ok (.invokevirtual 137, 3) := by decide +kernel
theorem dX10_moveRule_8 : decode cX10_moveRule 8 = .ok (.ifCond .ne 5, 3) := by decide +kernel
theorem dX10_moveRule_11 : decode cX10_moveRule 11 = .ok (.iconst (-1), 1) := by decide +kernel
theorem dX10_moveRule_12 : decode cX10_moveRule 12 = .ok (.ireturn, 1) := by decide +kernel
theorem dX10_moveRule_13 : decode cX10_moveRule 13 = .ok (.aload_n 0, 1) := by decide +kernel
theorem dX10_moveRule_14 : decode cX10_moveRule 14 = .ok (.getfield 10, 3) := by decide +kernel
theorem dX10_moveRule_17 : decode cX10_moveRule 17 = .ok (.iload_n 2, 1) := by decide +kernel
theorem dX10_moveRule_18 : decode cX10_moveRule 18 = .ok (.invokevirtual 137, 3) := by decide +kernel
theorem dX10_moveRule_21 : decode cX10_moveRule 21 = .ok (.ifCond .ne 6, 3) := by decide +kernel
theorem dX10_moveRule_24 : decode cX10_moveRule 24 = .ok (.bipush (-2), 2) := by decide +kernel
theorem dX10_moveRule_26 : decode cX10_moveRule 26 = .ok (.ireturn, 1) := by decide +kernel
theorem dX10_moveRule_27 : decode cX10_moveRule 27 = .ok (.aload_n 0, 1) := by decide +kernel
theorem dX10_moveRule_28 : decode cX10_moveRule 28 = .ok (.getfield 28, 3) := by decide +kernel
theorem dX10_moveRule_31 : decode cX10_moveRule 31 = .ok (.invokevirtual 66, 3) := by decide +kernel
theorem dX10_moveRule_34 : decode cX10_moveRule 34 = .ok (.aload_n 0, 1) := by decide +kernel
theorem dX10_moveRule_35 : decode cX10_moveRule 35 = .ok (.getfield 10, 3) := by decide +kernel
theorem dX10_moveRule_38 : decode cX10_moveRule 38 = .ok (.iload_n 1, 1) := by decide +kernel
theorem dX10_moveRule_39 : decode cX10_moveRule 39 = .ok (.iload_n 2, 1) := by decide +kernel
theorem dX10_moveRule_40 : decode cX10_moveRule 40 = .ok (.invokevirtual 140, 3) := by decide +kernel
theorem dX10_moveRule_43 : decode cX10_moveRule 43 = .ok (.iload_n 1, 1) := by decide +kernel
theorem dX10_moveRule_44 : decode cX10_moveRule 44 = .ok (.iload_n 2, 1) := by decide +kernel
theorem dX10_moveRule_45 : decode cX10_moveRule 45 = .ok (.isub, 1) := by decide +kernel
theorem dX10_moveRule_46 : decode cX10_moveRule 46 = .ok (.invokestatic 144, 3) := by decide +kernel
theorem dX10_moveRule_49 : decode cX10_moveRule 49 = .ok (.ireturn, 1) := by decide +kernel
theorem dX10_match_0 : decode cX10_match 0 = .ok (.aload_n 0, 1) := by decide +kernel
theorem dX10_match_1 : decode cX10_match 1 = .ok (.iload_n 1, 1) := by decide +kernel
theorem dX10_match_2 : decode cX10_match 2 = .ok (.iconst 0, 1) := by decide +kernel
theorem dX10_match_3 : decode cX10_match 3 = .ok (.invokevirtual 150, 3) := by decide +kernel
theorem dX10_match_6 : decode cX10_match 6 = .ok (.istore_n 2, 1) := by decide +kernel
theorem dX10_match_7 : decode cX10_match 7 = .ok (.iload_n 2, 1) := by decide +kernel
theorem dX10_match_8 : decode cX10_match 8 = .ok (.ifCond .eq 7, 3) := by decide +kernel
theorem dX10_match_11 : decode cX10_match 11 = .ok (.iload_n 2, 1) := by decide +kernel
theorem dX10_match_12 : decode cX10_match 12 = .ok (.goto 15, 3) := by decide +kernel
theorem dX10_match_15 : decode cX10_match 15 = .ok (.aload_n 0, 1) := by decide +kernel
theorem dX10_match_16 : decode cX10_match 16 = .ok (.getfield 10, 3) := by decide +kernel
theorem dX10_match_19 : decode cX10_match 19 = .ok (.aload_n 0, 1) := by decide +kernel
theorem dX10_match_20 : decode cX10_match 20 = .ok (.getfield 35, 3) := by decide +kernel
theorem dX10_match_23 : decode cX10_match 23 = .ok (.iload_n 1, 1) := by decide +kernel
theorem dX10_match_24 : decode cX10_match 24 = .ok (.invokevirtual 154, 3) := by decide +kernel
theorem dX10_match_27 : decode cX10_match 27 = .ok (.ireturn, 1) := by decide +kernel
theorem dX10_request_0 : decode cX10_request 0 = .ok (.aload_n 0, 1) := by decide +kernel
theorem dX10_request_1 : decode cX10_request 1 = .ok (.iload_n 1, 1) := by decide +kernel
theorem dX10_request_2 : decode cX10_request 2 = .ok (.iload_n 2, 1) := by decide +kernel
theorem dX10_request_3 : decode cX10_request 3 = .ok (.invokevirtual 150, 3) := by decide +kernel
theorem dX10_request_6 : decode cX10_request 6 = .ok (.istore_n 3, 1) := by decide +kernel
theorem dX10_request_7 : decode cX10_request 7 = .ok (.iload_n 3, 1) := by decide +kernel
theorem dX10_request_8 : decode cX10_request 8 = .ok (.ifCond .eq 7, 3) := by decide +kernel
theorem dX10_request_11 : decode cX10_request 11 = .ok (.iconst (-1), 1) := by decide +kernel
theorem dX10_request_12 : decode cX10_request 12 = .ok (.goto 15, 3) := by decide +kernel
theorem dX10_request_15 : decode cX10_request 15 = .ok (.aload_n 0, 1) := by decide +kernel
theorem dX10_request_16 : decode cX10_request 16 = .ok (.getfield 10, 3) := by decide +kernel
theorem dX10_request_19 : decode cX10_request 19 = .ok (.aload_n 0, 1) := by decide +kernel
theorem dX10_request_20 : decode cX10_request 20 = .ok (.getfield 35, 3) := by decide +kernel
theorem dX10_request_23 : decode cX10_request 23 = .ok (.iload_n 1, 1) := by decide +kernel
theorem dX10_request_24 : decode cX10_request 24 = .ok (.invokevirtual 154, 3) := by decide +kernel
theorem dX10_request_27 : decode cX10_request 27 = .ok (.istore 4, 2) := by decide +kernel
theorem dX10_request_29 : decode cX10_request 29 = .ok (.aload_n 0, 1) := by decide +kernel
theorem dX10_request_30 : decode cX10_request 30 = .ok (.getfield 35, 3) := by decide +kernel
theorem dX10_request_33 : decode cX10_request 33 = .ok (.invokevirtual 123, 3) := by decide +kernel
theorem dX10_request_36 : decode cX10_request 36 = .ok (.iload_n 3, 1) := by decide +kernel
theorem dX10_request_37 : decode cX10_request 37 = .ok (.ifCond .eq 5, 3) := by decide +kernel
theorem dX10_request_40 : decode cX10_request 40 = .ok (.iload_n 3, 1) := by decide +kernel
theorem dX10_request_41 : decode cX10_request 41 = .ok (.ireturn, 1) := by decide +kernel
theorem dX10_request_42 : decode cX10_request 42 = .ok (.aload_n 0, 1) := by decide +kernel
theorem dX10_request_43 : decode cX10_request 43 = .ok (.getfield 10, 3) := by decide +kernel
theorem dX10_request_46 : decode cX10_request 46 = .ok (.iload 4, 2) := by decide +kernel
theorem dX10_request_48 : decode cX10_request 48 = .ok (.iload_n 1, 1) := by decide +kernel
theorem dX10_request_49 : decode cX10_request 49 = .ok (.iload_n 2, 1) := by decide +kernel
theorem dX10_request_50 : decode cX10_request 50 = .ok (.invokevirtual 158, 3) := by decide +kernel
theorem dX10_request_53 : decode cX10_request 53 = .ok (.istore 5, 2) := by decide +kernel
theorem dX10_request_55 : decode cX10_request 55 = .ok (.aload_n 0, 1) := by decide +kernel
theorem dX10_request_56 : decode cX10_request 56 = .ok (.getfield 28, 3) := by decide +kernel
theorem dX10_request_59 : decode cX10_request 59 = .ok (.iload 4, 2) := by decide +kernel
theorem dX10_request_61 : decode cX10_request 61 = .ok (.iload_n 1, 1) := by decide +kernel
theorem dX10_request_62 : decode cX10_request 62 = .ok (.iload_n 2, 1) := by decide +kernel
theorem dX10_request_63 : decode cX10_request 63 = .ok (.iload 5, 2) := by decide +kernel
theorem dX10_request_65 : decode cX10_request 65 = .ok (.invokevirtual 161, 3) := by decide +kernel
theorem dX10_request_68 : decode cX10_request 68 = .ok (.iload 5, 2) := by decide +kernel
theorem dX10_request_70 : decode cX10_request 70 = .ok (.ireturn, 1) := by decide +kernel
theorem dX10_foresee_0 : decode cX10_foresee 0 = .ok (.aload_n 0, 1) := by decide +kernel
theorem dX10_foresee_1 : decode cX10_foresee 1 = .ok (.iload_n 1, 1) := by decide +kernel
theorem dX10_foresee_2 : decode cX10_foresee 2 = .ok (.iload_n 2, 1) := by decide +kernel
theorem dX10_foresee_3 : decode cX10_foresee 3 = .ok (.invokevirtual 150, 3) := by decide +kernel
theorem dX10_foresee_6 : decode cX10_foresee 6 = .ok (.istore_n 3, 1) := by decide +kernel
theorem dX10_foresee_7 : decode cX10_foresee 7 = .ok (.iload_n 3, 1) := by decide +kernel
theorem dX10_foresee_8 : decode cX10_foresee 8 = .ok (.ifCond .eq 5, 3) := by decide +kernel
theorem dX10_foresee_11 : decode cX10_foresee 11 = .ok (.iload_n 3, 1) := by decide +kernel
theorem dX10_foresee_12 : decode cX10_foresee 12 = .ok (.ireturn, 1) := by decide +kernel
theorem dX10_foresee_13 : decode cX10_foresee 13 = .ok (.aload_n 0, 1) := by decide +kernel
theorem dX10_foresee_14 : decode cX10_foresee 14 = .ok (.getfield 22, 3) := by decide +kernel
theorem dX10_foresee_17 : decode cX10_foresee 17 = .ok (.aload_n 0, 1) := by decide +kernel
theorem dX10_foresee_18 : decode cX10_foresee 18 = .ok (.getfield 10, 3) := by decide +kernel
theorem dX10_foresee_21 : decode cX10_foresee 21 = .ok (.invokevirtual 165, 3) := by decide +kernel
theorem dX10_foresee_24 : decode cX10_foresee 24 = .ok (.aload_n 0, 1) := by decide +kernel
theorem dX10_foresee_25 : decode cX10_foresee 25 = .ok (.getfield 22, 3) := by decide +kernel
theorem dX10_foresee_28 : decode cX10_foresee 28 = .ok (.aload_n 0, 1) := by decide +kernel
theorem dX10_foresee_29 : decode cX10_foresee 29 = .ok (.getfield 10, 3) := by decide +kernel
theorem dX10_foresee_32 : decode cX10_foresee 32 = .ok (.aload_n 0, 1) := by decide +kernel
theorem dX10_foresee_33 : decode cX10_foresee 33 = .ok (.getfield 35, 3) := by decide +kernel
theorem dX10_foresee_36 : decode cX10_foresee 36 = .ok (.iload_n 1, 1) := by decide +kernel
theorem dX10_foresee_37 : decode cX10_foresee 37 = .ok (.invokevirtual 154, 3) := by decide +kernel
theorem dX10_foresee_40 : decode cX10_foresee 40 = .ok (.iload_n 1, 1) := by decide +kernel
theorem dX10_foresee_41 : decode cX10_foresee 41 = .ok (.iload_n 2, 1) := by decide +kernel
theorem dX10_foresee_42 : decode cX10_foresee 42 = .ok (.invokevirtual 158, 3) := by decide +kernel
theorem dX10_foresee_45 : decode cX10_foresee 45 = .ok (.ireturn, 1) := by decide +kernel
theorem dX10_tick_0 : decode cX10_tick 0 = .ok (.iload_n 1, 1) := by decide +kernel
theorem dX10_tick_1 : decode cX10_tick 1 = .ok (.iconst 1, 1) := by decide +kernel
theorem dX10_tick_2 : decode cX10_tick 2 = .ok (.bipush 50, 2) := by decide +kernel
theorem dX10_tick_4 : decode cX10_tick 4 = .ok (.invokestatic 58, 3) := by decide +kernel
theorem dX10_tick_7 : decode cX10_tick 7 = .ok (.ifCond .ne 6, 3) := by decide +kernel
theorem dX10_tick_10 : decode cX10_tick 10 = .ok (.bipush (-2), 2) := by decide +kernel
theorem dX10_tick_12 : decode cX10_tick 12 = .ok (.ireturn, 1) := by decide +kernel
theorem dX10_tick_13 : decode cX10_tick 13 = .ok (.iconst 0, 1) := by decide +kernel
theorem dX10_tick_14 : decode cX10_tick 14 = .ok (.istore_n 2, 1) := by decide +kernel
theorem dX10_tick_15 : decode cX10_tick 15 = .ok (.iload_n 2, 1) := by decide +kernel
theorem dX10_tick_16 : decode cX10_tick 16 = .ok (.iload_n 1, 1) := by decide +kernel
theorem dX10_tick_17 : decode cX10_tick 17 = .ok (.if_icmp .ge 16, 3) := by decide +kernel
theorem dX10_tick_20 : decode cX10_tick 20 = .ok (.aload_n 0, 1) := by decide +kernel
theorem dX10_tick_21 : decode cX10_tick 21 = .ok (.getfield 10, 3) := by decide +kernel
theorem dX10_tick_24 : decode cX10_tick 24 = .ok (.invokevirtual 169, 3) := by decide +kernel
theorem dX10_tick_27 : decode cX10_tick 27 = .ok (.iinc 2 1, 3) := by decide +kernel
theorem dX10_tick_30 : decode cX10_tick 30 = .ok (.goto (-15), 3) := by decide +kernel
theorem dX10_tick_33 : decode cX10_tick 33 = .ok (.aload_n 0, 1) := by decide +kernel
theorem dX10_tick_34 : decode cX10_tick 34 = .ok (.getfield 28, 3) := by decide +kernel
theorem dX10_tick_37 : decode cX10_tick 37 = .ok (.iload_n 1, 1) := by decide +kernel
theorem dX10_tick_38 : decode cX10_tick 38 = .ok (.invokevirtual 172, 3) := by decide +kernel
theorem dX10_tick_41 : decode cX10_tick 41 = .ok (.aload_n 0, 1) := by decide +kernel
theorem dX10_tick_42 : decode cX10_tick 42 = .ok (.getfield 10, 3) := by decide +kernel
theorem dX10_tick_45 : decode cX10_tick 45 = .ok (.getfield 175, 3) := by decide +kernel
theorem dX10_tick_48 : decode cX10_tick 48 = .ok (.ireturn, 1) := by decide +kernel
theorem dX10_backend_0 : decode cX10_backend 0 = .ok (.aload_n 0, 1) := by decide +kernel
theorem dX10_backend_1 : decode cX10_backend 1 = .ok (.getfield 10, 3) := by decide +kernel
theorem dX10_backend_4 : decode cX10_backend 4 = .ok (.iload_n 1, 1) := by decide +kernel
theorem dX10_backend_5 : decode cX10_backend 5 = .ok (.invokevirtual 73, 3) := by decide +kernel
theorem dX10_backend_8 : decode cX10_backend 8 = .ok (.ifCond .eq 19, 3) := by decide +kernel
theorem dX10_backend_11 : decode cX10_backend 11 = .ok (.aload_n 0, 1) := by decide +kernel
theorem dX10_backend_12 : decode cX10_backend 12 = .ok (.getfield 10, 3) := by decide +kernel
theorem dX10_backend_15 : decode cX10_backend 15 = .ok (.getfield 76, 3) := by decide +kernel
theorem dX10_backend_18 : decode cX10_backend 18 = .ok (.iload_n 1, 1) := by decide +kernel
theorem dX10_backend_19 : decode cX10_backend 19 = .ok (.aaload, 1) := by decide +kernel
theorem dX10_backend_20 : decode cX10_backend 20 = .ok (.iload_n 2, 1) := by decide +kernel
theorem dX10_backend_21 : decode cX10_backend 21 = .ok (.invokevirtual 178, 3) := by decide +kernel
theorem dX10_backend_24 : decode cX10_backend 24 = .ok (.goto 4, 3) := by decide +kernel
theorem dX10_backend_27 : decode cX10_backend 27 = .ok (.iconst (-1), 1) := by decide +kernel
theorem dX10_backend_28 : decode cX10_backend 28 = .ok (.ireturn, 1) := by decide +kernel
theorem dX10_service_0 : decode cX10_service 0 = .ok (.iload_n 1, 1) := by decide +kernel
theorem dX10_service_1 : decode cX10_service 1 = .ok (.invokestatic 51, 3) := by decide +kernel
theorem dX10_service_4 : decode cX10_service 4 = .ok (.ifCond .eq 15, 3) := by decide +kernel
theorem dX10_service_7 : decode cX10_service 7 = .ok (.aload_n 0, 1) := by decide +kernel
theorem dX10_service_8 : decode cX10_service 8 = .ok (.getfield 10, 3) := by decide +kernel
theorem dX10_service_11 : decode cX10_service 11 = .ok (.iload_n 1, 1) := by decide +kernel
theorem dX10_service_12 : decode cX10_service 12 = .ok (.iload_n 2, 1) := by decide +kernel
theorem dX10_service_13 : decode cX10_service 13 = .ok (.invokevirtual 181, 3) := by decide +kernel
theorem dX10_service_16 : decode cX10_service 16 = .ok (.goto 5, 3) := by decide +kernel
theorem dX10_service_19 : decode cX10_service 19 = .ok (.bipush (-2), 2) := by decide +kernel
theorem dX10_service_21 : decode cX10_service 21 = .ok (.ireturn, 1) := by decide +kernel
theorem dX10_remembered_0 : decode cX10_remembered 0 = .ok (.iload_n 1, 1) := by decide +kernel
theorem dX10_remembered_1 : decode cX10_remembered 1 = .ok (.invokestatic 51, 3) := by decide +kernel
theorem dX10_remembered_4 : decode cX10_remembered 4 = .ok (.ifCond .eq 10, 3) := by decide +kernel
theorem dX10_remembered_7 : decode cX10_remembered 7 = .ok (.iload_n 2, 1) := by decide +kernel
theorem dX10_remembered_8 : decode cX10_remembered 8 = .ok (.invokestatic 184, 3) := by decide +kernel
theorem dX10_remembered_11 : decode cX10_remembered 11 = .ok (.ifCond .ne 6, 3) := by decide +kernel
theorem dX10_remembered_14 : decode cX10_remembered 14 = .ok (.bipush (-2), 2) := by decide +kernel
theorem dX10_remembered_16 : decode cX10_remembered 16 = .ok (.ireturn, 1) := by decide +kernel
theorem dX10_remembered_17 : decode cX10_remembered 17 = .ok (.aload_n 0, 1) := by decide +kernel
theorem dX10_remembered_18 : decode cX10_remembered 18 = .ok (.getfield 10, 3) := by decide +kernel
theorem dX10_remembered_21 : decode cX10_remembered 21 = .ok (.getfield 88, 3) := by decide +kernel
theorem dX10_remembered_24 : decode cX10_remembered 24 = .ok (.iload_n 1, 1) := by decide +kernel
theorem dX10_remembered_25 : decode cX10_remembered 25 = .ok (.aaload, 1) := by decide +kernel
theorem dX10_remembered_26 : decode cX10_remembered 26 = .ok (.getfield 187, 3) := by decide +kernel
theorem dX10_remembered_29 : decode cX10_remembered 29 = .ok (.iload_n 2, 1) := by decide +kernel
theorem dX10_remembered_30 : decode cX10_remembered 30 = .ok (.iaload, 1) := by decide +kernel
theorem dX10_remembered_31 : decode cX10_remembered 31 = .ok (.ireturn, 1) := by decide +kernel
theorem dX10_target_0 : decode cX10_target 0 = .ok (.aload_n 0, 1) := by decide +kernel
theorem dX10_target_1 : decode cX10_target 1 = .ok (.getfield 10, 3) := by decide +kernel
theorem dX10_target_4 : decode cX10_target 4 = .ok (.iload_n 1, 1) := by decide +kernel
theorem dX10_target_5 : decode cX10_target 5 = .ok (.invokevirtual 137, 3) := by decide +kernel
theorem dX10_target_8 : decode cX10_target 8 = .ok (.ifCond .eq 25, 3) := by decide +kernel
theorem dX10_target_11 : decode cX10_target 11 = .ok (.iload_n 2, 1) := by decide +kernel
theorem dX10_target_12 : decode cX10_target 12 = .ok (.iconst 0, 1) := by decide +kernel
theorem dX10_target_13 : decode cX10_target 13 = .ok (.aload_n 0, 1) := by decide +kernel
theorem dX10_target_14 : decode cX10_target 14 = .ok (.getfield 10, 3) := by decide +kernel
theorem dX10_target_17 : decode cX10_target 17 = .ok (.getfield 191, 3) := by decide +kernel
theorem dX10_target_20 : decode cX10_target 20 = .ok (.iload_n 1, 1) := by decide +kernel
theorem dX10_target_21 : decode cX10_target 21 = .ok (.aaload, 1) := by decide +kernel
theorem dX10_target_22 : decode cX10_target 22 = .ok (.getfield 195, 3) := by decide +kernel
theorem dX10_target_25 : decode cX10_target 25 = .ok (.iconst 1, 1) := by decide +kernel
theorem dX10_target_26 : decode cX10_target 26 = .ok (.isub, 1) := by decide +kernel
theorem dX10_target_27 : decode cX10_target 27 = .ok (.invokestatic 58, 3) := by decide +kernel
theorem dX10_target_30 : decode cX10_target 30 = .ok (.ifCond .ne 5, 3) := by decide +kernel
theorem dX10_target_33 : decode cX10_target 33 = .ok (.iconst (-1), 1) := by decide +kernel
theorem dX10_target_34 : decode cX10_target 34 = .ok (.ireturn, 1) := by decide +kernel
theorem dX10_target_35 : decode cX10_target 35 = .ok (.aload_n 0, 1) := by decide +kernel
theorem dX10_target_36 : decode cX10_target 36 = .ok (.getfield 10, 3) := by decide +kernel
theorem dX10_target_39 : decode cX10_target 39 = .ok (.getfield 191, 3) := by decide +kernel
theorem dX10_target_42 : decode cX10_target 42 = .ok (.iload_n 1, 1) := by decide +kernel
theorem dX10_target_43 : decode cX10_target 43 = .ok (.aaload, 1) := by decide +kernel
theorem dX10_target_44 : decode cX10_target 44 = .ok (.getfield 200, 3) := by decide +kernel
theorem dX10_target_47 : decode cX10_target 47 = .ok (.iload_n 2, 1) := by decide +kernel
theorem dX10_target_48 : decode cX10_target 48 = .ok (.aaload, 1) := by decide +kernel
theorem dX10_target_49 : decode cX10_target 49 = .ok (.iload_n 3, 1) := by decide +kernel
theorem dX10_target_50 : decode cX10_target 50 = .ok (.invokevirtual 204, 3) := by decide +kernel
theorem dX10_target_53 : decode cX10_target 53 = .ok (.ireturn, 1) := by decide +kernel
theorem dX10_trace_0 : decode cX10_trace 0 = .ok (.iload_n 1, 1) := by decide +kernel
theorem dX10_trace_1 : decode cX10_trace 1 = .ok (.iconst 0, 1) := by decide +kernel
theorem dX10_trace_2 : decode cX10_trace 2 = .ok (.aload_n 0, 1) := by decide +kernel
theorem dX10_trace_3 : decode cX10_trace 3 = .ok (.getfield 10, 3) := by decide +kernel
theorem dX10_trace_6 : decode cX10_trace 6 = .ok (.getfield 207, 3) := by decide +kernel
theorem dX10_trace_9 : decode cX10_trace 9 = .ok (.getfield 211, 3) := by decide +kernel
theorem dX10_trace_12 : decode cX10_trace 12 = .ok (.iconst 1, 1) := by decide +kernel
theorem dX10_trace_13 : decode cX10_trace 13 = .ok (.isub, 1) := by decide +kernel
theorem dX10_trace_14 : decode cX10_trace 14 = .ok (.invokestatic 58, 3) := by decide +kernel
theorem dX10_trace_17 : decode cX10_trace 17 = .ok (.ifCond .ne 5, 3) := by decide +kernel
theorem dX10_trace_20 : decode cX10_trace 20 = .ok (.iconst (-1), 1) := by decide +kernel
theorem dX10_trace_21 : decode cX10_trace 21 = .ok (.ireturn, 1) := by decide +kernel
theorem dX10_trace_22 : decode cX10_trace 22 = .ok (.iload_n 2, 1) := by decide +kernel
theorem dX10_trace_23 : decode cX10_trace 23 = .ok (.iconst 0, 1) := by decide +kernel
theorem dX10_trace_24 : decode cX10_trace 24 = .ok (.iconst 3, 1) := by decide +kernel
theorem dX10_trace_25 : decode cX10_trace 25 = .ok (.invokestatic 58, 3) := by decide +kernel
theorem dX10_trace_28 : decode cX10_trace 28 = .ok (.ifCond .eq 20, 3) := by decide +kernel
theorem dX10_trace_31 : decode cX10_trace 31 = .ok (.aload_n 0, 1) := by decide +kernel
theorem dX10_trace_32 : decode cX10_trace 32 = .ok (.getfield 10, 3) := by decide +kernel
theorem dX10_trace_35 : decode cX10_trace 35 = .ok (.getfield 207, 3) := by decide +kernel
theorem dX10_trace_38 : decode cX10_trace 38 = .ok (.getfield 214, 3) := by decide +kernel
theorem dX10_trace_41 : decode cX10_trace 41 = .ok (.iload_n 1, 1) := by decide +kernel
theorem dX10_trace_42 : decode cX10_trace 42 = .ok (.aaload, 1) := by decide +kernel
theorem dX10_trace_43 : decode cX10_trace 43 = .ok (.iload_n 2, 1) := by decide +kernel
theorem dX10_trace_44 : decode cX10_trace 44 = .ok (.iaload, 1) := by decide +kernel
theorem dX10_trace_45 : decode cX10_trace 45 = .ok (.goto 5, 3) := by decide +kernel
theorem dX10_trace_48 : decode cX10_trace 48 = .ok (.bipush (-2), 2) := by decide +kernel
theorem dX10_trace_50 : decode cX10_trace 50 = .ok (.ireturn, 1) := by decide +kernel
theorem dX10_count_0 : decode cX10_count 0 = .ok (.iload_n 1, 1) := by decide +kernel
theorem dX10_count_1 : decode cX10_count 1 = .ok (.tableswitch 54 11 13 #[27, 35, 46], 27) := by decide +kernel
theorem dX10_count_28 : decode cX10_count 28 = .ok (.aload_n 0, 1) := by decide +kernel
theorem dX10_count_29 : decode cX10_count 29 = .ok (.getfield 28, 3) := by decide +kernel
theorem dX10_count_32 : decode cX10_count 32 = .ok (.getfield 218, 3) := by decide +kernel
theorem dX10_count_35 : decode cX10_count 35 = .ok (.ireturn, 1) := by decide +kernel
theorem dX10_count_36 : decode cX10_count 36 = .ok (.aload_n 0, 1) := by decide +kernel
theorem dX10_count_37 : decode cX10_count 37 = .ok (.getfield 10, 3) := by decide +kernel
theorem dX10_count_40 : decode cX10_count 40 = .ok (.getfield 207, 3) := by decide +kernel
theorem dX10_count_43 : decode cX10_count 43 = .ok (.getfield 211, 3) := by decide +kernel
theorem dX10_count_46 : decode cX10_count 46 = .ok (.ireturn, 1) := by decide +kernel
theorem dX10_count_47 : decode cX10_count 47 = .ok (.aload_n 0, 1) := by decide +kernel
theorem dX10_count_48 : decode cX10_count 48 = .ok (.getfield 35, 3) := by decide +kernel
theorem dX10_count_51 : decode cX10_count 51 = .ok (.getfield 112, 3) := by decide +kernel
theorem dX10_count_54 : decode cX10_count 54 = .ok (.ireturn, 1) := by decide +kernel
theorem dX10_count_55 : decode cX10_count 55 = .ok (.aload_n 0, 1) := by decide +kernel
theorem dX10_count_56 : decode cX10_count 56 = .ok (.getfield 10, 3) := by decide +kernel
theorem dX10_count_59 : decode cX10_count 59 = .ok (.iload_n 1, 1) := by decide +kernel
theorem dX10_count_60 : decode cX10_count 60 = .ok (.invokevirtual 219, 3) := by decide +kernel
theorem dX10_count_63 : decode cX10_count 63 = .ok (.ireturn, 1) := by decide +kernel
theorem dX10_print_0 : decode cX10_print 0 = .ok (.aload_n 0, 1) := by decide +kernel
theorem dX10_print_1 : decode cX10_print 1 = .ok (.getfield 10, 3) := by decide +kernel
theorem dX10_print_4 : decode cX10_print 4 = .ok (.iload_n 1, 1) := by decide +kernel
theorem dX10_print_5 : decode cX10_print 5 = .ok (.invokevirtual 137, 3) := by decide +kernel
theorem dX10_print_8 : decode cX10_print 8 = .ok (.ifCond .ne 5, 3) := by decide +kernel
theorem dX10_print_11 : decode cX10_print 11 = .ok (.iconst (-1), 1) := by decide +kernel
theorem dX10_print_12 : decode cX10_print 12 = .ok (.ireturn, 1) := by decide +kernel
theorem dX10_print_13 : decode cX10_print 13 = .ok (.aload_n 0, 1) := by decide +kernel
theorem dX10_print_14 : decode cX10_print 14 = .ok (.getfield 10, 3) := by decide +kernel
theorem dX10_print_17 : decode cX10_print 17 = .ok (.getfield 191, 3) := by decide +kernel
theorem dX10_print_20 : decode cX10_print 20 = .ok (.iload_n 1, 1) := by decide +kernel
theorem dX10_print_21 : decode cX10_print 21 = .ok (.aaload, 1) := by decide +kernel
theorem dX10_print_22 : decode cX10_print 22 = .ok (.aload_n 0, 1) := by decide +kernel
theorem dX10_print_23 : decode cX10_print 23 = .ok (.getfield 39, 3) := by decide +kernel
theorem dX10_print_26 : decode cX10_print 26 = .ok (.invokevirtual 220, 3) := by decide +kernel
theorem dX10_print_29 : decode cX10_print 29 = .ok (.aload_n 0, 1) := by decide +kernel
theorem dX10_print_30 : decode cX10_print 30 = .ok (.getfield 39, 3) := by decide +kernel
theorem dX10_print_33 : decode cX10_print 33 = .ok (.getfield 112, 3) := by decide +kernel
theorem dX10_print_36 : decode cX10_print 36 = .ok (.ireturn, 1) := by decide +kernel
theorem dX10_printed_0 : decode cX10_printed 0 = .ok (.aload_n 0, 1) := by decide +kernel
theorem dX10_printed_1 : decode cX10_printed 1 = .ok (.getfield 39, 3) := by decide +kernel
theorem dX10_printed_4 : decode cX10_printed 4 = .ok (.iload_n 1, 1) := by decide +kernel
theorem dX10_printed_5 : decode cX10_printed 5 = .ok (.invokevirtual 223, 3) := by decide +kernel
theorem dX10_printed_8 : decode cX10_printed 8 = .ok (.ireturn, 1) := by decide +kernel
theorem dX10_mark_0 : decode cX10_mark 0 = .ok (.aload_n 0, 1) := by decide +kernel
theorem dX10_mark_1 : decode cX10_mark 1 = .ok (.getfield 16, 3) := by decide +kernel
theorem dX10_mark_4 : decode cX10_mark 4 = .ok (.aload_n 0, 1) := by decide +kernel
theorem dX10_mark_5 : decode cX10_mark 5 = .ok (.getfield 10, 3) := by decide +kernel
theorem dX10_mark_8 : decode cX10_mark 8 = .ok (.invokevirtual 165, 3) := by decide +kernel
theorem dX10_mark_11 : decode cX10_mark 11 = .ok (.aload_n 0, 1) := by decide +kernel
theorem dX10_mark_12 : decode cX10_mark 12 = .ok (.getfield 28, 3) := by decide +kernel
theorem dX10_mark_15 : decode cX10_mark 15 = .ok (.invokevirtual 226, 3) := by decide +kernel
theorem dX10_mark_18 : decode cX10_mark 18 = .ok (.aload_n 0, 1) := by decide +kernel
theorem dX10_mark_19 : decode cX10_mark 19 = .ok (.getfield 10, 3) := by decide +kernel
theorem dX10_mark_22 : decode cX10_mark 22 = .ok (.getfield 62, 3) := by decide +kernel
theorem dX10_mark_25 : decode cX10_mark 25 = .ok (.ireturn, 1) := by decide +kernel
theorem dX10_play_0 : decode cX10_play 0 = .ok (.aload_n 0, 1) := by decide +kernel
theorem dX10_play_1 : decode cX10_play 1 = .ok (.iload_n 1, 1) := by decide +kernel
theorem dX10_play_2 : decode cX10_play 2 = .ok (.invokevirtual 229, 3) := by decide +kernel
theorem dX10_play_5 : decode cX10_play 5 = .ok (.istore_n 2, 1) := by decide +kernel
theorem dX10_play_6 : decode cX10_play 6 = .ok (.iload_n 2, 1) := by decide +kernel
theorem dX10_play_7 : decode cX10_play 7 = .ok (.ifCond .eq 5, 3) := by decide +kernel
theorem dX10_play_10 : decode cX10_play 10 = .ok (.iload_n 2, 1) := by decide +kernel
theorem dX10_play_11 : decode cX10_play 11 = .ok (.ireturn, 1) := by decide +kernel
theorem dX10_play_12 : decode cX10_play 12 = .ok (.aload_n 0, 1) := by decide +kernel
theorem dX10_play_13 : decode cX10_play 13 = .ok (.iload_n 1, 1) := by decide +kernel
theorem dX10_play_14 : decode cX10_play 14 = .ok (.invokevirtual 232, 3) := by decide +kernel
theorem dX10_play_17 : decode cX10_play 17 = .ok (.aload_n 0, 1) := by decide +kernel
theorem dX10_play_18 : decode cX10_play 18 = .ok (.getfield 28, 3) := by decide +kernel
theorem dX10_play_21 : decode cX10_play 21 = .ok (.invokevirtual 235, 3) := by decide +kernel
theorem dX10_play_24 : decode cX10_play 24 = .ok (.ireturn, 1) := by decide +kernel
theorem dX10_answeredIf_0 : decode cX10_answeredIf 0 = .ok (.aload_n 0, 1) := by decide +kernel
theorem dX10_answeredIf_1 : decode cX10_answeredIf 1 = .ok (.iload_n 1, 1) := by decide +kernel
theorem dX10_answeredIf_2 : decode cX10_answeredIf 2 = .ok (.invokevirtual 229, 3) := by decide +kernel
theorem dX10_answeredIf_5 : decode cX10_answeredIf 5 = .ok (.istore_n 2, 1) := by decide +kernel
theorem dX10_answeredIf_6 : decode cX10_answeredIf 6 = .ok (.iload_n 2, 1) := by decide +kernel
theorem dX10_answeredIf_7 : decode cX10_answeredIf 7 = .ok (.ifCond .eq 5, 3) := by decide +kernel
theorem dX10_answeredIf_10 : decode cX10_answeredIf 10 = .ok (.iload_n 2, 1) := by decide +kernel
theorem dX10_answeredIf_11 : decode cX10_answeredIf 11 = .ok (.ireturn, 1) := by decide +kernel
theorem dX10_answeredIf_12 : decode cX10_answeredIf 12 = .ok (.aload_n 0, 1) := by decide +kernel
theorem dX10_answeredIf_13 : decode cX10_answeredIf 13 = .ok (.iload_n 1, 1) := by decide +kernel
theorem dX10_answeredIf_14 : decode cX10_answeredIf 14 = .ok (.invokevirtual 232, 3) := by decide +kernel
theorem dX10_answeredIf_17 : decode cX10_answeredIf 17 = .ok (.aload_n 0, 1) := by decide +kernel
theorem dX10_answeredIf_18 : decode cX10_answeredIf 18 = .ok (.getfield 28, 3) := by decide +kernel
theorem dX10_answeredIf_21 : decode cX10_answeredIf 21 = .ok (.invokevirtual 238, 3) := by decide +kernel
theorem dX10_answeredIf_24 : decode cX10_answeredIf 24 = .ok (.ireturn, 1) := by decide +kernel
theorem dX10_save_0 : decode cX10_save 0 = .ok (.aload_n 0, 1) := by decide +kernel
theorem dX10_save_1 : decode cX10_save 1 = .ok (.getfield 19, 3) := by decide +kernel
theorem dX10_save_4 : decode cX10_save 4 = .ok (.aload_n 0, 1) := by decide +kernel
theorem dX10_save_5 : decode cX10_save 5 = .ok (.getfield 10, 3) := by decide +kernel
theorem dX10_save_8 : decode cX10_save 8 = .ok (.invokevirtual 165, 3) := by decide +kernel
theorem dX10_save_11 : decode cX10_save 11 = .ok (.aload_n 0, 1) := by decide +kernel
theorem dX10_save_12 : decode cX10_save 12 = .ok (.iconst 1, 1) := by decide +kernel
theorem dX10_save_13 : decode cX10_save 13 = .ok (.putfield 241, 3) := by decide +kernel
theorem dX10_save_16 : decode cX10_save 16 = .ok (.aload_n 0, 1) := by decide +kernel
theorem dX10_save_17 : decode cX10_save 17 = .ok (.getfield 10, 3) := by decide +kernel
theorem dX10_save_20 : decode cX10_save 20 = .ok (.getfield 62, 3) := by decide +kernel
theorem dX10_save_23 : decode cX10_save 23 = .ok (.ireturn, 1) := by decide +kernel
theorem dX10_restore_0 : decode cX10_restore 0 = .ok (.aload_n 0, 1) := by decide +kernel
theorem dX10_restore_1 : decode cX10_restore 1 = .ok (.getfield 241, 3) := by decide +kernel
theorem dX10_restore_4 : decode cX10_restore 4 = .ok (.ifCond .ne 5, 3) := by decide +kernel
theorem dX10_restore_7 : decode cX10_restore 7 = .ok (.iconst (-1), 1) := by decide +kernel
theorem dX10_restore_8 : decode cX10_restore 8 = .ok (.ireturn, 1) := by decide +kernel
theorem dX10_restore_9 : decode cX10_restore 9 = .ok (.aload_n 0, 1) := by decide +kernel
theorem dX10_restore_10 : decode cX10_restore 10 = .ok (.getfield 28, 3) := by decide +kernel
theorem dX10_restore_13 : decode cX10_restore 13 = .ok (.invokevirtual 66, 3) := by decide +kernel
theorem dX10_restore_16 : decode cX10_restore 16 = .ok (.aload_n 0, 1) := by decide +kernel
theorem dX10_restore_17 : decode cX10_restore 17 = .ok (.getfield 10, 3) := by decide +kernel
theorem dX10_restore_20 : decode cX10_restore 20 = .ok (.aload_n 0, 1) := by decide +kernel
theorem dX10_restore_21 : decode cX10_restore 21 = .ok (.getfield 19, 3) := by decide +kernel
theorem dX10_restore_24 : decode cX10_restore 24 = .ok (.invokevirtual 165, 3) := by decide +kernel
theorem dX10_restore_27 : decode cX10_restore 27 = .ok (.aload_n 0, 1) := by decide +kernel
theorem dX10_restore_28 : decode cX10_restore 28 = .ok (.getfield 10, 3) := by decide +kernel
theorem dX10_restore_31 : decode cX10_restore 31 = .ok (.getfield 207, 3) := by decide +kernel
theorem dX10_restore_34 : decode cX10_restore 34 = .ok (.iconst 0, 1) := by decide +kernel
theorem dX10_restore_35 : decode cX10_restore 35 = .ok (.putfield 211, 3) := by decide +kernel
theorem dX10_restore_38 : decode cX10_restore 38 = .ok (.aload_n 0, 1) := by decide +kernel
theorem dX10_restore_39 : decode cX10_restore 39 = .ok (.getfield 10, 3) := by decide +kernel
theorem dX10_restore_42 : decode cX10_restore 42 = .ok (.getfield 62, 3) := by decide +kernel
theorem dX10_restore_45 : decode cX10_restore 45 = .ok (.ireturn, 1) := by decide +kernel
theorem dX10_requestError_0 : decode cX10_requestError 0 = .ok (.iload_n 1, 1) := by decide +kernel
theorem dX10_requestError_1 : decode cX10_requestError 1 = .ok (.invokestatic 184, 3) := by decide +kernel
theorem dX10_requestError_4 : decode cX10_requestError 4 = .ok (.ifCond .eq 10, 3) := by decide +kernel
theorem dX10_requestError_7 : decode cX10_requestError 7 = .ok (.iload_n 2, 1) := by decide +kernel
theorem dX10_requestError_8 : decode cX10_requestError 8 = .ok (.invokestatic 55, 3) := by decide +kernel
theorem dX10_requestError_11 : decode cX10_requestError 11 = .ok (.ifCond .ne 6, 3) := by decide +kernel
theorem dX10_requestError_14 : decode cX10_requestError 14 = .ok (.bipush (-2), 2) := by decide +kernel
theorem dX10_requestError_16 : decode cX10_requestError 16 = .ok (.ireturn, 1) := by decide +kernel
theorem dX10_requestError_17 : decode cX10_requestError 17 = .ok (.aload_n 0, 1) := by decide +kernel
theorem dX10_requestError_18 : decode cX10_requestError 18 = .ok (.getfield 35, 3) := by decide +kernel
theorem dX10_requestError_21 : decode cX10_requestError 21 = .ok (.invokevirtual 245, 3) := by decide +kernel
theorem dX10_requestError_24 : decode cX10_requestError 24 = .ok (.ifCond .eq 7, 3) := by decide +kernel
theorem dX10_requestError_27 : decode cX10_requestError 27 = .ok (.iconst 0, 1) := by decide +kernel
theorem dX10_requestError_28 : decode cX10_requestError 28 = .ok (.goto 5, 3) := by decide +kernel
theorem dX10_requestError_31 : decode cX10_requestError 31 = .ok (.bipush (-7), 2) := by decide +kernel
theorem dX10_requestError_33 : decode cX10_requestError 33 = .ok (.ireturn, 1) := by decide +kernel
theorem dX10_playError_0 : decode cX10_playError 0 = .ok (.iload_n 1, 1) := by decide +kernel
theorem dX10_playError_1 : decode cX10_playError 1 = .ok (.iconst 0, 1) := by decide +kernel
theorem dX10_playError_2 : decode cX10_playError 2 = .ok (.iconst 4, 1) := by decide +kernel
theorem dX10_playError_3 : decode cX10_playError 3 = .ok (.invokestatic 58, 3) := by decide +kernel
theorem dX10_playError_6 : decode cX10_playError 6 = .ok (.ifCond .ne 6, 3) := by decide +kernel
theorem dX10_playError_9 : decode cX10_playError 9 = .ok (.bipush (-2), 2) := by decide +kernel
theorem dX10_playError_11 : decode cX10_playError 11 = .ok (.ireturn, 1) := by decide +kernel
theorem dX10_playError_12 : decode cX10_playError 12 = .ok (.aload_n 0, 1) := by decide +kernel
theorem dX10_playError_13 : decode cX10_playError 13 = .ok (.getfield 28, 3) := by decide +kernel
theorem dX10_playError_16 : decode cX10_playError 16 = .ok (.getfield 249, 3) := by decide +kernel
theorem dX10_playError_19 : decode cX10_playError 19 = .ok (.ifCond .eq 7, 3) := by decide +kernel
theorem dX10_playError_22 : decode cX10_playError 22 = .ok (.iconst 0, 1) := by decide +kernel
theorem dX10_playError_23 : decode cX10_playError 23 = .ok (.goto 4, 3) := by decide +kernel
theorem dX10_playError_26 : decode cX10_playError 26 = .ok (.iconst (-1), 1) := by decide +kernel
theorem dX10_playError_27 : decode cX10_playError 27 = .ok (.ireturn, 1) := by decide +kernel
theorem dX10_playAgain_0 : decode cX10_playAgain 0 = .ok (.aload_n 0, 1) := by decide +kernel
theorem dX10_playAgain_1 : decode cX10_playAgain 1 = .ok (.getfield 22, 3) := by decide +kernel
theorem dX10_playAgain_4 : decode cX10_playAgain 4 = .ok (.aload_n 0, 1) := by decide +kernel
theorem dX10_playAgain_5 : decode cX10_playAgain 5 = .ok (.getfield 16, 3) := by decide +kernel
theorem dX10_playAgain_8 : decode cX10_playAgain 8 = .ok (.invokevirtual 165, 3) := by decide +kernel
theorem dX10_playAgain_11 : decode cX10_playAgain 11 = .ok (.aload_n 0, 1) := by decide +kernel
theorem dX10_playAgain_12 : decode cX10_playAgain 12 = .ok (.getfield 22, 3) := by decide +kernel
theorem dX10_playAgain_15 : decode cX10_playAgain 15 = .ok (.iload_n 1, 1) := by decide +kernel
theorem dX10_playAgain_16 : decode cX10_playAgain 16 = .ok (.invokevirtual 252, 3) := by decide +kernel
theorem dX10_playAgain_19 : decode cX10_playAgain 19 = .ok (.iconst 0, 1) := by decide +kernel
theorem dX10_playAgain_20 : decode cX10_playAgain 20 = .ok (.istore_n 2, 1) := by decide +kernel
theorem dX10_playAgain_21 : decode cX10_playAgain 21 = .ok (.iload_n 2, 1) := by decide +kernel
theorem dX10_playAgain_22 : decode cX10_playAgain 22 = .ok (.aload_n 0, 1) := by decide +kernel
theorem dX10_playAgain_23 : decode cX10_playAgain 23 = .ok (.getfield 28, 3) := by decide +kernel
theorem dX10_playAgain_26 : decode cX10_playAgain 26 = .ok (.getfield 218, 3) := by decide +kernel
theorem dX10_playAgain_29 : decode cX10_playAgain 29 = .ok (.if_icmp .ge 76, 3) := by decide +kernel
theorem dX10_playAgain_32 : decode cX10_playAgain 32 = .ok (.aload_n 0, 1) := by decide +kernel
theorem dX10_playAgain_33 : decode cX10_playAgain 33 = .ok (.getfield 28, 3) := by decide +kernel
theorem dX10_playAgain_36 : decode cX10_playAgain 36 = .ok (.getfield 255, 3) := by decide +kernel
theorem dX10_playAgain_39 : decode cX10_playAgain 39 = .ok (.iload_n 2, 1) := by decide +kernel
theorem dX10_playAgain_40 : decode cX10_playAgain 40 = .ok (.iaload, 1) := by decide +kernel
theorem dX10_playAgain_41 : decode cX10_playAgain 41 = .ok (.bipush (-2), 2) := by decide +kernel
theorem dX10_playAgain_43 : decode cX10_playAgain 43 = .ok (.if_icmp .ne 13, 3) := by decide +kernel
theorem dX10_playAgain_46 : decode cX10_playAgain 46 = .ok (.aload_n 0, 1) := by decide +kernel
theorem dX10_playAgain_47 : decode cX10_playAgain 47 = .ok (.getfield 22, 3) := by decide +kernel
theorem dX10_playAgain_50 : decode cX10_playAgain 50 = .ok (.invokevirtual 169, 3) := by decide +kernel
theorem dX10_playAgain_53 : decode cX10_playAgain 53 = .ok (.goto 46, 3) := by decide +kernel
theorem dX10_playAgain_56 : decode cX10_playAgain 56 = .ok (.aload_n 0, 1) := by decide +kernel
theorem dX10_playAgain_57 : decode cX10_playAgain 57 = .ok (.getfield 28, 3) := by decide +kernel
theorem dX10_playAgain_60 : decode cX10_playAgain 60 = .ok (.getfield 257, 3) := by decide +kernel
theorem dX10_playAgain_63 : decode cX10_playAgain 63 = .ok (.iload_n 2, 1) := by decide +kernel
theorem dX10_playAgain_64 : decode cX10_playAgain 64 = .ok (.aload_n 0, 1) := by decide +kernel
theorem dX10_playAgain_65 : decode cX10_playAgain 65 = .ok (.getfield 22, 3) := by decide +kernel
theorem dX10_playAgain_68 : decode cX10_playAgain 68 = .ok (.aload_n 0, 1) := by decide +kernel
theorem dX10_playAgain_69 : decode cX10_playAgain 69 = .ok (.getfield 28, 3) := by decide +kernel
theorem dX10_playAgain_72 : decode cX10_playAgain 72 = .ok (.getfield 255, 3) := by decide +kernel
theorem dX10_playAgain_75 : decode cX10_playAgain 75 = .ok (.iload_n 2, 1) := by decide +kernel
theorem dX10_playAgain_76 : decode cX10_playAgain 76 = .ok (.iaload, 1) := by decide +kernel
theorem dX10_playAgain_77 : decode cX10_playAgain 77 = .ok (.aload_n 0, 1) := by decide +kernel
theorem dX10_playAgain_78 : decode cX10_playAgain 78 = .ok (.getfield 28, 3) := by decide +kernel
theorem dX10_playAgain_81 : decode cX10_playAgain 81 = .ok (.getfield 260, 3) := by decide +kernel
theorem dX10_playAgain_84 : decode cX10_playAgain 84 = .ok (.iload_n 2, 1) := by decide +kernel
theorem dX10_playAgain_85 : decode cX10_playAgain 85 = .ok (.iaload, 1) := by decide +kernel
theorem dX10_playAgain_86 : decode cX10_playAgain 86 = .ok (.aload_n 0, 1) := by decide +kernel
theorem dX10_playAgain_87 : decode cX10_playAgain 87 = .ok (.getfield 28, 3) := by decide +kernel
theorem dX10_playAgain_90 : decode cX10_playAgain 90 = .ok (.getfield 263, 3) := by decide +kernel
theorem dX10_playAgain_93 : decode cX10_playAgain 93 = .ok (.iload_n 2, 1) := by decide +kernel
theorem dX10_playAgain_94 : decode cX10_playAgain 94 = .ok (.iaload, 1) := by decide +kernel
theorem dX10_playAgain_95 : decode cX10_playAgain 95 = .ok (.invokevirtual 158, 3) := by decide +kernel
theorem dX10_playAgain_98 : decode cX10_playAgain 98 = .ok (.iastore, 1) := by decide +kernel
theorem dX10_playAgain_99 : decode cX10_playAgain 99 = .ok (.iinc 2 1, 3) := by decide +kernel
theorem dX10_playAgain_102 : decode cX10_playAgain 102 = .ok (.goto (-81), 3) := by decide +kernel
theorem dX10_playAgain_105 : decode cX10_playAgain 105 = .ok (.return_, 1) := by decide +kernel
theorem dX10_isWithin_0 : decode cX10_isWithin 0 = .ok (.iload_n 0, 1) := by decide +kernel
theorem dX10_isWithin_1 : decode cX10_isWithin 1 = .ok (.iload_n 1, 1) := by decide +kernel
theorem dX10_isWithin_2 : decode cX10_isWithin 2 = .ok (.if_icmp .lt 12, 3) := by decide +kernel
theorem dX10_isWithin_5 : decode cX10_isWithin 5 = .ok (.iload_n 0, 1) := by decide +kernel
theorem dX10_isWithin_6 : decode cX10_isWithin 6 = .ok (.iload_n 2, 1) := by decide +kernel
theorem dX10_isWithin_7 : decode cX10_isWithin 7 = .ok (.if_icmp .gt 7, 3) := by decide +kernel
theorem dX10_isWithin_10 : decode cX10_isWithin 10 = .ok (.iconst 1, 1) := by decide +kernel
theorem dX10_isWithin_11 : decode cX10_isWithin 11 = .ok (.goto 4, 3) := by decide +kernel
theorem dX10_isWithin_14 : decode cX10_isWithin 14 = .ok (.iconst 0, 1) := by decide +kernel
theorem dX10_isWithin_15 : decode cX10_isWithin 15 = .ok (.ireturn, 1) := by decide +kernel
theorem dX10_isService_0 : decode cX10_isService 0 = .ok (.iload_n 0, 1) := by decide +kernel
theorem dX10_isService_1 : decode cX10_isService 1 = .ok (.iconst 0, 1) := by decide +kernel
theorem dX10_isService_2 : decode cX10_isService 2 = .ok (.iconst 3, 1) := by decide +kernel
theorem dX10_isService_3 : decode cX10_isService 3 = .ok (.invokestatic 58, 3) := by decide +kernel
theorem dX10_isService_6 : decode cX10_isService 6 = .ok (.ireturn, 1) := by decide +kernel
theorem dX10_isZone_0 : decode cX10_isZone 0 = .ok (.iload_n 0, 1) := by decide +kernel
theorem dX10_isZone_1 : decode cX10_isZone 1 = .ok (.iconst 0, 1) := by decide +kernel
theorem dX10_isZone_2 : decode cX10_isZone 2 = .ok (.iconst 2, 1) := by decide +kernel
theorem dX10_isZone_3 : decode cX10_isZone 3 = .ok (.invokestatic 58, 3) := by decide +kernel
theorem dX10_isZone_6 : decode cX10_isZone 6 = .ok (.ireturn, 1) := by decide +kernel
theorem dX10_isHeader_0 : decode cX10_isHeader 0 = .ok (.iload_n 0, 1) := by decide +kernel
theorem dX10_isHeader_1 : decode cX10_isHeader 1 = .ok (.iconst 0, 1) := by decide +kernel
theorem dX10_isHeader_2 : decode cX10_isHeader 2 = .ok (.bipush 9, 2) := by decide +kernel
theorem dX10_isHeader_4 : decode cX10_isHeader 4 = .ok (.invokestatic 58, 3) := by decide +kernel
theorem dX10_isHeader_7 : decode cX10_isHeader 7 = .ok (.ireturn, 1) := by decide +kernel
theorem dX10_isPathSign_0 : decode cX10_isPathSign 0 = .ok (.iload_n 0, 1) := by decide +kernel
theorem dX10_isPathSign_1 : decode cX10_isPathSign 1 = .ok (.bipush 47, 2) := by decide +kernel
theorem dX10_isPathSign_3 : decode cX10_isPathSign 3 = .ok (.if_icmp .eq 14, 3) := by decide +kernel
theorem dX10_isPathSign_6 : decode cX10_isPathSign 6 = .ok (.iload_n 0, 1) := by decide +kernel
theorem dX10_isPathSign_7 : decode cX10_isPathSign 7 = .ok (.bipush 97, 2) := by decide +kernel
theorem dX10_isPathSign_9 : decode cX10_isPathSign 9 = .ok (.bipush 122, 2) := by decide +kernel
theorem dX10_isPathSign_11 : decode cX10_isPathSign 11 = .ok (.invokestatic 58, 3) := by decide +kernel
theorem dX10_isPathSign_14 : decode cX10_isPathSign 14 = .ok (.ifCond .eq 7, 3) := by decide +kernel
theorem dX10_isPathSign_17 : decode cX10_isPathSign 17 = .ok (.iconst 1, 1) := by decide +kernel
theorem dX10_isPathSign_18 : decode cX10_isPathSign 18 = .ok (.goto 4, 3) := by decide +kernel
theorem dX10_isPathSign_21 : decode cX10_isPathSign 21 = .ok (.iconst 0, 1) := by decide +kernel
theorem dX10_isPathSign_22 : decode cX10_isPathSign 22 = .ok (.ireturn, 1) := by decide +kernel
theorem dX10_succeeds_0 : decode cX10_succeeds 0 = .ok (.iload_n 0, 1) := by decide +kernel
theorem dX10_succeeds_1 : decode cX10_succeeds 1 = .ok (.iload_n 1, 1) := by decide +kernel
theorem dX10_succeeds_2 : decode cX10_succeeds 2 = .ok (.bipush 7, 2) := by decide +kernel
theorem dX10_succeeds_4 : decode cX10_succeeds 4 = .ok (.iand, 1) := by decide +kernel
theorem dX10_succeeds_5 : decode cX10_succeeds 5 = .ok (.ishr, 1) := by decide +kernel
theorem dX10_succeeds_6 : decode cX10_succeeds 6 = .ok (.iconst 1, 1) := by decide +kernel
theorem dX10_succeeds_7 : decode cX10_succeeds 7 = .ok (.iand, 1) := by decide +kernel
theorem dX10_succeeds_8 : decode cX10_succeeds 8 = .ok (.iconst 1, 1) := by decide +kernel
theorem dX10_succeeds_9 : decode cX10_succeeds 9 = .ok (.if_icmp .ne 7, 3) := by decide +kernel
theorem dX10_succeeds_12 : decode cX10_succeeds 12 = .ok (.iconst 1, 1) := by decide +kernel
theorem dX10_succeeds_13 : decode cX10_succeeds 13 = .ok (.goto 4, 3) := by decide +kernel
theorem dX10_succeeds_16 : decode cX10_succeeds 16 = .ok (.iconst 0, 1) := by decide +kernel
theorem dX10_succeeds_17 : decode cX10_succeeds 17 = .ok (.ireturn, 1) := by decide +kernel
theorem dJ9_abs_0f7a4_0 : decode cJ9_abs_0f7a4 0 = .ok (.iload_n 0, 1) := by decide +kernel
theorem dJ9_abs_0f7a4_1 : decode cJ9_abs_0f7a4 1 = .ok (.ifCond .ge 8, 3) := by decide +kernel
theorem dJ9_abs_0f7a4_4 : decode cJ9_abs_0f7a4 4 = .ok (.iload_n 0, 1) := by decide +kernel
theorem dJ9_abs_0f7a4_5 : decode cJ9_abs_0f7a4 5 = .ok (.ineg, 1) := by decide +kernel
theorem dJ9_abs_0f7a4_6 : decode cJ9_abs_0f7a4 6 = .ok (.goto 4, 3) := by decide +kernel
theorem dJ9_abs_0f7a4_9 : decode cJ9_abs_0f7a4 9 = .ok (.iload_n 0, 1) := by decide +kernel
theorem dJ9_abs_0f7a4_10 : decode cJ9_abs_0f7a4 10 = .ok (.ireturn, 1) := by decide +kernel
theorem dJ9_min_7cf53_0 : decode cJ9_min_7cf53 0 = .ok (.iload_n 0, 1) := by decide +kernel
theorem dJ9_min_7cf53_1 : decode cJ9_min_7cf53 1 = .ok (.iload_n 1, 1) := by decide +kernel
theorem dJ9_min_7cf53_2 : decode cJ9_min_7cf53 2 = .ok (.if_icmp .gt 7, 3) := by decide +kernel
theorem dJ9_min_7cf53_5 : decode cJ9_min_7cf53 5 = .ok (.iload_n 0, 1) := by decide +kernel
theorem dJ9_min_7cf53_6 : decode cJ9_min_7cf53 6 = .ok (.goto 4, 3) := by decide +kernel
theorem dJ9_min_7cf53_9 : decode cJ9_min_7cf53 9 = .ok (.iload_n 1, 1) := by decide +kernel
theorem dJ9_min_7cf53_10 : decode cJ9_min_7cf53 10 = .ok (.ireturn, 1) := by decide +kernel

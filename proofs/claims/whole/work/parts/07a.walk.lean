set_option maxRecDepth 100000 in
set_option maxHeartbeats 4000000 in
theorem m_X0_begin (l : Launch) {P : zSt} (hP : zOKP P) {a0 : Nat} {i1 : Int32} {i2 : Int32} {i3 : Int32} (h_a0 : zT P 0 a0) : zMet l P yX0_begin cX0_begin 4 0 0 none [.ref a0, .int i1, .int i2, .int i3] (fun m => f_X0_begin P a0 i1 i2 i3 m) := by
  refine zMet.of hP (by decide +kernel) RX0 rfl [(0, .ref a0), (1, .int i1), (2, .int i2), (3, .int i3)] (fun h => h) (Nat.le_of_ble_eq_true rfl) (fun G m ok => ?_)
  show zG P G (f_X0_begin P a0 i1 i2 i3 m) m 0 _ []
  unfold f_X0_begin
  refine z_aload_n ok 0 dX0_begin_0 rfl (show zG P G _ _ 1 _ _ from ?_)
  refine z_iload_n ok 1 dX0_begin_1 rfl (show zG P G _ _ 2 _ _ from ?_)
  refine z_put ok fd_3 h_a0 (Or.inl rfl) tf_X0_9 dX0_begin_2 (fun m2 => (show zG P G _ _ 5 _ _ from ?_))
  refine z_aload_n ok 0 dX0_begin_5 rfl (show zG P G _ _ 6 _ _ from ?_)
  refine z_iload_n ok 2 dX0_begin_6 rfl (show zG P G _ _ 7 _ _ from ?_)
  refine z_put ok fd_4 h_a0 (Or.inl rfl) tf_X0_15 dX0_begin_7 (fun m7 => (show zG P G _ _ 10 _ _ from ?_))
  refine z_aload_n ok 0 dX0_begin_10 rfl (show zG P G _ _ 11 _ _ from ?_)
  refine z_iload_n ok 3 dX0_begin_11 rfl (show zG P G _ _ 12 _ _ from ?_)
  refine z_put ok fd_0 h_a0 (Or.inr ts_142) tf_X0_18 dX0_begin_12 (fun m12 => (show zG P G _ _ 15 _ _ from ?_))
  refine z_aload_n ok 0 dX0_begin_15 rfl (show zG P G _ _ 16 _ _ from ?_)
  refine z_iconst ok (0 : Int32) dX0_begin_16 (by decide) (show zG P G _ _ 17 _ _ from ?_)
  refine z_put ok fd_1 h_a0 (Or.inr ts_150) tf_X0_21 dX0_begin_17 (fun m17 => (show zG P G _ _ 20 _ _ from ?_))
  refine z_aload_n ok 0 dX0_begin_20 rfl (show zG P G _ _ 21 _ _ from ?_)
  refine z_sipush ok (255 : Int32) dX0_begin_21 (by decide) (show zG P G _ _ 24 _ _ from ?_)
  refine z_put ok fd_5 h_a0 (Or.inl rfl) tf_X0_24 dX0_begin_24 (fun m24 => (show zG P G _ _ 27 _ _ from ?_))
  refine z_aload_n ok 0 dX0_begin_27 rfl (show zG P G _ _ 28 _ _ from ?_)
  refine z_iconst ok (0 : Int32) dX0_begin_28 (by decide) (show zG P G _ _ 29 _ _ from ?_)
  refine z_put ok fd_6 h_a0 (Or.inl rfl) tf_X0_27 dX0_begin_29 (fun m29 => (show zG P G _ _ 32 _ _ from ?_))
  refine z_aload_n ok 0 dX0_begin_32 rfl (show zG P G _ _ 33 _ _ from ?_)
  refine z_iconst ok (0 : Int32) dX0_begin_33 (by decide) (show zG P G _ _ 34 _ _ from ?_)
  refine z_put ok fd_7 h_a0 (Or.inl rfl) tf_X0_30 dX0_begin_34 (fun m34 => (show zG P G _ _ 37 _ _ from ?_))
  refine z_aload_n ok 0 dX0_begin_37 rfl (show zG P G _ _ 38 _ _ from ?_)
  refine z_iconst ok (0 : Int32) dX0_begin_38 (by decide) (show zG P G _ _ 39 _ _ from ?_)
  refine z_put ok fd_8 h_a0 (Or.inl rfl) tf_X0_33 dX0_begin_39 (fun m39 => (show zG P G _ _ 42 _ _ from ?_))
  refine z_aload_n ok 0 dX0_begin_42 rfl (show zG P G _ _ 43 _ _ from ?_)
  refine z_iconst ok (0 : Int32) dX0_begin_43 (by decide) (show zG P G _ _ 44 _ _ from ?_)
  refine z_put ok fd_9 h_a0 (Or.inl rfl) tf_X0_36 dX0_begin_44 (fun m44 => (show zG P G _ _ 47 _ _ from ?_))
  refine z_aload_n ok 0 dX0_begin_47 rfl (show zG P G _ _ 48 _ _ from ?_)
  refine z_iconst ok (0 : Int32) dX0_begin_48 (by decide) (show zG P G _ _ 49 _ _ from ?_)
  refine z_put ok fd_10 h_a0 (Or.inl rfl) tf_X0_39 dX0_begin_49 (fun m49 => (show zG P G _ _ 52 _ _ from ?_))
  refine z_aload_n ok 0 dX0_begin_52 rfl (show zG P G _ _ 53 _ _ from ?_)
  refine z_iconst ok (0 : Int32) dX0_begin_53 (by decide) (show zG P G _ _ 54 _ _ from ?_)
  refine z_put ok fd_11 h_a0 (Or.inl rfl) tf_X0_42 dX0_begin_54 (fun m54 => (show zG P G _ _ 57 _ _ from ?_))
  refine z_aload_n ok 0 dX0_begin_57 rfl (show zG P G _ _ 58 _ _ from ?_)
  refine z_iconst ok (0 : Int32) dX0_begin_58 (by decide) (show zG P G _ _ 59 _ _ from ?_)
  refine z_put ok fd_12 h_a0 (Or.inl rfl) tf_X0_45 dX0_begin_59 (fun m59 => (show zG P G _ _ 62 _ _ from ?_))
  exact z_vret ok dX0_begin_62
set_option maxRecDepth 100000 in
set_option maxHeartbeats 4000000 in
theorem m_X0_copyFrom (l : Launch) {P : zSt} (hP : zOKP P) {a0 : Nat} {a1 : Nat} (h_a0 : zT P 0 a0) (h_a1 : zT P 0 a1) : zMet l P yX0_copyFrom cX0_copyFrom 2 0 0 none [.ref a0, .ref a1] (fun m => f_X0_copyFrom P a0 a1 m) := by
  refine zMet.of hP (by decide +kernel) RX0 rfl [(0, .ref a0), (1, .ref a1)] (fun h => h) (Nat.le_of_ble_eq_true rfl) (fun G m ok => ?_)
  show zG P G (f_X0_copyFrom P a0 a1 m) m 0 _ []
  unfold f_X0_copyFrom
  refine z_aload_n ok 0 dX0_copyFrom_0 rfl (show zG P G _ _ 1 _ _ from ?_)
  refine z_aload_n ok 1 dX0_copyFrom_1 rfl (show zG P G _ _ 2 _ _ from ?_)
  refine z_get ok fd_3 h_a1 (Or.inl rfl) tf_X0_9 dX0_copyFrom_2 (show zG P G _ _ 5 _ _ from ?_)
  refine z_put ok fd_3 h_a0 (Or.inl rfl) tf_X0_9 dX0_copyFrom_5 (fun m5 => (show zG P G _ _ 8 _ _ from ?_))
  refine z_aload_n ok 0 dX0_copyFrom_8 rfl (show zG P G _ _ 9 _ _ from ?_)
  refine z_aload_n ok 1 dX0_copyFrom_9 rfl (show zG P G _ _ 10 _ _ from ?_)
  refine z_get ok fd_4 h_a1 (Or.inl rfl) tf_X0_15 dX0_copyFrom_10 (show zG P G _ _ 13 _ _ from ?_)
  refine z_put ok fd_4 h_a0 (Or.inl rfl) tf_X0_15 dX0_copyFrom_13 (fun m13 => (show zG P G _ _ 16 _ _ from ?_))
  refine z_aload_n ok 0 dX0_copyFrom_16 rfl (show zG P G _ _ 17 _ _ from ?_)
  refine z_aload_n ok 1 dX0_copyFrom_17 rfl (show zG P G _ _ 18 _ _ from ?_)
  refine z_get ok fd_0 h_a1 (Or.inr ts_142) tf_X0_18 dX0_copyFrom_18 (show zG P G _ _ 21 _ _ from ?_)
  refine z_put ok fd_0 h_a0 (Or.inr ts_142) tf_X0_18 dX0_copyFrom_21 (fun m21 => (show zG P G _ _ 24 _ _ from ?_))
  refine z_aload_n ok 0 dX0_copyFrom_24 rfl (show zG P G _ _ 25 _ _ from ?_)
  refine z_aload_n ok 1 dX0_copyFrom_25 rfl (show zG P G _ _ 26 _ _ from ?_)
  refine z_get ok fd_1 h_a1 (Or.inr ts_150) tf_X0_21 dX0_copyFrom_26 (show zG P G _ _ 29 _ _ from ?_)
  refine z_put ok fd_1 h_a0 (Or.inr ts_150) tf_X0_21 dX0_copyFrom_29 (fun m29 => (show zG P G _ _ 32 _ _ from ?_))
  refine z_aload_n ok 0 dX0_copyFrom_32 rfl (show zG P G _ _ 33 _ _ from ?_)
  refine z_aload_n ok 1 dX0_copyFrom_33 rfl (show zG P G _ _ 34 _ _ from ?_)
  refine z_get ok fd_5 h_a1 (Or.inl rfl) tf_X0_24 dX0_copyFrom_34 (show zG P G _ _ 37 _ _ from ?_)
  refine z_put ok fd_5 h_a0 (Or.inl rfl) tf_X0_24 dX0_copyFrom_37 (fun m37 => (show zG P G _ _ 40 _ _ from ?_))
  refine z_aload_n ok 0 dX0_copyFrom_40 rfl (show zG P G _ _ 41 _ _ from ?_)
  refine z_aload_n ok 1 dX0_copyFrom_41 rfl (show zG P G _ _ 42 _ _ from ?_)
  refine z_get ok fd_6 h_a1 (Or.inl rfl) tf_X0_27 dX0_copyFrom_42 (show zG P G _ _ 45 _ _ from ?_)
  refine z_put ok fd_6 h_a0 (Or.inl rfl) tf_X0_27 dX0_copyFrom_45 (fun m45 => (show zG P G _ _ 48 _ _ from ?_))
  refine z_aload_n ok 0 dX0_copyFrom_48 rfl (show zG P G _ _ 49 _ _ from ?_)
  refine z_aload_n ok 1 dX0_copyFrom_49 rfl (show zG P G _ _ 50 _ _ from ?_)
  refine z_get ok fd_7 h_a1 (Or.inl rfl) tf_X0_30 dX0_copyFrom_50 (show zG P G _ _ 53 _ _ from ?_)
  refine z_put ok fd_7 h_a0 (Or.inl rfl) tf_X0_30 dX0_copyFrom_53 (fun m53 => (show zG P G _ _ 56 _ _ from ?_))
  refine z_aload_n ok 0 dX0_copyFrom_56 rfl (show zG P G _ _ 57 _ _ from ?_)
  refine z_aload_n ok 1 dX0_copyFrom_57 rfl (show zG P G _ _ 58 _ _ from ?_)
  refine z_get ok fd_8 h_a1 (Or.inl rfl) tf_X0_33 dX0_copyFrom_58 (show zG P G _ _ 61 _ _ from ?_)
  refine z_put ok fd_8 h_a0 (Or.inl rfl) tf_X0_33 dX0_copyFrom_61 (fun m61 => (show zG P G _ _ 64 _ _ from ?_))
  refine z_aload_n ok 0 dX0_copyFrom_64 rfl (show zG P G _ _ 65 _ _ from ?_)
  refine z_aload_n ok 1 dX0_copyFrom_65 rfl (show zG P G _ _ 66 _ _ from ?_)
  refine z_get ok fd_9 h_a1 (Or.inl rfl) tf_X0_36 dX0_copyFrom_66 (show zG P G _ _ 69 _ _ from ?_)
  refine z_put ok fd_9 h_a0 (Or.inl rfl) tf_X0_36 dX0_copyFrom_69 (fun m69 => (show zG P G _ _ 72 _ _ from ?_))
  refine z_aload_n ok 0 dX0_copyFrom_72 rfl (show zG P G _ _ 73 _ _ from ?_)
  refine z_aload_n ok 1 dX0_copyFrom_73 rfl (show zG P G _ _ 74 _ _ from ?_)
  refine z_get ok fd_10 h_a1 (Or.inl rfl) tf_X0_39 dX0_copyFrom_74 (show zG P G _ _ 77 _ _ from ?_)
  refine z_put ok fd_10 h_a0 (Or.inl rfl) tf_X0_39 dX0_copyFrom_77 (fun m77 => (show zG P G _ _ 80 _ _ from ?_))
  refine z_aload_n ok 0 dX0_copyFrom_80 rfl (show zG P G _ _ 81 _ _ from ?_)
  refine z_aload_n ok 1 dX0_copyFrom_81 rfl (show zG P G _ _ 82 _ _ from ?_)
  refine z_get ok fd_11 h_a1 (Or.inl rfl) tf_X0_42 dX0_copyFrom_82 (show zG P G _ _ 85 _ _ from ?_)
  refine z_put ok fd_11 h_a0 (Or.inl rfl) tf_X0_42 dX0_copyFrom_85 (fun m85 => (show zG P G _ _ 88 _ _ from ?_))
  refine z_aload_n ok 0 dX0_copyFrom_88 rfl (show zG P G _ _ 89 _ _ from ?_)
  refine z_aload_n ok 1 dX0_copyFrom_89 rfl (show zG P G _ _ 90 _ _ from ?_)
  refine z_get ok fd_12 h_a1 (Or.inl rfl) tf_X0_45 dX0_copyFrom_90 (show zG P G _ _ 93 _ _ from ?_)
  refine z_put ok fd_12 h_a0 (Or.inl rfl) tf_X0_45 dX0_copyFrom_93 (fun m93 => (show zG P G _ _ 96 _ _ from ?_))
  exact z_vret ok dX0_copyFrom_96
set_option maxRecDepth 100000 in
set_option maxHeartbeats 4000000 in
theorem t_X0_isMemberOf_b19 {P : zSt} {G : zC} (ok : zOK P G RX0 cX0_isMemberOf 2 0 0 (some .boolean))   {m : zM}  : zG P G (f_X0_isMemberOf_b19 P  m) m 19 [] [] := by
  unfold f_X0_isMemberOf_b19
  refine z_iconst ok (0 : Int32) dX0_isMemberOf_19 (by decide) (show zG P G _ _ 20 _ _ from ?_)
  exact z_zret ok dX0_isMemberOf_20
set_option maxRecDepth 100000 in
set_option maxHeartbeats 4000000 in
theorem m_X0_isMemberOf (l : Launch) {P : zSt} (hP : zOKP P) {a0 : Nat} {i1 : Int32} (h_a0 : zT P 0 a0) : zMet l P yX0_isMemberOf cX0_isMemberOf 2 0 0 (some .boolean) [.ref a0, .int i1] (fun m => f_X0_isMemberOf P a0 i1 m) := by
  refine zMet.of hP (by decide +kernel) RX0 rfl [(0, .ref a0), (1, .int i1)] (fun h => h) (Nat.le_of_ble_eq_true rfl) (fun G m ok => ?_)
  show zG P G (f_X0_isMemberOf P a0 i1 m) m 0 _ []
  unfold f_X0_isMemberOf
  refine z_aload_n ok 0 dX0_isMemberOf_0 rfl (show zG P G _ _ 1 _ _ from ?_)
  refine z_get ok fd_3 h_a0 (Or.inl rfl) tf_X0_9 dX0_isMemberOf_1 (show zG P G _ _ 4 _ _ from ?_)
  refine z_iload_n ok 1 dX0_isMemberOf_4 rfl (show zG P G _ _ 5 _ _ from ?_)
  refine z_icmp_ne ok 19 dX0_isMemberOf_5 (by decide) ?_ (show zG P G _ _ 8 _ _ from ?_)
  · exact z_sub [] [] rfl (t_X0_isMemberOf_b19 ok)
  · refine z_aload_n ok 0 dX0_isMemberOf_8 rfl (show zG P G _ _ 9 _ _ from ?_)
    refine z_get ok fd_0 h_a0 (Or.inr ts_142) tf_X0_18 dX0_isMemberOf_9 (show zG P G _ _ 12 _ _ from ?_)
    refine z_if_le ok 19 dX0_isMemberOf_12 (by decide) ?_ (show zG P G _ _ 15 _ _ from ?_)
    · exact z_sub [] [] rfl (t_X0_isMemberOf_b19 ok)
    · refine z_iconst ok (1 : Int32) dX0_isMemberOf_15 (by decide) (show zG P G _ _ 16 _ _ from ?_)
      refine z_goto ok 20 dX0_isMemberOf_16 (by decide) ?_
      exact z_zret ok dX0_isMemberOf_20
set_option maxRecDepth 100000 in
set_option maxHeartbeats 4000000 in
theorem t_X0_isAvailableIn_b26 {P : zSt} {G : zC} (ok : zOK P G RX0 cX0_isAvailableIn 2 0 0 (some .boolean))   {m : zM}  : zG P G (f_X0_isAvailableIn_b26 P  m) m 26 [] [] := by
  unfold f_X0_isAvailableIn_b26
  refine z_iconst ok (0 : Int32) dX0_isAvailableIn_26 (by decide) (show zG P G _ _ 27 _ _ from ?_)
  exact z_zret ok dX0_isAvailableIn_27
set_option maxRecDepth 100000 in
set_option maxHeartbeats 4000000 in
theorem m_X0_isAvailableIn (l : Launch) {P : zSt} (hP : zOKP P) {a0 : Nat} {i1 : Int32} (h_a0 : zT P 0 a0) : zMet l P yX0_isAvailableIn cX0_isAvailableIn 2 0 0 (some .boolean) [.ref a0, .int i1] (fun m => f_X0_isAvailableIn P a0 i1 m) := by
  refine zMet.of hP (by decide +kernel) RX0 rfl [(0, .ref a0), (1, .int i1)] (fun h => h) (Nat.le_of_ble_eq_true rfl) (fun G m ok => ?_)
  show zG P G (f_X0_isAvailableIn P a0 i1 m) m 0 _ []
  unfold f_X0_isAvailableIn
  refine z_aload_n ok 0 dX0_isAvailableIn_0 rfl (show zG P G _ _ 1 _ _ from ?_)
  refine z_get ok fd_3 h_a0 (Or.inl rfl) tf_X0_9 dX0_isAvailableIn_1 (show zG P G _ _ 4 _ _ from ?_)
  refine z_iload_n ok 1 dX0_isAvailableIn_4 rfl (show zG P G _ _ 5 _ _ from ?_)
  refine z_icmp_ne ok 26 dX0_isAvailableIn_5 (by decide) ?_ (show zG P G _ _ 8 _ _ from ?_)
  · exact z_sub [] [] rfl (t_X0_isAvailableIn_b26 ok)
  · refine z_aload_n ok 0 dX0_isAvailableIn_8 rfl (show zG P G _ _ 9 _ _ from ?_)
    refine z_get ok fd_0 h_a0 (Or.inr ts_142) tf_X0_18 dX0_isAvailableIn_9 (show zG P G _ _ 12 _ _ from ?_)
    refine z_if_le ok 26 dX0_isAvailableIn_12 (by decide) ?_ (show zG P G _ _ 15 _ _ from ?_)
    · exact z_sub [] [] rfl (t_X0_isAvailableIn_b26 ok)
    · refine z_aload_n ok 0 dX0_isAvailableIn_15 rfl (show zG P G _ _ 16 _ _ from ?_)
      refine z_get ok fd_10 h_a0 (Or.inl rfl) tf_X0_39 dX0_isAvailableIn_16 (show zG P G _ _ 19 _ _ from ?_)
      refine z_if_ne ok 26 dX0_isAvailableIn_19 (by decide) ?_ (show zG P G _ _ 22 _ _ from ?_)
      · exact z_sub [] [] rfl (t_X0_isAvailableIn_b26 ok)
      · refine z_iconst ok (1 : Int32) dX0_isAvailableIn_22 (by decide) (show zG P G _ _ 23 _ _ from ?_)
        refine z_goto ok 27 dX0_isAvailableIn_23 (by decide) ?_
        exact z_zret ok dX0_isAvailableIn_27
set_option maxRecDepth 100000 in
set_option maxHeartbeats 4000000 in
theorem m_X0_isLessUsedThan (l : Launch) {P : zSt} (hP : zOKP P) {a0 : Nat} {a1 : Nat} (h_a0 : zT P 0 a0) (h_a1 : zT P 0 a1) : zMet l P yX0_isLessUsedThan cX0_isLessUsedThan 2 0 0 (some .boolean) [.ref a0, .ref a1] (fun m => f_X0_isLessUsedThan P a0 a1 m) := by
  refine zMet.of hP (by decide +kernel) RX0 rfl [(0, .ref a0), (1, .ref a1)] (fun h => h) (Nat.le_of_ble_eq_true rfl) (fun G m ok => ?_)
  show zG P G (f_X0_isLessUsedThan P a0 a1 m) m 0 _ []
  unfold f_X0_isLessUsedThan
  refine z_aload_n ok 0 dX0_isLessUsedThan_0 rfl (show zG P G _ _ 1 _ _ from ?_)
  refine z_get ok fd_6 h_a0 (Or.inl rfl) tf_X0_27 dX0_isLessUsedThan_1 (show zG P G _ _ 4 _ _ from ?_)
  refine z_aload_n ok 1 dX0_isLessUsedThan_4 rfl (show zG P G _ _ 5 _ _ from ?_)
  refine z_get ok fd_0 h_a1 (Or.inr ts_142) tf_X0_18 dX0_isLessUsedThan_5 (show zG P G _ _ 8 _ _ from ?_)
  refine z_imul ok dX0_isLessUsedThan_8 (show zG P G _ _ 9 _ _ from ?_)
  refine z_aload_n ok 1 dX0_isLessUsedThan_9 rfl (show zG P G _ _ 10 _ _ from ?_)
  refine z_get ok fd_6 h_a1 (Or.inl rfl) tf_X0_27 dX0_isLessUsedThan_10 (show zG P G _ _ 13 _ _ from ?_)
  refine z_aload_n ok 0 dX0_isLessUsedThan_13 rfl (show zG P G _ _ 14 _ _ from ?_)
  refine z_get ok fd_0 h_a0 (Or.inr ts_142) tf_X0_18 dX0_isLessUsedThan_14 (show zG P G _ _ 17 _ _ from ?_)
  refine z_imul ok dX0_isLessUsedThan_17 (show zG P G _ _ 18 _ _ from ?_)
  refine z_icmp_ge ok 25 dX0_isLessUsedThan_18 (by decide) ?_ (show zG P G _ _ 21 _ _ from ?_)
  · refine z_iconst ok (0 : Int32) dX0_isLessUsedThan_25 (by decide) (show zG P G _ _ 26 _ _ from ?_)
    exact z_zret ok dX0_isLessUsedThan_26
  · refine z_iconst ok (1 : Int32) dX0_isLessUsedThan_21 (by decide) (show zG P G _ _ 22 _ _ from ?_)
    refine z_goto ok 26 dX0_isLessUsedThan_22 (by decide) ?_
    exact z_zret ok dX0_isLessUsedThan_26
set_option maxRecDepth 100000 in
set_option maxHeartbeats 4000000 in
theorem m_X10_succeeds (l : Launch) {P : zSt} (hP : zOKP P) {i0 : Int32} {i1 : Int32}  : zMet l P yX10_succeeds cX10_succeeds 2 0 0 (some .boolean) [.int i0, .int i1] (fun m => f_X10_succeeds P i0 i1 m) := by
  refine zMet.of hP (by decide +kernel) RX10 rfl [(0, .int i0), (1, .int i1)] (fun h => h) (Nat.le_of_ble_eq_true rfl) (fun G m ok => ?_)
  show zG P G (f_X10_succeeds P i0 i1 m) m 0 _ []
  unfold f_X10_succeeds
  refine z_iload_n ok 0 dX10_succeeds_0 rfl (show zG P G _ _ 1 _ _ from ?_)
  refine z_iload_n ok 1 dX10_succeeds_1 rfl (show zG P G _ _ 2 _ _ from ?_)
  refine z_bipush ok (7 : Int32) dX10_succeeds_2 (by decide) (show zG P G _ _ 4 _ _ from ?_)
  refine z_iand ok dX10_succeeds_4 (show zG P G _ _ 5 _ _ from ?_)
  refine z_ishr ok dX10_succeeds_5 (show zG P G _ _ 6 _ _ from ?_)
  refine z_iconst ok (1 : Int32) dX10_succeeds_6 (by decide) (show zG P G _ _ 7 _ _ from ?_)
  refine z_iand ok dX10_succeeds_7 (show zG P G _ _ 8 _ _ from ?_)
  refine z_iconst ok (1 : Int32) dX10_succeeds_8 (by decide) (show zG P G _ _ 9 _ _ from ?_)
  refine z_icmp_ne ok 16 dX10_succeeds_9 (by decide) ?_ (show zG P G _ _ 12 _ _ from ?_)
  · refine z_iconst ok (0 : Int32) dX10_succeeds_16 (by decide) (show zG P G _ _ 17 _ _ from ?_)
    exact z_zret ok dX10_succeeds_17
  · refine z_iconst ok (1 : Int32) dX10_succeeds_12 (by decide) (show zG P G _ _ 13 _ _ from ?_)
    refine z_goto ok 17 dX10_succeeds_13 (by decide) ?_
    exact z_zret ok dX10_succeeds_17
set_option maxRecDepth 100000 in
set_option maxHeartbeats 4000000 in
theorem t_X0_attempt_b59 {P : zSt} {G : zC} (ok : zOK P G RX0 cX0_attempt 2 1 21 (some .boolean))  {x1 : Int32} {m : zM}  : zG P G (f_X0_attempt_b59 P x1 m) m 59 [(1, .int x1)] [] := by
  unfold f_X0_attempt_b59
  refine z_iload_n ok 0 dX0_attempt_59 rfl (show zG P G _ _ 60 _ _ from ?_)
  exact z_zret ok dX0_attempt_60
set_option maxRecDepth 100000 in
set_option maxHeartbeats 4000000 in
theorem m_X0_attempt (l : Launch) {P : zSt} (hP : zOKP P) {a0 : Nat} (h_a0 : zT P 0 a0) : zMet l P yX0_attempt cX0_attempt 2 1 21 (some .boolean) [.ref a0] (fun m => f_X0_attempt P a0 m) := by
  refine zMet.of hP (by decide +kernel) RX0 rfl [(0, .ref a0)] (fun h => h) (Nat.le_of_ble_eq_true rfl) (fun G m ok => ?_)
  show zG P G (f_X0_attempt P a0 m) m 0 _ []
  unfold f_X0_attempt
  refine z_aload_n ok 0 dX0_attempt_0 rfl (show zG P G _ _ 1 _ _ from ?_)
  refine z_get ok fd_5 h_a0 (Or.inl rfl) tf_X0_24 dX0_attempt_1 (show zG P G _ _ 4 _ _ from ?_)
  refine z_aload_n ok 0 dX0_attempt_4 rfl (show zG P G _ _ 5 _ _ from ?_)
  refine z_get ok fd_6 h_a0 (Or.inl rfl) tf_X0_27 dX0_attempt_5 (show zG P G _ _ 8 _ _ from ?_)
  refine z_callSi ok [.int (zf m 5 a0), .int (zf m 6 a0)] (m_X10_succeeds _ ok.p) cv_X0_48 rfl (by decide) rfl (Nat.le_of_ble_eq_true rfl) rfl dX0_attempt_8 (fun r8 m8 => (show zG P G _ _ 11 _ _ from ?_))
  refine z_istore_n0 ok [(1, .int r8), (0, .ref a0)] dX0_attempt_11 (by decide) rfl (show zG P G _ _ 12 _ _ from ?_)
  refine z_aload_n ok 1 dX0_attempt_12 rfl (show zG P G _ _ 13 _ _ from ?_)
  refine z_iconst ok (1 : Int32) dX0_attempt_13 (by decide) (show zG P G _ _ 14 _ _ from ?_)
  refine z_putZ ok fd_13 h_a0 (Or.inl rfl) tf_X0_52 dX0_attempt_14 (fun m14 => (show zG P G _ _ 17 _ _ from ?_))
  refine z_aload_n ok 1 dX0_attempt_17 rfl (show zG P G _ _ 18 _ _ from ?_)
  refine z_dup ok dX0_attempt_18 rfl (show zG P G _ _ 19 _ _ from ?_)
  refine z_get ok fd_6 h_a0 (Or.inl rfl) tf_X0_27 dX0_attempt_19 (show zG P G _ _ 22 _ _ from ?_)
  refine z_iconst ok (1 : Int32) dX0_attempt_22 (by decide) (show zG P G _ _ 23 _ _ from ?_)
  refine z_iadd ok dX0_attempt_23 (show zG P G _ _ 24 _ _ from ?_)
  refine z_put ok fd_6 h_a0 (Or.inl rfl) tf_X0_27 dX0_attempt_24 (fun m24 => (show zG P G _ _ 27 _ _ from ?_))
  refine z_iload_n ok 0 dX0_attempt_27 rfl (show zG P G _ _ 28 _ _ from ?_)
  refine z_if_eq ok 49 dX0_attempt_28 (by decide) ?_ (show zG P G _ _ 31 _ _ from ?_)
  · refine z_aload_n ok 1 dX0_attempt_49 rfl (show zG P G _ _ 50 _ _ from ?_)
    refine z_dup ok dX0_attempt_50 rfl (show zG P G _ _ 51 _ _ from ?_)
    refine z_get ok fd_8 h_a0 (Or.inl rfl) tf_X0_33 dX0_attempt_51 (show zG P G _ _ 54 _ _ from ?_)
    refine z_iconst ok (1 : Int32) dX0_attempt_54 (by decide) (show zG P G _ _ 55 _ _ from ?_)
    refine z_iadd ok dX0_attempt_55 (show zG P G _ _ 56 _ _ from ?_)
    refine z_put ok fd_8 h_a0 (Or.inl rfl) tf_X0_33 dX0_attempt_56 (fun m56 => (show zG P G _ _ 59 _ _ from ?_))
    exact z_sub [0] [(1, .int r8)] rfl (t_X0_attempt_b59 ok)
  · refine z_aload_n ok 1 dX0_attempt_31 rfl (show zG P G _ _ 32 _ _ from ?_)
    refine z_dup ok dX0_attempt_32 rfl (show zG P G _ _ 33 _ _ from ?_)
    refine z_get ok fd_7 h_a0 (Or.inl rfl) tf_X0_30 dX0_attempt_33 (show zG P G _ _ 36 _ _ from ?_)
    refine z_iconst ok (1 : Int32) dX0_attempt_36 (by decide) (show zG P G _ _ 37 _ _ from ?_)
    refine z_iadd ok dX0_attempt_37 (show zG P G _ _ 38 _ _ from ?_)
    refine z_put ok fd_7 h_a0 (Or.inl rfl) tf_X0_30 dX0_attempt_38 (fun m38 => (show zG P G _ _ 41 _ _ from ?_))
    refine z_aload_n ok 1 dX0_attempt_41 rfl (show zG P G _ _ 42 _ _ from ?_)
    refine z_iconst ok (0 : Int32) dX0_attempt_42 (by decide) (show zG P G _ _ 43 _ _ from ?_)
    refine z_put ok fd_8 h_a0 (Or.inl rfl) tf_X0_33 dX0_attempt_43 (fun m43 => (show zG P G _ _ 46 _ _ from ?_))
    refine z_goto ok 59 dX0_attempt_46 (by decide) ?_
    exact z_sub [0] [(1, .int r8)] rfl (t_X0_attempt_b59 ok)
set_option maxRecDepth 100000 in
set_option maxHeartbeats 4000000 in
theorem t_X0_attemptAsShadow_b24 {P : zSt} {G : zC} (ok : zOK P G RX0 cX0_attemptAsShadow 1 1 21 none)  {a0 : Nat} {m : zM} (h_a0 : zT P 0 a0) : zG P G (f_X0_attemptAsShadow_b24 P a0 m) m 24 [(0, .ref a0)] [] := by
  unfold f_X0_attemptAsShadow_b24
  refine z_aload_n ok 0 dX0_attemptAsShadow_24 rfl (show zG P G _ _ 25 _ _ from ?_)
  refine z_dup ok dX0_attemptAsShadow_25 rfl (show zG P G _ _ 26 _ _ from ?_)
  refine z_get ok fd_11 h_a0 (Or.inl rfl) tf_X0_42 dX0_attemptAsShadow_26 (show zG P G _ _ 29 _ _ from ?_)
  refine z_iconst ok (1 : Int32) dX0_attemptAsShadow_29 (by decide) (show zG P G _ _ 30 _ _ from ?_)
  refine z_iadd ok dX0_attemptAsShadow_30 (show zG P G _ _ 31 _ _ from ?_)
  refine z_put ok fd_11 h_a0 (Or.inl rfl) tf_X0_42 dX0_attemptAsShadow_31 (fun m31 => (show zG P G _ _ 34 _ _ from ?_))
  exact z_vret ok dX0_attemptAsShadow_34
set_option maxRecDepth 100000 in
set_option maxHeartbeats 4000000 in
theorem m_X0_attemptAsShadow (l : Launch) {P : zSt} (hP : zOKP P) {a0 : Nat} (h_a0 : zT P 0 a0) : zMet l P yX0_attemptAsShadow cX0_attemptAsShadow 1 1 21 none [.ref a0] (fun m => f_X0_attemptAsShadow P a0 m) := by
  refine zMet.of hP (by decide +kernel) RX0 rfl [(0, .ref a0)] (fun h => h) (Nat.le_of_ble_eq_true rfl) (fun G m ok => ?_)
  show zG P G (f_X0_attemptAsShadow P a0 m) m 0 _ []
  unfold f_X0_attemptAsShadow
  refine z_aload_n ok 0 dX0_attemptAsShadow_0 rfl (show zG P G _ _ 1 _ _ from ?_)
  refine z_get ok fd_5 h_a0 (Or.inl rfl) tf_X0_24 dX0_attemptAsShadow_1 (show zG P G _ _ 4 _ _ from ?_)
  refine z_aload_n ok 0 dX0_attemptAsShadow_4 rfl (show zG P G _ _ 5 _ _ from ?_)
  refine z_get ok fd_11 h_a0 (Or.inl rfl) tf_X0_42 dX0_attemptAsShadow_5 (show zG P G _ _ 8 _ _ from ?_)
  refine z_callSi ok [.int (zf m 5 a0), .int (zf m 11 a0)] (m_X10_succeeds _ ok.p) cv_X0_48 rfl (by decide) rfl (Nat.le_of_ble_eq_true rfl) rfl dX0_attemptAsShadow_8 (fun r8 m8 => (show zG P G _ _ 11 _ _ from ?_))
  refine z_if_eq ok 24 dX0_attemptAsShadow_11 (by decide) ?_ (show zG P G _ _ 14 _ _ from ?_)
  · exact z_sub [0] [(0, .ref a0)] rfl (t_X0_attemptAsShadow_b24 ok h_a0)
  · refine z_aload_n ok 0 dX0_attemptAsShadow_14 rfl (show zG P G _ _ 15 _ _ from ?_)
    refine z_dup ok dX0_attemptAsShadow_15 rfl (show zG P G _ _ 16 _ _ from ?_)
    refine z_get ok fd_12 h_a0 (Or.inl rfl) tf_X0_45 dX0_attemptAsShadow_16 (show zG P G _ _ 19 _ _ from ?_)
    refine z_iconst ok (1 : Int32) dX0_attemptAsShadow_19 (by decide) (show zG P G _ _ 20 _ _ from ?_)
    refine z_iadd ok dX0_attemptAsShadow_20 (show zG P G _ _ 21 _ _ from ?_)
    refine z_put ok fd_12 h_a0 (Or.inl rfl) tf_X0_45 dX0_attemptAsShadow_21 (fun m21 => (show zG P G _ _ 24 _ _ from ?_))
    exact z_sub [0] [(0, .ref a0)] rfl (t_X0_attemptAsShadow_b24 ok h_a0)
set_option maxRecDepth 100000 in
set_option maxHeartbeats 4000000 in
theorem m_X0_eject (l : Launch) {P : zSt} (hP : zOKP P) {a0 : Nat} {i1 : Int32} (h_a0 : zT P 0 a0) : zMet l P yX0_eject cX0_eject 2 0 0 none [.ref a0, .int i1] (fun m => f_X0_eject P a0 i1 m) := by
  refine zMet.of hP (by decide +kernel) RX0 rfl [(0, .ref a0), (1, .int i1)] (fun h => h) (Nat.le_of_ble_eq_true rfl) (fun G m ok => ?_)
  show zG P G (f_X0_eject P a0 i1 m) m 0 _ []
  unfold f_X0_eject
  refine z_aload_n ok 0 dX0_eject_0 rfl (show zG P G _ _ 1 _ _ from ?_)
  refine z_dup ok dX0_eject_1 rfl (show zG P G _ _ 2 _ _ from ?_)
  refine z_get ok fd_9 h_a0 (Or.inl rfl) tf_X0_36 dX0_eject_2 (show zG P G _ _ 5 _ _ from ?_)
  refine z_iconst ok (1 : Int32) dX0_eject_5 (by decide) (show zG P G _ _ 6 _ _ from ?_)
  refine z_iadd ok dX0_eject_6 (show zG P G _ _ 7 _ _ from ?_)
  refine z_put ok fd_9 h_a0 (Or.inl rfl) tf_X0_36 dX0_eject_7 (fun m7 => (show zG P G _ _ 10 _ _ from ?_))
  refine z_aload_n ok 0 dX0_eject_10 rfl (show zG P G _ _ 11 _ _ from ?_)
  refine z_iconst ok (0 : Int32) dX0_eject_11 (by decide) (show zG P G _ _ 12 _ _ from ?_)
  refine z_put ok fd_8 h_a0 (Or.inl rfl) tf_X0_33 dX0_eject_12 (fun m12 => (show zG P G _ _ 15 _ _ from ?_))
  refine z_aload_n ok 0 dX0_eject_15 rfl (show zG P G _ _ 16 _ _ from ?_)
  refine z_iload_n ok 1 dX0_eject_16 rfl (show zG P G _ _ 17 _ _ from ?_)
  refine z_aload_n ok 0 dX0_eject_17 rfl (show zG P G _ _ 18 _ _ from ?_)
  refine z_get ok fd_9 h_a0 (Or.inl rfl) tf_X0_36 dX0_eject_18 (show zG P G _ _ 21 _ _ from ?_)
  refine z_imul ok dX0_eject_21 (show zG P G _ _ 22 _ _ from ?_)
  refine z_put ok fd_10 h_a0 (Or.inl rfl) tf_X0_39 dX0_eject_22 (fun m22 => (show zG P G _ _ 25 _ _ from ?_))
  exact z_vret ok dX0_eject_25
set_option maxRecDepth 100000 in
set_option maxHeartbeats 4000000 in
theorem m_X0_property (l : Launch) {P : zSt} (hP : zOKP P) {a0 : Nat} {i1 : Int32} (h_a0 : zT P 0 a0) : zMet l P yX0_property cX0_property 2 0 0 (some .int) [.ref a0, .int i1] (fun m => f_X0_property P a0 i1 m) := by
  refine zMet.of hP (by decide +kernel) RX0 rfl [(0, .ref a0), (1, .int i1)] (fun h => h) (Nat.le_of_ble_eq_true rfl) (fun G m ok => ?_)
  show zG P G (f_X0_property P a0 i1 m) m 0 _ []
  unfold f_X0_property
  refine z_iload_n ok 1 dX0_property_0 rfl (show zG P G _ _ 1 _ _ from ?_)
  refine z_tsw ok 124 [64, 69, 74, 79, 84, 89, 94, 99, 104, 109, 114, 119] dX0_property_1 (by decide) (by decide) (by decide) ⟨?_, ?_, ?_, ?_, ?_, ?_, ?_, ?_, ?_, ?_, ?_, ?_, trivial⟩ ?_
  · refine z_aload_n ok 0 dX0_property_64 rfl (show zG P G _ _ 65 _ _ from ?_)
    refine z_get ok fd_3 h_a0 (Or.inl rfl) tf_X0_9 dX0_property_65 (show zG P G _ _ 68 _ _ from ?_)
    exact z_iret ok dX0_property_68
  · refine z_aload_n ok 0 dX0_property_69 rfl (show zG P G _ _ 70 _ _ from ?_)
    refine z_get ok fd_4 h_a0 (Or.inl rfl) tf_X0_15 dX0_property_70 (show zG P G _ _ 73 _ _ from ?_)
    exact z_iret ok dX0_property_73
  · refine z_aload_n ok 0 dX0_property_74 rfl (show zG P G _ _ 75 _ _ from ?_)
    refine z_get ok fd_0 h_a0 (Or.inr ts_142) tf_X0_18 dX0_property_75 (show zG P G _ _ 78 _ _ from ?_)
    exact z_iret ok dX0_property_78
  · refine z_aload_n ok 0 dX0_property_79 rfl (show zG P G _ _ 80 _ _ from ?_)
    refine z_get ok fd_5 h_a0 (Or.inl rfl) tf_X0_24 dX0_property_80 (show zG P G _ _ 83 _ _ from ?_)
    exact z_iret ok dX0_property_83
  · refine z_aload_n ok 0 dX0_property_84 rfl (show zG P G _ _ 85 _ _ from ?_)
    refine z_get ok fd_1 h_a0 (Or.inr ts_150) tf_X0_21 dX0_property_85 (show zG P G _ _ 88 _ _ from ?_)
    exact z_iret ok dX0_property_88
  · refine z_aload_n ok 0 dX0_property_89 rfl (show zG P G _ _ 90 _ _ from ?_)
    refine z_get ok fd_6 h_a0 (Or.inl rfl) tf_X0_27 dX0_property_90 (show zG P G _ _ 93 _ _ from ?_)
    exact z_iret ok dX0_property_93
  · refine z_aload_n ok 0 dX0_property_94 rfl (show zG P G _ _ 95 _ _ from ?_)
    refine z_get ok fd_7 h_a0 (Or.inl rfl) tf_X0_30 dX0_property_95 (show zG P G _ _ 98 _ _ from ?_)
    exact z_iret ok dX0_property_98
  · refine z_aload_n ok 0 dX0_property_99 rfl (show zG P G _ _ 100 _ _ from ?_)
    refine z_get ok fd_8 h_a0 (Or.inl rfl) tf_X0_33 dX0_property_100 (show zG P G _ _ 103 _ _ from ?_)
    exact z_iret ok dX0_property_103
  · refine z_aload_n ok 0 dX0_property_104 rfl (show zG P G _ _ 105 _ _ from ?_)
    refine z_get ok fd_9 h_a0 (Or.inl rfl) tf_X0_36 dX0_property_105 (show zG P G _ _ 108 _ _ from ?_)
    exact z_iret ok dX0_property_108
  · refine z_aload_n ok 0 dX0_property_109 rfl (show zG P G _ _ 110 _ _ from ?_)
    refine z_get ok fd_10 h_a0 (Or.inl rfl) tf_X0_39 dX0_property_110 (show zG P G _ _ 113 _ _ from ?_)
    exact z_iret ok dX0_property_113
  · refine z_aload_n ok 0 dX0_property_114 rfl (show zG P G _ _ 115 _ _ from ?_)
    refine z_get ok fd_11 h_a0 (Or.inl rfl) tf_X0_42 dX0_property_115 (show zG P G _ _ 118 _ _ from ?_)
    exact z_iret ok dX0_property_118
  · refine z_aload_n ok 0 dX0_property_119 rfl (show zG P G _ _ 120 _ _ from ?_)
    refine z_get ok fd_12 h_a0 (Or.inl rfl) tf_X0_45 dX0_property_120 (show zG P G _ _ 123 _ _ from ?_)
    exact z_iret ok dX0_property_123
  · refine z_bipush ok (-2 : Int32) dX0_property_124 (by decide) (show zG P G _ _ 126 _ _ from ?_)
    exact z_iret ok dX0_property_126
set_option maxRecDepth 100000 in
set_option maxHeartbeats 4000000 in
theorem m_X6_copyFrom (l : Launch) {P : zSt} (hP : zOKP P) {a0 : Nat} {a1 : Nat} (h_a0 : zT P 6 a0) (h_a1 : zT P 6 a1) : zMet l P yX6_copyFrom cX6_copyFrom 2 0 0 none [.ref a0, .ref a1] (fun m => f_X6_copyFrom P a0 a1 m) := by
  refine zMet.of hP (by decide +kernel) RX6 rfl [(0, .ref a0), (1, .ref a1)] (fun h => h) (Nat.le_of_ble_eq_true rfl) (fun G m ok => ?_)
  show zG P G (f_X6_copyFrom P a0 a1 m) m 0 _ []
  unfold f_X6_copyFrom
  refine z_aload_n ok 0 dX6_copyFrom_0 rfl (show zG P G _ _ 1 _ _ from ?_)
  refine z_aload_n ok 1 dX6_copyFrom_1 rfl (show zG P G _ _ 2 _ _ from ?_)
  refine z_get ok fd_123 h_a1 (Or.inl rfl) tf_X6_9 dX6_copyFrom_2 (show zG P G _ _ 5 _ _ from ?_)
  refine z_put ok fd_123 h_a0 (Or.inl rfl) tf_X6_9 dX6_copyFrom_5 (fun m5 => (show zG P G _ _ 8 _ _ from ?_))
  refine z_aload_n ok 0 dX6_copyFrom_8 rfl (show zG P G _ _ 9 _ _ from ?_)
  refine z_aload_n ok 1 dX6_copyFrom_9 rfl (show zG P G _ _ 10 _ _ from ?_)
  refine z_get ok fd_120 h_a1 (Or.inr ts_140) tf_X6_15 dX6_copyFrom_10 (show zG P G _ _ 13 _ _ from ?_)
  refine z_put ok fd_120 h_a0 (Or.inr ts_140) tf_X6_15 dX6_copyFrom_13 (fun m13 => (show zG P G _ _ 16 _ _ from ?_))
  refine z_aload_n ok 0 dX6_copyFrom_16 rfl (show zG P G _ _ 17 _ _ from ?_)
  refine z_aload_n ok 1 dX6_copyFrom_17 rfl (show zG P G _ _ 18 _ _ from ?_)
  refine z_get ok fd_121 h_a1 (Or.inr ts_148) tf_X6_18 dX6_copyFrom_18 (show zG P G _ _ 21 _ _ from ?_)
  refine z_put ok fd_121 h_a0 (Or.inr ts_148) tf_X6_18 dX6_copyFrom_21 (fun m21 => (show zG P G _ _ 24 _ _ from ?_))
  refine z_aload_n ok 0 dX6_copyFrom_24 rfl (show zG P G _ _ 25 _ _ from ?_)
  refine z_aload_n ok 1 dX6_copyFrom_25 rfl (show zG P G _ _ 26 _ _ from ?_)
  refine z_get ok fd_124 h_a1 (Or.inl rfl) tf_X6_21 dX6_copyFrom_26 (show zG P G _ _ 29 _ _ from ?_)
  refine z_put ok fd_124 h_a0 (Or.inl rfl) tf_X6_21 dX6_copyFrom_29 (fun m29 => (show zG P G _ _ 32 _ _ from ?_))
  exact z_vret ok dX6_copyFrom_32
set_option maxRecDepth 100000 in
set_option maxHeartbeats 4000000 in
theorem m_X7_clear (l : Launch) {P : zSt} (hP : zOKP P) {a0 : Nat} (h_a0 : zT P 7 a0) : zMet l P yX7_clear cX7_clear 1 0 0 none [.ref a0] (fun m => f_X7_clear P a0 m) := by
  refine zMet.of hP (by decide +kernel) RX7 rfl [(0, .ref a0)] (fun h => h) (Nat.le_of_ble_eq_true rfl) (fun G m ok => ?_)
  show zG P G (f_X7_clear P a0 m) m 0 _ []
  unfold f_X7_clear
  refine z_aload_n ok 0 dX7_clear_0 rfl (show zG P G _ _ 1 _ _ from ?_)
  refine z_iconst ok (0 : Int32) dX7_clear_1 (by decide) (show zG P G _ _ 2 _ _ from ?_)
  refine z_put ok fd_141 h_a0 (Or.inl rfl) tf_X7_15 dX7_clear_2 (fun m2 => (show zG P G _ _ 5 _ _ from ?_))
  exact z_vret ok dX7_clear_5
set_option maxRecDepth 100000 in
set_option maxHeartbeats 4000000 in
theorem m_X7_put (l : Launch) {P : zSt} (hP : zOKP P) {a0 : Nat} {i1 : Int32} (h_a0 : zT P 7 a0) : zMet l P yX7_put cX7_put 2 0 0 none [.ref a0, .int i1] (fun m => f_X7_put P a0 i1 m) := by
  refine zMet.of hP (by decide +kernel) RX7 rfl [(0, .ref a0), (1, .int i1)] (fun h => h) (Nat.le_of_ble_eq_true rfl) (fun G m ok => ?_)
  show zG P G (f_X7_put P a0 i1 m) m 0 _ []
  unfold f_X7_put
  refine z_aload_n ok 0 dX7_put_0 rfl (show zG P G _ _ 1 _ _ from ?_)
  refine z_get ok fd_141 h_a0 (Or.inl rfl) tf_X7_15 dX7_put_1 (show zG P G _ _ 4 _ _ from ?_)
  refine z_bipush ok (40 : Int32) dX7_put_4 (by decide) (show zG P G _ _ 6 _ _ from ?_)
  refine z_icmp_ge ok 30 dX7_put_6 (by decide) ?_ (show zG P G _ _ 9 _ _ from ?_)
  · exact z_vret ok dX7_put_30
  · refine z_aload_n ok 0 dX7_put_9 rfl (show zG P G _ _ 10 _ _ from ?_)
    refine z_getR ok fd_140 h_a0 (Or.inl rfl) tf_X7_9 dX7_put_10 (fun b10 h_b10 => (show zG P G _ _ 13 _ _ from ?_))
    refine z_aload_n ok 0 dX7_put_13 rfl (show zG P G _ _ 14 _ _ from ?_)
    refine z_get ok fd_141 h_a0 (Or.inl rfl) tf_X7_15 dX7_put_14 (show zG P G _ _ 17 _ _ from ?_)
    refine z_iload_n ok 1 dX7_put_17 rfl (show zG P G _ _ 18 _ _ from ?_)
    refine z_i2c ok dX7_put_18 (show zG P G _ _ 19 _ _ from ?_)
    refine z_cast ok h_b10 dX7_put_19 (fun m19 => (show zG P G _ _ 20 _ _ from ?_))
    refine z_aload_n ok 0 dX7_put_20 rfl (show zG P G _ _ 21 _ _ from ?_)
    refine z_dup ok dX7_put_21 rfl (show zG P G _ _ 22 _ _ from ?_)
    refine z_get ok fd_141 h_a0 (Or.inl rfl) tf_X7_15 dX7_put_22 (show zG P G _ _ 25 _ _ from ?_)
    refine z_iconst ok (1 : Int32) dX7_put_25 (by decide) (show zG P G _ _ 26 _ _ from ?_)
    refine z_iadd ok dX7_put_26 (show zG P G _ _ 27 _ _ from ?_)
    refine z_put ok fd_141 h_a0 (Or.inl rfl) tf_X7_15 dX7_put_27 (fun m27 => (show zG P G _ _ 30 _ _ from ?_))
    exact z_vret ok dX7_put_30
set_option maxRecDepth 100000 in
set_option maxHeartbeats 4000000 in
theorem t_X7_putAll_b2 {P : zSt} {G : zC} (ok : zOK P G RX7 cX7_putAll 3 1 21 none)  : ∀ (n : Nat) (a0 : Nat) (a1 : Nat) (x2 : Int32) (m : zM) (h_a0 : zT P 7 a0) (h_a1 : zT P 7 a1), zG P G (f_X7_putAll_b2 P n a0 a1 x2 m) m 2 [(0, .ref a0), (1, .ref a1), (2, .int x2)] [] := by
  intro n
  induction n with
  | zero =>
    intros
    exact zG_none
  | succ n ih =>
    intro a0 a1 x2 m h_a0 h_a1
    unfold f_X7_putAll_b2
    have hr_2 := ih
    refine z_iload_n ok 2 dX7_putAll_2 rfl (show zG P G _ _ 3 _ _ from ?_)
    refine z_aload_n ok 1 dX7_putAll_3 rfl (show zG P G _ _ 4 _ _ from ?_)
    refine z_get ok fd_141 h_a1 (Or.inl rfl) tf_X7_15 dX7_putAll_4 (show zG P G _ _ 7 _ _ from ?_)
    refine z_icmp_ge ok 26 dX7_putAll_7 (by decide) ?_ (show zG P G _ _ 10 _ _ from ?_)
    · exact z_vret ok dX7_putAll_26
    · refine z_aload_n ok 0 dX7_putAll_10 rfl (show zG P G _ _ 11 _ _ from ?_)
      refine z_aload_n ok 1 dX7_putAll_11 rfl (show zG P G _ _ 12 _ _ from ?_)
      refine z_getR ok fd_140 h_a1 (Or.inl rfl) tf_X7_9 dX7_putAll_12 (fun b12 h_b12 => (show zG P G _ _ 15 _ _ from ?_))
      refine z_iload_n ok 2 dX7_putAll_15 rfl (show zG P G _ _ 16 _ _ from ?_)
      refine z_cald ok h_b12 dX7_putAll_16 (show zG P G _ _ 17 _ _ from ?_)
      refine z_callVv ok [.int (za m b12 x2.toNatClampNeg)] (m_X7_put _ ok.p h_a0) cv_X7_19 h_a0 rfl (by decide) rfl (Nat.le_of_ble_eq_true rfl) rfl dX7_putAll_17 (fun _ m17 => (show zG P G _ _ 20 _ _ from ?_))
      refine z_iinc ok (fun v20 => [(2, .int v20), (0, .ref a0), (1, .ref a1)]) 2 dX7_putAll_20 rfl (by decide) (by decide) (fun _ => rfl) (fun v20 => (show zG P G _ _ 23 _ _ from ?_))
      refine z_goto ok 2 dX7_putAll_23 (by decide) ?_
      exact z_sub [1, 2, 0] [(0, .ref a0), (1, .ref a1), (2, .int v20)] rfl (hr_2 _ _ _ _ h_a0 h_a1)
set_option maxRecDepth 100000 in
set_option maxHeartbeats 4000000 in
theorem m_X7_putAll (l : Launch) {P : zSt} (hP : zOKP P) {a0 : Nat} {a1 : Nat} (h_a0 : zT P 7 a0) (h_a1 : zT P 7 a1) : zMet l P yX7_putAll cX7_putAll 3 1 21 none [.ref a0, .ref a1] (fun m => f_X7_putAll P a0 a1 m) := by
  refine zMet.of hP (by decide +kernel) RX7 rfl [(0, .ref a0), (1, .ref a1)] (fun h => h) (Nat.le_of_ble_eq_true rfl) (fun G m ok => ?_)
  show zG P G (f_X7_putAll P a0 a1 m) m 0 _ []
  unfold f_X7_putAll
  refine z_iconst ok (0 : Int32) dX7_putAll_0 (by decide) (show zG P G _ _ 1 _ _ from ?_)
  refine z_istore_n0 ok [(2, .int (0 : Int32)), (0, .ref a0), (1, .ref a1)] dX7_putAll_1 (by decide) rfl (show zG P G _ _ 2 _ _ from ?_)
  exact z_sub [1, 2, 0] [(0, .ref a0), (1, .ref a1), (2, .int (0 : Int32))] rfl (t_X7_putAll_b2 ok zfuel _ _ _ _ h_a0 h_a1)
set_option maxRecDepth 100000 in
set_option maxHeartbeats 4000000 in
theorem t_X3_copyFrom_b44 {P : zSt} {G : zC} (ok : zOK P G RX3 cX3_copyFrom 3 2 43 none)  : ∀ (n : Nat) (a0 : Nat) (a1 : Nat) (x2 : Int32) (m : zM) (h_a0 : zT P 3 a0) (h_a1 : zT P 3 a1), zG P G (f_X3_copyFrom_b44 P n a0 a1 x2 m) m 44 [(0, .ref a0), (1, .ref a1), (2, .int x2)] [] := by
  intro n
  induction n with
  | zero =>
    intros
    exact zG_none
  | succ n ih =>
    intro a0 a1 x2 m h_a0 h_a1
    unfold f_X3_copyFrom_b44
    have hr_44 := ih
    refine z_iload_n ok 2 dX3_copyFrom_44 rfl (show zG P G _ _ 45 _ _ from ?_)
    refine z_aload_n ok 0 dX3_copyFrom_45 rfl (show zG P G _ _ 46 _ _ from ?_)
    refine z_get ok fd_64 h_a0 (Or.inl rfl) tf_X3_38 dX3_copyFrom_46 (show zG P G _ _ 49 _ _ from ?_)
    refine z_icmp_ge ok 73 dX3_copyFrom_49 (by decide) ?_ (show zG P G _ _ 52 _ _ from ?_)
    · refine z_aload_n ok 0 dX3_copyFrom_73 rfl (show zG P G _ _ 74 _ _ from ?_)
      refine z_aload_n ok 1 dX3_copyFrom_74 rfl (show zG P G _ _ 75 _ _ from ?_)
      refine z_get ok fd_65 h_a1 (Or.inl rfl) tf_X3_41 dX3_copyFrom_75 (show zG P G _ _ 78 _ _ from ?_)
      refine z_put ok fd_65 h_a0 (Or.inl rfl) tf_X3_41 dX3_copyFrom_78 (fun m78 => (show zG P G _ _ 81 _ _ from ?_))
      refine z_aload_n ok 0 dX3_copyFrom_81 rfl (show zG P G _ _ 82 _ _ from ?_)
      refine z_aload_n ok 1 dX3_copyFrom_82 rfl (show zG P G _ _ 83 _ _ from ?_)
      refine z_get ok fd_66 h_a1 (Or.inl rfl) tf_X3_44 dX3_copyFrom_83 (show zG P G _ _ 86 _ _ from ?_)
      refine z_put ok fd_66 h_a0 (Or.inl rfl) tf_X3_44 dX3_copyFrom_86 (fun m86 => (show zG P G _ _ 89 _ _ from ?_))
      exact z_vret ok dX3_copyFrom_89
    · refine z_aload_n ok 0 dX3_copyFrom_52 rfl (show zG P G _ _ 53 _ _ from ?_)
      refine z_getR ok fd_63 h_a0 (Or.inl rfl) tf_X3_20 dX3_copyFrom_53 (fun b53 h_b53 => (show zG P G _ _ 56 _ _ from ?_))
      refine z_iload_n ok 2 dX3_copyFrom_56 rfl (show zG P G _ _ 57 _ _ from ?_)
      refine z_aald ok ek_16 h_b53 dX3_copyFrom_57 (fun b57 h_b57 => (show zG P G _ _ 58 _ _ from ?_))
      refine z_aload_n ok 1 dX3_copyFrom_58 rfl (show zG P G _ _ 59 _ _ from ?_)
      refine z_getR ok fd_63 h_a1 (Or.inl rfl) tf_X3_20 dX3_copyFrom_59 (fun b59 h_b59 => (show zG P G _ _ 62 _ _ from ?_))
      refine z_iload_n ok 2 dX3_copyFrom_62 rfl (show zG P G _ _ 63 _ _ from ?_)
      refine z_aald ok ek_16 h_b59 dX3_copyFrom_63 (fun b63 h_b63 => (show zG P G _ _ 64 _ _ from ?_))
      refine z_callVv ok [.ref b63] (m_X6_copyFrom _ ok.p h_b57 h_b63) cv_X3_51 h_b57 rfl (by decide) rfl (Nat.le_of_ble_eq_true rfl) rfl dX3_copyFrom_64 (fun _ m64 => (show zG P G _ _ 67 _ _ from ?_))
      refine z_iinc ok (fun v67 => [(2, .int v67), (0, .ref a0), (1, .ref a1)]) 2 dX3_copyFrom_67 rfl (by decide) (by decide) (fun _ => rfl) (fun v67 => (show zG P G _ _ 70 _ _ from ?_))
      refine z_goto ok 44 dX3_copyFrom_70 (by decide) ?_
      exact z_sub [1, 2, 0] [(0, .ref a0), (1, .ref a1), (2, .int v67)] rfl (hr_44 _ _ _ _ h_a0 h_a1)
set_option maxRecDepth 100000 in
set_option maxHeartbeats 4000000 in
theorem m_X3_copyFrom (l : Launch) {P : zSt} (hP : zOKP P) {a0 : Nat} {a1 : Nat} (h_a0 : zT P 3 a0) (h_a1 : zT P 3 a1) : zMet l P yX3_copyFrom cX3_copyFrom 3 2 43 none [.ref a0, .ref a1] (fun m => f_X3_copyFrom P a0 a1 m) := by
  refine zMet.of hP (by decide +kernel) RX3 rfl [(0, .ref a0), (1, .ref a1)] (fun h => h) (Nat.le_of_ble_eq_true rfl) (fun G m ok => ?_)
  show zG P G (f_X3_copyFrom P a0 a1 m) m 0 _ []
  unfold f_X3_copyFrom
  refine z_aload_n ok 0 dX3_copyFrom_0 rfl (show zG P G _ _ 1 _ _ from ?_)
  refine z_getR ok fd_60 h_a0 (Or.inl rfl) tf_X3_12 dX3_copyFrom_1 (fun b1 h_b1 => (show zG P G _ _ 4 _ _ from ?_))
  refine z_callVv ok [] (m_X7_clear _ ok.p h_b1) cv_X3_28 h_b1 rfl (by decide) rfl (Nat.le_of_ble_eq_true rfl) rfl dX3_copyFrom_4 (fun _ m4 => (show zG P G _ _ 7 _ _ from ?_))
  refine z_aload_n ok 0 dX3_copyFrom_7 rfl (show zG P G _ _ 8 _ _ from ?_)
  refine z_getR ok fd_60 h_a0 (Or.inl rfl) tf_X3_12 dX3_copyFrom_8 (fun b8 h_b8 => (show zG P G _ _ 11 _ _ from ?_))
  refine z_aload_n ok 1 dX3_copyFrom_11 rfl (show zG P G _ _ 12 _ _ from ?_)
  refine z_getR ok fd_60 h_a1 (Or.inl rfl) tf_X3_12 dX3_copyFrom_12 (fun b12 h_b12 => (show zG P G _ _ 15 _ _ from ?_))
  refine z_callVv ok [.ref b12] (m_X7_putAll _ ok.p h_b8 h_b12) cv_X3_47 h_b8 rfl (by decide) rfl (Nat.le_of_ble_eq_true rfl) rfl dX3_copyFrom_15 (fun _ m15 => (show zG P G _ _ 18 _ _ from ?_))
  refine z_aload_n ok 0 dX3_copyFrom_18 rfl (show zG P G _ _ 19 _ _ from ?_)
  refine z_aload_n ok 1 dX3_copyFrom_19 rfl (show zG P G _ _ 20 _ _ from ?_)
  refine z_get ok fd_61 h_a1 (Or.inl rfl) tf_X3_31 dX3_copyFrom_20 (show zG P G _ _ 23 _ _ from ?_)
  refine z_put ok fd_61 h_a0 (Or.inl rfl) tf_X3_31 dX3_copyFrom_23 (fun m23 => (show zG P G _ _ 26 _ _ from ?_))
  refine z_aload_n ok 0 dX3_copyFrom_26 rfl (show zG P G _ _ 27 _ _ from ?_)
  refine z_aload_n ok 1 dX3_copyFrom_27 rfl (show zG P G _ _ 28 _ _ from ?_)
  refine z_get ok fd_62 h_a1 (Or.inl rfl) tf_X3_35 dX3_copyFrom_28 (show zG P G _ _ 31 _ _ from ?_)
  refine z_put ok fd_62 h_a0 (Or.inl rfl) tf_X3_35 dX3_copyFrom_31 (fun m31 => (show zG P G _ _ 34 _ _ from ?_))
  refine z_aload_n ok 0 dX3_copyFrom_34 rfl (show zG P G _ _ 35 _ _ from ?_)
  refine z_aload_n ok 1 dX3_copyFrom_35 rfl (show zG P G _ _ 36 _ _ from ?_)
  refine z_get ok fd_64 h_a1 (Or.inl rfl) tf_X3_38 dX3_copyFrom_36 (show zG P G _ _ 39 _ _ from ?_)
  refine z_put ok fd_64 h_a0 (Or.inl rfl) tf_X3_38 dX3_copyFrom_39 (fun m39 => (show zG P G _ _ 42 _ _ from ?_))
  refine z_iconst ok (0 : Int32) dX3_copyFrom_42 (by decide) (show zG P G _ _ 43 _ _ from ?_)
  refine z_istore_n0 ok [(2, .int (0 : Int32)), (0, .ref a0), (1, .ref a1)] dX3_copyFrom_43 (by decide) rfl (show zG P G _ _ 44 _ _ from ?_)
  exact z_sub [1, 2, 0] [(0, .ref a0), (1, .ref a1), (2, .int (0 : Int32))] rfl (t_X3_copyFrom_b44 ok zfuel _ _ _ _ h_a0 h_a1)
set_option maxRecDepth 100000 in
set_option maxHeartbeats 4000000 in
theorem t_X5_copyFrom_b91 {P : zSt} {G : zC} (ok : zOK P G RX5 cX5_copyFrom 3 0 0 none)  : ∀ (n : Nat) (a0 : Nat) (a1 : Nat) (x2 : Int32) (m : zM) (h_a0 : zT P 5 a0) (h_a1 : zT P 5 a1), zG P G (f_X5_copyFrom_b91 P n a0 a1 x2 m) m 91 [(0, .ref a0), (1, .ref a1), (2, .int x2)] [] := by
  intro n
  induction n with
  | zero =>
    intros
    exact zG_none
  | succ n ih =>
    intro a0 a1 x2 m h_a0 h_a1
    unfold f_X5_copyFrom_b91
    have hr_91 := ih
    refine z_iload_n ok 2 dX5_copyFrom_91 rfl (show zG P G _ _ 92 _ _ from ?_)
    refine z_bipush ok (10 : Int32) dX5_copyFrom_92 (by decide) (show zG P G _ _ 94 _ _ from ?_)
    refine z_icmp_ge ok 115 dX5_copyFrom_94 (by decide) ?_ (show zG P G _ _ 97 _ _ from ?_)
    · exact z_vret ok dX5_copyFrom_115
    · refine z_aload_n ok 0 dX5_copyFrom_97 rfl (show zG P G _ _ 98 _ _ from ?_)
      refine z_getR ok fd_109 h_a0 (Or.inl rfl) tf_X5_34 dX5_copyFrom_98 (fun b98 h_b98 => (show zG P G _ _ 101 _ _ from ?_))
      refine z_iload_n ok 2 dX5_copyFrom_101 rfl (show zG P G _ _ 102 _ _ from ?_)
      refine z_aload_n ok 1 dX5_copyFrom_102 rfl (show zG P G _ _ 103 _ _ from ?_)
      refine z_getR ok fd_109 h_a1 (Or.inl rfl) tf_X5_34 dX5_copyFrom_103 (fun b103 h_b103 => (show zG P G _ _ 106 _ _ from ?_))
      refine z_iload_n ok 2 dX5_copyFrom_106 rfl (show zG P G _ _ 107 _ _ from ?_)
      refine z_iald ok h_b103 dX5_copyFrom_107 (show zG P G _ _ 108 _ _ from ?_)
      refine z_iast ok h_b98 dX5_copyFrom_108 (fun m108 => (show zG P G _ _ 109 _ _ from ?_))
      refine z_iinc ok (fun v109 => [(2, .int v109), (0, .ref a0), (1, .ref a1)]) 2 dX5_copyFrom_109 rfl (by decide) (by decide) (fun _ => rfl) (fun v109 => (show zG P G _ _ 112 _ _ from ?_))
      refine z_goto ok 91 dX5_copyFrom_112 (by decide) ?_
      exact z_sub [1, 2, 0] [(0, .ref a0), (1, .ref a1), (2, .int v109)] rfl (hr_91 _ _ _ _ h_a0 h_a1)
set_option maxRecDepth 100000 in
set_option maxHeartbeats 4000000 in
theorem t_X5_copyFrom_b66 {P : zSt} {G : zC} (ok : zOK P G RX5 cX5_copyFrom 3 0 0 none)  : ∀ (n : Nat) (a0 : Nat) (a1 : Nat) (x2 : Int32) (m : zM) (h_a0 : zT P 5 a0) (h_a1 : zT P 5 a1), zG P G (f_X5_copyFrom_b66 P n a0 a1 x2 m) m 66 [(0, .ref a0), (1, .ref a1), (2, .int x2)] [] := by
  intro n
  induction n with
  | zero =>
    intros
    exact zG_none
  | succ n ih =>
    intro a0 a1 x2 m h_a0 h_a1
    unfold f_X5_copyFrom_b66
    have hr_66 := ih
    refine z_iload_n ok 2 dX5_copyFrom_66 rfl (show zG P G _ _ 67 _ _ from ?_)
    refine z_iconst ok (3 : Int32) dX5_copyFrom_67 (by decide) (show zG P G _ _ 68 _ _ from ?_)
    refine z_icmp_ge ok 89 dX5_copyFrom_68 (by decide) ?_ (show zG P G _ _ 71 _ _ from ?_)
    · refine z_iconst ok (0 : Int32) dX5_copyFrom_89 (by decide) (show zG P G _ _ 90 _ _ from ?_)
      refine z_istore_n0 ok [(2, .int (0 : Int32)), (0, .ref a0), (1, .ref a1)] dX5_copyFrom_90 (by decide) rfl (show zG P G _ _ 91 _ _ from ?_)
      exact z_sub [1, 2, 0] [(0, .ref a0), (1, .ref a1), (2, .int (0 : Int32))] rfl (t_X5_copyFrom_b91 ok zfuel _ _ _ _ h_a0 h_a1)
    · refine z_aload_n ok 0 dX5_copyFrom_71 rfl (show zG P G _ _ 72 _ _ from ?_)
      refine z_getR ok fd_108 h_a0 (Or.inl rfl) tf_X5_30 dX5_copyFrom_72 (fun b72 h_b72 => (show zG P G _ _ 75 _ _ from ?_))
      refine z_iload_n ok 2 dX5_copyFrom_75 rfl (show zG P G _ _ 76 _ _ from ?_)
      refine z_aload_n ok 1 dX5_copyFrom_76 rfl (show zG P G _ _ 77 _ _ from ?_)
      refine z_getR ok fd_108 h_a1 (Or.inl rfl) tf_X5_30 dX5_copyFrom_77 (fun b77 h_b77 => (show zG P G _ _ 80 _ _ from ?_))
      refine z_iload_n ok 2 dX5_copyFrom_80 rfl (show zG P G _ _ 81 _ _ from ?_)
      refine z_iald ok h_b77 dX5_copyFrom_81 (show zG P G _ _ 82 _ _ from ?_)
      refine z_iast ok h_b72 dX5_copyFrom_82 (fun m82 => (show zG P G _ _ 83 _ _ from ?_))
      refine z_iinc ok (fun v83 => [(2, .int v83), (0, .ref a0), (1, .ref a1)]) 2 dX5_copyFrom_83 rfl (by decide) (by decide) (fun _ => rfl) (fun v83 => (show zG P G _ _ 86 _ _ from ?_))
      refine z_goto ok 66 dX5_copyFrom_86 (by decide) ?_
      exact z_sub [1, 2, 0] [(0, .ref a0), (1, .ref a1), (2, .int v83)] rfl (hr_66 _ _ _ _ h_a0 h_a1)
set_option maxRecDepth 100000 in
set_option maxHeartbeats 4000000 in
theorem m_X5_copyFrom (l : Launch) {P : zSt} (hP : zOKP P) {a0 : Nat} {a1 : Nat} (h_a0 : zT P 5 a0) (h_a1 : zT P 5 a1) : zMet l P yX5_copyFrom cX5_copyFrom 3 0 0 none [.ref a0, .ref a1] (fun m => f_X5_copyFrom P a0 a1 m) := by
  refine zMet.of hP (by decide +kernel) RX5 rfl [(0, .ref a0), (1, .ref a1)] (fun h => h) (Nat.le_of_ble_eq_true rfl) (fun G m ok => ?_)
  show zG P G (f_X5_copyFrom P a0 a1 m) m 0 _ []
  unfold f_X5_copyFrom
  refine z_aload_n ok 0 dX5_copyFrom_0 rfl (show zG P G _ _ 1 _ _ from ?_)
  refine z_aload_n ok 1 dX5_copyFrom_1 rfl (show zG P G _ _ 2 _ _ from ?_)
  refine z_get ok fd_100 h_a1 (Or.inl rfl) tf_X5_9 dX5_copyFrom_2 (show zG P G _ _ 5 _ _ from ?_)
  refine z_put ok fd_100 h_a0 (Or.inl rfl) tf_X5_9 dX5_copyFrom_5 (fun m5 => (show zG P G _ _ 8 _ _ from ?_))
  refine z_aload_n ok 0 dX5_copyFrom_8 rfl (show zG P G _ _ 9 _ _ from ?_)
  refine z_aload_n ok 1 dX5_copyFrom_9 rfl (show zG P G _ _ 10 _ _ from ?_)
  refine z_get ok fd_101 h_a1 (Or.inl rfl) tf_X5_15 dX5_copyFrom_10 (show zG P G _ _ 13 _ _ from ?_)
  refine z_put ok fd_101 h_a0 (Or.inl rfl) tf_X5_15 dX5_copyFrom_13 (fun m13 => (show zG P G _ _ 16 _ _ from ?_))
  refine z_aload_n ok 0 dX5_copyFrom_16 rfl (show zG P G _ _ 17 _ _ from ?_)
  refine z_aload_n ok 1 dX5_copyFrom_17 rfl (show zG P G _ _ 18 _ _ from ?_)
  refine z_get ok fd_102 h_a1 (Or.inl rfl) tf_X5_18 dX5_copyFrom_18 (show zG P G _ _ 21 _ _ from ?_)
  refine z_put ok fd_102 h_a0 (Or.inl rfl) tf_X5_18 dX5_copyFrom_21 (fun m21 => (show zG P G _ _ 24 _ _ from ?_))
  refine z_aload_n ok 0 dX5_copyFrom_24 rfl (show zG P G _ _ 25 _ _ from ?_)
  refine z_aload_n ok 1 dX5_copyFrom_25 rfl (show zG P G _ _ 26 _ _ from ?_)
  refine z_get ok fd_103 h_a1 (Or.inl rfl) tf_X5_21 dX5_copyFrom_26 (show zG P G _ _ 29 _ _ from ?_)
  refine z_put ok fd_103 h_a0 (Or.inl rfl) tf_X5_21 dX5_copyFrom_29 (fun m29 => (show zG P G _ _ 32 _ _ from ?_))
  refine z_aload_n ok 0 dX5_copyFrom_32 rfl (show zG P G _ _ 33 _ _ from ?_)
  refine z_aload_n ok 1 dX5_copyFrom_33 rfl (show zG P G _ _ 34 _ _ from ?_)
  refine z_get ok fd_104 h_a1 (Or.inl rfl) tf_X5_24 dX5_copyFrom_34 (show zG P G _ _ 37 _ _ from ?_)
  refine z_put ok fd_104 h_a0 (Or.inl rfl) tf_X5_24 dX5_copyFrom_37 (fun m37 => (show zG P G _ _ 40 _ _ from ?_))
  refine z_aload_n ok 0 dX5_copyFrom_40 rfl (show zG P G _ _ 41 _ _ from ?_)
  refine z_aload_n ok 1 dX5_copyFrom_41 rfl (show zG P G _ _ 42 _ _ from ?_)
  refine z_get ok fd_105 h_a1 (Or.inl rfl) tf_X5_27 dX5_copyFrom_42 (show zG P G _ _ 45 _ _ from ?_)
  refine z_put ok fd_105 h_a0 (Or.inl rfl) tf_X5_27 dX5_copyFrom_45 (fun m45 => (show zG P G _ _ 48 _ _ from ?_))
  refine z_aload_n ok 0 dX5_copyFrom_48 rfl (show zG P G _ _ 49 _ _ from ?_)
  refine z_aload_n ok 1 dX5_copyFrom_49 rfl (show zG P G _ _ 50 _ _ from ?_)
  refine z_get ok fd_106 h_a1 (Or.inl rfl) tf_X5_37 dX5_copyFrom_50 (show zG P G _ _ 53 _ _ from ?_)
  refine z_put ok fd_106 h_a0 (Or.inl rfl) tf_X5_37 dX5_copyFrom_53 (fun m53 => (show zG P G _ _ 56 _ _ from ?_))
  refine z_aload_n ok 0 dX5_copyFrom_56 rfl (show zG P G _ _ 57 _ _ from ?_)
  refine z_aload_n ok 1 dX5_copyFrom_57 rfl (show zG P G _ _ 58 _ _ from ?_)
  refine z_get ok fd_107 h_a1 (Or.inl rfl) tf_X5_40 dX5_copyFrom_58 (show zG P G _ _ 61 _ _ from ?_)
  refine z_put ok fd_107 h_a0 (Or.inl rfl) tf_X5_40 dX5_copyFrom_61 (fun m61 => (show zG P G _ _ 64 _ _ from ?_))
  refine z_iconst ok (0 : Int32) dX5_copyFrom_64 (by decide) (show zG P G _ _ 65 _ _ from ?_)
  refine z_istore_n0 ok [(2, .int (0 : Int32)), (0, .ref a0), (1, .ref a1)] dX5_copyFrom_65 (by decide) rfl (show zG P G _ _ 66 _ _ from ?_)
  exact z_sub [1, 2, 0] [(0, .ref a0), (1, .ref a1), (2, .int (0 : Int32))] rfl (t_X5_copyFrom_b66 ok zfuel _ _ _ _ h_a0 h_a1)
set_option maxRecDepth 100000 in
set_option maxHeartbeats 4000000 in
theorem t_X1_copyFrom_b77 {P : zSt} {G : zC} (ok : zOK P G RX1 cX1_copyFrom 3 3 65 none)  : ∀ (n : Nat) (a0 : Nat) (a1 : Nat) (x2 : Int32) (m : zM) (h_a0 : zT P 1 a0) (h_a1 : zT P 1 a1), zG P G (f_X1_copyFrom_b77 P n a0 a1 x2 m) m 77 [(0, .ref a0), (1, .ref a1), (2, .int x2)] [] := by
  intro n
  induction n with
  | zero =>
    intros
    exact zG_none
  | succ n ih =>
    intro a0 a1 x2 m h_a0 h_a1
    unfold f_X1_copyFrom_b77
    have hr_77 := ih
    refine z_iload_n ok 2 dX1_copyFrom_77 rfl (show zG P G _ _ 78 _ _ from ?_)
    refine z_aload_n ok 0 dX1_copyFrom_78 rfl (show zG P G _ _ 79 _ _ from ?_)
    refine z_get ok fd_24 h_a0 (Or.inl rfl) tf_X1_53 dX1_copyFrom_79 (show zG P G _ _ 82 _ _ from ?_)
    refine z_icmp_ge ok 106 dX1_copyFrom_82 (by decide) ?_ (show zG P G _ _ 85 _ _ from ?_)
    · refine z_aload_n ok 0 dX1_copyFrom_106 rfl (show zG P G _ _ 107 _ _ from ?_)
      refine z_aload_n ok 1 dX1_copyFrom_107 rfl (show zG P G _ _ 108 _ _ from ?_)
      refine z_get ok fd_25 h_a1 (Or.inl rfl) tf_X1_29 dX1_copyFrom_108 (show zG P G _ _ 111 _ _ from ?_)
      refine z_put ok fd_25 h_a0 (Or.inl rfl) tf_X1_29 dX1_copyFrom_111 (fun m111 => (show zG P G _ _ 114 _ _ from ?_))
      refine z_aload_n ok 0 dX1_copyFrom_114 rfl (show zG P G _ _ 115 _ _ from ?_)
      refine z_aload_n ok 1 dX1_copyFrom_115 rfl (show zG P G _ _ 116 _ _ from ?_)
      refine z_get ok fd_26 h_a1 (Or.inl rfl) tf_X1_59 dX1_copyFrom_116 (show zG P G _ _ 119 _ _ from ?_)
      refine z_put ok fd_26 h_a0 (Or.inl rfl) tf_X1_59 dX1_copyFrom_119 (fun m119 => (show zG P G _ _ 122 _ _ from ?_))
      refine z_aload_n ok 0 dX1_copyFrom_122 rfl (show zG P G _ _ 123 _ _ from ?_)
      refine z_aload_n ok 1 dX1_copyFrom_123 rfl (show zG P G _ _ 124 _ _ from ?_)
      refine z_get ok fd_27 h_a1 (Or.inl rfl) tf_X1_62 dX1_copyFrom_124 (show zG P G _ _ 127 _ _ from ?_)
      refine z_put ok fd_27 h_a0 (Or.inl rfl) tf_X1_62 dX1_copyFrom_127 (fun m127 => (show zG P G _ _ 130 _ _ from ?_))
      refine z_aload_n ok 0 dX1_copyFrom_130 rfl (show zG P G _ _ 131 _ _ from ?_)
      refine z_aload_n ok 1 dX1_copyFrom_131 rfl (show zG P G _ _ 132 _ _ from ?_)
      refine z_get ok fd_28 h_a1 (Or.inl rfl) tf_X1_65 dX1_copyFrom_132 (show zG P G _ _ 135 _ _ from ?_)
      refine z_put ok fd_28 h_a0 (Or.inl rfl) tf_X1_65 dX1_copyFrom_135 (fun m135 => (show zG P G _ _ 138 _ _ from ?_))
      refine z_aload_n ok 0 dX1_copyFrom_138 rfl (show zG P G _ _ 139 _ _ from ?_)
      refine z_aload_n ok 1 dX1_copyFrom_139 rfl (show zG P G _ _ 140 _ _ from ?_)
      refine z_get ok fd_29 h_a1 (Or.inl rfl) tf_X1_68 dX1_copyFrom_140 (show zG P G _ _ 143 _ _ from ?_)
      refine z_put ok fd_29 h_a0 (Or.inl rfl) tf_X1_68 dX1_copyFrom_143 (fun m143 => (show zG P G _ _ 146 _ _ from ?_))
      refine z_aload_n ok 0 dX1_copyFrom_146 rfl (show zG P G _ _ 147 _ _ from ?_)
      refine z_aload_n ok 1 dX1_copyFrom_147 rfl (show zG P G _ _ 148 _ _ from ?_)
      refine z_get ok fd_30 h_a1 (Or.inl rfl) tf_X1_71 dX1_copyFrom_148 (show zG P G _ _ 151 _ _ from ?_)
      refine z_put ok fd_30 h_a0 (Or.inl rfl) tf_X1_71 dX1_copyFrom_151 (fun m151 => (show zG P G _ _ 154 _ _ from ?_))
      refine z_aload_n ok 0 dX1_copyFrom_154 rfl (show zG P G _ _ 155 _ _ from ?_)
      refine z_aload_n ok 1 dX1_copyFrom_155 rfl (show zG P G _ _ 156 _ _ from ?_)
      refine z_get ok fd_31 h_a1 (Or.inl rfl) tf_X1_74 dX1_copyFrom_156 (show zG P G _ _ 159 _ _ from ?_)
      refine z_put ok fd_31 h_a0 (Or.inl rfl) tf_X1_74 dX1_copyFrom_159 (fun m159 => (show zG P G _ _ 162 _ _ from ?_))
      refine z_aload_n ok 0 dX1_copyFrom_162 rfl (show zG P G _ _ 163 _ _ from ?_)
      refine z_aload_n ok 1 dX1_copyFrom_163 rfl (show zG P G _ _ 164 _ _ from ?_)
      refine z_get ok fd_32 h_a1 (Or.inl rfl) tf_X1_77 dX1_copyFrom_164 (show zG P G _ _ 167 _ _ from ?_)
      refine z_put ok fd_32 h_a0 (Or.inl rfl) tf_X1_77 dX1_copyFrom_167 (fun m167 => (show zG P G _ _ 170 _ _ from ?_))
      refine z_aload_n ok 0 dX1_copyFrom_170 rfl (show zG P G _ _ 171 _ _ from ?_)
      refine z_aload_n ok 1 dX1_copyFrom_171 rfl (show zG P G _ _ 172 _ _ from ?_)
      refine z_get ok fd_33 h_a1 (Or.inl rfl) tf_X1_80 dX1_copyFrom_172 (show zG P G _ _ 175 _ _ from ?_)
      refine z_put ok fd_33 h_a0 (Or.inl rfl) tf_X1_80 dX1_copyFrom_175 (fun m175 => (show zG P G _ _ 178 _ _ from ?_))
      refine z_aload_n ok 0 dX1_copyFrom_178 rfl (show zG P G _ _ 179 _ _ from ?_)
      refine z_aload_n ok 1 dX1_copyFrom_179 rfl (show zG P G _ _ 180 _ _ from ?_)
      refine z_get ok fd_34 h_a1 (Or.inl rfl) tf_X1_83 dX1_copyFrom_180 (show zG P G _ _ 183 _ _ from ?_)
      refine z_put ok fd_34 h_a0 (Or.inl rfl) tf_X1_83 dX1_copyFrom_183 (fun m183 => (show zG P G _ _ 186 _ _ from ?_))
      exact z_vret ok dX1_copyFrom_186
    · refine z_aload_n ok 0 dX1_copyFrom_85 rfl (show zG P G _ _ 86 _ _ from ?_)
      refine z_getR ok fd_23 h_a0 (Or.inl rfl) tf_X1_25 dX1_copyFrom_86 (fun b86 h_b86 => (show zG P G _ _ 89 _ _ from ?_))
      refine z_iload_n ok 2 dX1_copyFrom_89 rfl (show zG P G _ _ 90 _ _ from ?_)
      refine z_aald ok ek_14 h_b86 dX1_copyFrom_90 (fun b90 h_b90 => (show zG P G _ _ 91 _ _ from ?_))
      refine z_aload_n ok 1 dX1_copyFrom_91 rfl (show zG P G _ _ 92 _ _ from ?_)
      refine z_getR ok fd_23 h_a1 (Or.inl rfl) tf_X1_25 dX1_copyFrom_92 (fun b92 h_b92 => (show zG P G _ _ 95 _ _ from ?_))
      refine z_iload_n ok 2 dX1_copyFrom_95 rfl (show zG P G _ _ 96 _ _ from ?_)
      refine z_aald ok ek_14 h_b92 dX1_copyFrom_96 (fun b96 h_b96 => (show zG P G _ _ 97 _ _ from ?_))
      refine z_callVv ok [.ref b96] (m_X3_copyFrom _ ok.p h_b90 h_b96) cv_X1_56 h_b90 rfl (by decide) rfl (Nat.le_of_ble_eq_true rfl) rfl dX1_copyFrom_97 (fun _ m97 => (show zG P G _ _ 100 _ _ from ?_))
      refine z_iinc ok (fun v100 => [(2, .int v100), (0, .ref a0), (1, .ref a1)]) 2 dX1_copyFrom_100 rfl (by decide) (by decide) (fun _ => rfl) (fun v100 => (show zG P G _ _ 103 _ _ from ?_))
      refine z_goto ok 77 dX1_copyFrom_103 (by decide) ?_
      exact z_sub [1, 2, 0] [(0, .ref a0), (1, .ref a1), (2, .int v100)] rfl (hr_77 _ _ _ _ h_a0 h_a1)
set_option maxRecDepth 100000 in
set_option maxHeartbeats 4000000 in
theorem t_X1_copyFrom_b41 {P : zSt} {G : zC} (ok : zOK P G RX1 cX1_copyFrom 3 3 65 none)  : ∀ (n : Nat) (a0 : Nat) (a1 : Nat) (x2 : Int32) (m : zM) (h_a0 : zT P 1 a0) (h_a1 : zT P 1 a1), zG P G (f_X1_copyFrom_b41 P n a0 a1 x2 m) m 41 [(0, .ref a0), (1, .ref a1), (2, .int x2)] [] := by
  intro n
  induction n with
  | zero =>
    intros
    exact zG_none
  | succ n ih =>
    intro a0 a1 x2 m h_a0 h_a1
    unfold f_X1_copyFrom_b41
    have hr_41 := ih
    refine z_iload_n ok 2 dX1_copyFrom_41 rfl (show zG P G _ _ 42 _ _ from ?_)
    refine z_iconst ok (4 : Int32) dX1_copyFrom_42 (by decide) (show zG P G _ _ 43 _ _ from ?_)
    refine z_icmp_ge ok 67 dX1_copyFrom_43 (by decide) ?_ (show zG P G _ _ 46 _ _ from ?_)
    · refine z_aload_n ok 0 dX1_copyFrom_67 rfl (show zG P G _ _ 68 _ _ from ?_)
      refine z_aload_n ok 1 dX1_copyFrom_68 rfl (show zG P G _ _ 69 _ _ from ?_)
      refine z_get ok fd_24 h_a1 (Or.inl rfl) tf_X1_53 dX1_copyFrom_69 (show zG P G _ _ 72 _ _ from ?_)
      refine z_put ok fd_24 h_a0 (Or.inl rfl) tf_X1_53 dX1_copyFrom_72 (fun m72 => (show zG P G _ _ 75 _ _ from ?_))
      refine z_iconst ok (0 : Int32) dX1_copyFrom_75 (by decide) (show zG P G _ _ 76 _ _ from ?_)
      refine z_istore_n0 ok [(2, .int (0 : Int32)), (0, .ref a0), (1, .ref a1)] dX1_copyFrom_76 (by decide) rfl (show zG P G _ _ 77 _ _ from ?_)
      exact z_sub [1, 2, 0] [(0, .ref a0), (1, .ref a1), (2, .int (0 : Int32))] rfl (t_X1_copyFrom_b77 ok zfuel _ _ _ _ h_a0 h_a1)
    · refine z_aload_n ok 0 dX1_copyFrom_46 rfl (show zG P G _ _ 47 _ _ from ?_)
      refine z_getR ok fd_22 h_a0 (Or.inl rfl) tf_X1_19 dX1_copyFrom_47 (fun b47 h_b47 => (show zG P G _ _ 50 _ _ from ?_))
      refine z_iload_n ok 2 dX1_copyFrom_50 rfl (show zG P G _ _ 51 _ _ from ?_)
      refine z_aald ok ek_15 h_b47 dX1_copyFrom_51 (fun b51 h_b51 => (show zG P G _ _ 52 _ _ from ?_))
      refine z_aload_n ok 1 dX1_copyFrom_52 rfl (show zG P G _ _ 53 _ _ from ?_)
      refine z_getR ok fd_22 h_a1 (Or.inl rfl) tf_X1_19 dX1_copyFrom_53 (fun b53 h_b53 => (show zG P G _ _ 56 _ _ from ?_))
      refine z_iload_n ok 2 dX1_copyFrom_56 rfl (show zG P G _ _ 57 _ _ from ?_)
      refine z_aald ok ek_15 h_b53 dX1_copyFrom_57 (fun b57 h_b57 => (show zG P G _ _ 58 _ _ from ?_))
      refine z_callVv ok [.ref b57] (m_X5_copyFrom _ ok.p h_b51 h_b57) cv_X1_50 h_b51 rfl (by decide) rfl (Nat.le_of_ble_eq_true rfl) rfl dX1_copyFrom_58 (fun _ m58 => (show zG P G _ _ 61 _ _ from ?_))
      refine z_iinc ok (fun v61 => [(2, .int v61), (0, .ref a0), (1, .ref a1)]) 2 dX1_copyFrom_61 rfl (by decide) (by decide) (fun _ => rfl) (fun v61 => (show zG P G _ _ 64 _ _ from ?_))
      refine z_goto ok 41 dX1_copyFrom_64 (by decide) ?_
      exact z_sub [1, 2, 0] [(0, .ref a0), (1, .ref a1), (2, .int v61)] rfl (hr_41 _ _ _ _ h_a0 h_a1)
set_option maxRecDepth 100000 in
set_option maxHeartbeats 4000000 in
theorem t_X1_copyFrom_b10 {P : zSt} {G : zC} (ok : zOK P G RX1 cX1_copyFrom 3 3 65 none)  : ∀ (n : Nat) (a0 : Nat) (a1 : Nat) (x2 : Int32) (m : zM) (h_a0 : zT P 1 a0) (h_a1 : zT P 1 a1), zG P G (f_X1_copyFrom_b10 P n a0 a1 x2 m) m 10 [(0, .ref a0), (1, .ref a1), (2, .int x2)] [] := by
  intro n
  induction n with
  | zero =>
    intros
    exact zG_none
  | succ n ih =>
    intro a0 a1 x2 m h_a0 h_a1
    unfold f_X1_copyFrom_b10
    have hr_10 := ih
    refine z_iload_n ok 2 dX1_copyFrom_10 rfl (show zG P G _ _ 11 _ _ from ?_)
    refine z_aload_n ok 0 dX1_copyFrom_11 rfl (show zG P G _ _ 12 _ _ from ?_)
    refine z_get ok fd_21 h_a0 (Or.inl rfl) tf_X1_43 dX1_copyFrom_12 (show zG P G _ _ 15 _ _ from ?_)
    refine z_icmp_ge ok 39 dX1_copyFrom_15 (by decide) ?_ (show zG P G _ _ 18 _ _ from ?_)
    · refine z_iconst ok (0 : Int32) dX1_copyFrom_39 (by decide) (show zG P G _ _ 40 _ _ from ?_)
      refine z_istore_n0 ok [(2, .int (0 : Int32)), (0, .ref a0), (1, .ref a1)] dX1_copyFrom_40 (by decide) rfl (show zG P G _ _ 41 _ _ from ?_)
      exact z_sub [1, 2, 0] [(0, .ref a0), (1, .ref a1), (2, .int (0 : Int32))] rfl (t_X1_copyFrom_b41 ok zfuel _ _ _ _ h_a0 h_a1)
    · refine z_aload_n ok 0 dX1_copyFrom_18 rfl (show zG P G _ _ 19 _ _ from ?_)
      refine z_getR ok fd_20 h_a0 (Or.inl rfl) tf_X1_11 dX1_copyFrom_19 (fun b19 h_b19 => (show zG P G _ _ 22 _ _ from ?_))
      refine z_iload_n ok 2 dX1_copyFrom_22 rfl (show zG P G _ _ 23 _ _ from ?_)
      refine z_aald ok ek_13 h_b19 dX1_copyFrom_23 (fun b23 h_b23 => (show zG P G _ _ 24 _ _ from ?_))
      refine z_aload_n ok 1 dX1_copyFrom_24 rfl (show zG P G _ _ 25 _ _ from ?_)
      refine z_getR ok fd_20 h_a1 (Or.inl rfl) tf_X1_11 dX1_copyFrom_25 (fun b25 h_b25 => (show zG P G _ _ 28 _ _ from ?_))
      refine z_iload_n ok 2 dX1_copyFrom_28 rfl (show zG P G _ _ 29 _ _ from ?_)
      refine z_aald ok ek_13 h_b25 dX1_copyFrom_29 (fun b29 h_b29 => (show zG P G _ _ 30 _ _ from ?_))
      refine z_callVv ok [.ref b29] (m_X0_copyFrom _ ok.p h_b23 h_b29) cv_X1_46 h_b23 rfl (by decide) rfl (Nat.le_of_ble_eq_true rfl) rfl dX1_copyFrom_30 (fun _ m30 => (show zG P G _ _ 33 _ _ from ?_))
      refine z_iinc ok (fun v33 => [(2, .int v33), (0, .ref a0), (1, .ref a1)]) 2 dX1_copyFrom_33 rfl (by decide) (by decide) (fun _ => rfl) (fun v33 => (show zG P G _ _ 36 _ _ from ?_))
      refine z_goto ok 10 dX1_copyFrom_36 (by decide) ?_
      exact z_sub [1, 2, 0] [(0, .ref a0), (1, .ref a1), (2, .int v33)] rfl (hr_10 _ _ _ _ h_a0 h_a1)
set_option maxRecDepth 100000 in
set_option maxHeartbeats 4000000 in
theorem m_X1_copyFrom (l : Launch) {P : zSt} (hP : zOKP P) {a0 : Nat} {a1 : Nat} (h_a0 : zT P 1 a0) (h_a1 : zT P 1 a1) : zMet l P yX1_copyFrom cX1_copyFrom 3 3 65 none [.ref a0, .ref a1] (fun m => f_X1_copyFrom P a0 a1 m) := by
  refine zMet.of hP (by decide +kernel) RX1 rfl [(0, .ref a0), (1, .ref a1)] (fun h => h) (Nat.le_of_ble_eq_true rfl) (fun G m ok => ?_)
  show zG P G (f_X1_copyFrom P a0 a1 m) m 0 _ []
  unfold f_X1_copyFrom
  refine z_aload_n ok 0 dX1_copyFrom_0 rfl (show zG P G _ _ 1 _ _ from ?_)
  refine z_aload_n ok 1 dX1_copyFrom_1 rfl (show zG P G _ _ 2 _ _ from ?_)
  refine z_get ok fd_21 h_a1 (Or.inl rfl) tf_X1_43 dX1_copyFrom_2 (show zG P G _ _ 5 _ _ from ?_)
  refine z_put ok fd_21 h_a0 (Or.inl rfl) tf_X1_43 dX1_copyFrom_5 (fun m5 => (show zG P G _ _ 8 _ _ from ?_))
  refine z_iconst ok (0 : Int32) dX1_copyFrom_8 (by decide) (show zG P G _ _ 9 _ _ from ?_)
  refine z_istore_n0 ok [(2, .int (0 : Int32)), (0, .ref a0), (1, .ref a1)] dX1_copyFrom_9 (by decide) rfl (show zG P G _ _ 10 _ _ from ?_)
  exact z_sub [1, 2, 0] [(0, .ref a0), (1, .ref a1), (2, .int (0 : Int32))] rfl (t_X1_copyFrom_b10 ok zfuel _ _ _ _ h_a0 h_a1)
set_option maxRecDepth 100000 in
set_option maxHeartbeats 4000000 in
theorem t_X10_isWithin_b14 {P : zSt} {G : zC} (ok : zOK P G RX10 cX10_isWithin 3 0 0 (some .boolean))   {m : zM}  : zG P G (f_X10_isWithin_b14 P  m) m 14 [] [] := by
  unfold f_X10_isWithin_b14
  refine z_iconst ok (0 : Int32) dX10_isWithin_14 (by decide) (show zG P G _ _ 15 _ _ from ?_)
  exact z_zret ok dX10_isWithin_15
set_option maxRecDepth 100000 in
set_option maxHeartbeats 4000000 in
theorem m_X10_isWithin (l : Launch) {P : zSt} (hP : zOKP P) {i0 : Int32} {i1 : Int32} {i2 : Int32}  : zMet l P yX10_isWithin cX10_isWithin 3 0 0 (some .boolean) [.int i0, .int i1, .int i2] (fun m => f_X10_isWithin P i0 i1 i2 m) := by
  refine zMet.of hP (by decide +kernel) RX10 rfl [(0, .int i0), (1, .int i1), (2, .int i2)] (fun h => h) (Nat.le_of_ble_eq_true rfl) (fun G m ok => ?_)
  show zG P G (f_X10_isWithin P i0 i1 i2 m) m 0 _ []
  unfold f_X10_isWithin
  refine z_iload_n ok 0 dX10_isWithin_0 rfl (show zG P G _ _ 1 _ _ from ?_)
  refine z_iload_n ok 1 dX10_isWithin_1 rfl (show zG P G _ _ 2 _ _ from ?_)
  refine z_icmp_lt ok 14 dX10_isWithin_2 (by decide) ?_ (show zG P G _ _ 5 _ _ from ?_)
  · exact z_sub [] [] rfl (t_X10_isWithin_b14 ok)
  · refine z_iload_n ok 0 dX10_isWithin_5 rfl (show zG P G _ _ 6 _ _ from ?_)
    refine z_iload_n ok 2 dX10_isWithin_6 rfl (show zG P G _ _ 7 _ _ from ?_)
    refine z_icmp_gt ok 14 dX10_isWithin_7 (by decide) ?_ (show zG P G _ _ 10 _ _ from ?_)
    · exact z_sub [] [] rfl (t_X10_isWithin_b14 ok)
    · refine z_iconst ok (1 : Int32) dX10_isWithin_10 (by decide) (show zG P G _ _ 11 _ _ from ?_)
      refine z_goto ok 15 dX10_isWithin_11 (by decide) ?_
      exact z_zret ok dX10_isWithin_15
set_option maxRecDepth 100000 in
set_option maxHeartbeats 4000000 in
theorem m_X1_hasBackend (l : Launch) {P : zSt} (hP : zOKP P) {a0 : Nat} {i1 : Int32} (h_a0 : zT P 1 a0) : zMet l P yX1_hasBackend cX1_hasBackend 2 1 22 (some .boolean) [.ref a0, .int i1] (fun m => f_X1_hasBackend P a0 i1 m) := by
  refine zMet.of hP (by decide +kernel) RX1 rfl [(0, .ref a0), (1, .int i1)] (fun h => h) (Nat.le_of_ble_eq_true rfl) (fun G m ok => ?_)
  show zG P G (f_X1_hasBackend P a0 i1 m) m 0 _ []
  unfold f_X1_hasBackend
  refine z_iload_n ok 1 dX1_hasBackend_0 rfl (show zG P G _ _ 1 _ _ from ?_)
  refine z_iconst ok (0 : Int32) dX1_hasBackend_1 (by decide) (show zG P G _ _ 2 _ _ from ?_)
  refine z_aload_n ok 0 dX1_hasBackend_2 rfl (show zG P G _ _ 3 _ _ from ?_)
  refine z_get ok fd_21 h_a0 (Or.inl rfl) tf_X1_43 dX1_hasBackend_3 (show zG P G _ _ 6 _ _ from ?_)
  refine z_iconst ok (1 : Int32) dX1_hasBackend_6 (by decide) (show zG P G _ _ 7 _ _ from ?_)
  refine z_isub ok dX1_hasBackend_7 (show zG P G _ _ 8 _ _ from ?_)
  refine z_callSi ok [.int i1, .int (0 : Int32), .int ((zf m 21 a0) - (1 : Int32))] (m_X10_isWithin _ ok.p) cv_X1_86 rfl (by decide) rfl (Nat.le_of_ble_eq_true rfl) rfl dX1_hasBackend_8 (fun r8 m8 => (show zG P G _ _ 11 _ _ from ?_))
  exact z_zret ok dX1_hasBackend_11
set_option maxRecDepth 100000 in
set_option maxHeartbeats 4000000 in
theorem m_X1_hasRule (l : Launch) {P : zSt} (hP : zOKP P) {a0 : Nat} {i1 : Int32} (h_a0 : zT P 1 a0) : zMet l P yX1_hasRule cX1_hasRule 2 1 22 (some .boolean) [.ref a0, .int i1] (fun m => f_X1_hasRule P a0 i1 m) := by
  refine zMet.of hP (by decide +kernel) RX1 rfl [(0, .ref a0), (1, .int i1)] (fun h => h) (Nat.le_of_ble_eq_true rfl) (fun G m ok => ?_)
  show zG P G (f_X1_hasRule P a0 i1 m) m 0 _ []
  unfold f_X1_hasRule
  refine z_iload_n ok 1 dX1_hasRule_0 rfl (show zG P G _ _ 1 _ _ from ?_)
  refine z_iconst ok (0 : Int32) dX1_hasRule_1 (by decide) (show zG P G _ _ 2 _ _ from ?_)
  refine z_aload_n ok 0 dX1_hasRule_2 rfl (show zG P G _ _ 3 _ _ from ?_)
  refine z_get ok fd_24 h_a0 (Or.inl rfl) tf_X1_53 dX1_hasRule_3 (show zG P G _ _ 6 _ _ from ?_)
  refine z_iconst ok (1 : Int32) dX1_hasRule_6 (by decide) (show zG P G _ _ 7 _ _ from ?_)
  refine z_isub ok dX1_hasRule_7 (show zG P G _ _ 8 _ _ from ?_)
  refine z_callSi ok [.int i1, .int (0 : Int32), .int ((zf m 24 a0) - (1 : Int32))] (m_X10_isWithin _ ok.p) cv_X1_86 rfl (by decide) rfl (Nat.le_of_ble_eq_true rfl) rfl dX1_hasRule_8 (fun r8 m8 => (show zG P G _ _ 11 _ _ from ?_))
  exact z_zret ok dX1_hasRule_11
set_option maxRecDepth 100000 in
set_option maxHeartbeats 4000000 in
theorem m_X1_takeBackend (l : Launch) {P : zSt} (hP : zOKP P) {a0 : Nat} {i1 : Int32} {i2 : Int32} {i3 : Int32} (h_a0 : zT P 1 a0) : zMet l P yX1_takeBackend cX1_takeBackend 4 1 23 (some .int) [.ref a0, .int i1, .int i2, .int i3] (fun m => f_X1_takeBackend P a0 i1 i2 i3 m) := by
  refine zMet.of hP (by decide +kernel) RX1 rfl [(0, .ref a0), (1, .int i1), (2, .int i2), (3, .int i3)] (fun h => h) (Nat.le_of_ble_eq_true rfl) (fun G m ok => ?_)
  show zG P G (f_X1_takeBackend P a0 i1 i2 i3 m) m 0 _ []
  unfold f_X1_takeBackend
  refine z_aload_n ok 0 dX1_takeBackend_0 rfl (show zG P G _ _ 1 _ _ from ?_)
  refine z_getR ok fd_20 h_a0 (Or.inl rfl) tf_X1_11 dX1_takeBackend_1 (fun b1 h_b1 => (show zG P G _ _ 4 _ _ from ?_))
  refine z_aload_n ok 0 dX1_takeBackend_4 rfl (show zG P G _ _ 5 _ _ from ?_)
  refine z_get ok fd_21 h_a0 (Or.inl rfl) tf_X1_43 dX1_takeBackend_5 (show zG P G _ _ 8 _ _ from ?_)
  refine z_aald ok ek_13 h_b1 dX1_takeBackend_8 (fun b8 h_b8 => (show zG P G _ _ 9 _ _ from ?_))
  refine z_iload_n ok 1 dX1_takeBackend_9 rfl (show zG P G _ _ 10 _ _ from ?_)
  refine z_iload_n ok 2 dX1_takeBackend_10 rfl (show zG P G _ _ 11 _ _ from ?_)
  refine z_iload_n ok 3 dX1_takeBackend_11 rfl (show zG P G _ _ 12 _ _ from ?_)
  refine z_callVv ok [.int i1, .int i2, .int i3] (m_X0_begin _ ok.p h_b8) cv_X1_90 h_b8 rfl (by decide) rfl (Nat.le_of_ble_eq_true rfl) rfl dX1_takeBackend_12 (fun _ m12 => (show zG P G _ _ 15 _ _ from ?_))
  refine z_aload_n ok 0 dX1_takeBackend_15 rfl (show zG P G _ _ 16 _ _ from ?_)
  refine z_dup ok dX1_takeBackend_16 rfl (show zG P G _ _ 17 _ _ from ?_)
  refine z_get ok fd_21 h_a0 (Or.inl rfl) tf_X1_43 dX1_takeBackend_17 (show zG P G _ _ 20 _ _ from ?_)
  refine z_iconst ok (1 : Int32) dX1_takeBackend_20 (by decide) (show zG P G _ _ 21 _ _ from ?_)
  refine z_iadd ok dX1_takeBackend_21 (show zG P G _ _ 22 _ _ from ?_)
  refine z_put ok fd_21 h_a0 (Or.inl rfl) tf_X1_43 dX1_takeBackend_22 (fun m22 => (show zG P G _ _ 25 _ _ from ?_))
  refine z_aload_n ok 0 dX1_takeBackend_25 rfl (show zG P G _ _ 26 _ _ from ?_)
  refine z_get ok fd_21 h_a0 (Or.inl rfl) tf_X1_43 dX1_takeBackend_26 (show zG P G _ _ 29 _ _ from ?_)
  refine z_iconst ok (1 : Int32) dX1_takeBackend_29 (by decide) (show zG P G _ _ 30 _ _ from ?_)
  refine z_isub ok dX1_takeBackend_30 (show zG P G _ _ 31 _ _ from ?_)
  exact z_iret ok dX1_takeBackend_31
set_option maxRecDepth 100000 in
set_option maxHeartbeats 4000000 in
theorem m_X1_takeRule (l : Launch) {P : zSt} (hP : zOKP P) {a0 : Nat} {a1 : Nat} (h_a0 : zT P 1 a0) (h_a1 : zT P 3 a1) : zMet l P yX1_takeRule cX1_takeRule 2 3 65 (some .int) [.ref a0, .ref a1] (fun m => f_X1_takeRule P a0 a1 m) := by
  refine zMet.of hP (by decide +kernel) RX1 rfl [(0, .ref a0), (1, .ref a1)] (fun h => h) (Nat.le_of_ble_eq_true rfl) (fun G m ok => ?_)
  show zG P G (f_X1_takeRule P a0 a1 m) m 0 _ []
  unfold f_X1_takeRule
  refine z_aload_n ok 0 dX1_takeRule_0 rfl (show zG P G _ _ 1 _ _ from ?_)
  refine z_getR ok fd_23 h_a0 (Or.inl rfl) tf_X1_25 dX1_takeRule_1 (fun b1 h_b1 => (show zG P G _ _ 4 _ _ from ?_))
  refine z_aload_n ok 0 dX1_takeRule_4 rfl (show zG P G _ _ 5 _ _ from ?_)
  refine z_get ok fd_24 h_a0 (Or.inl rfl) tf_X1_53 dX1_takeRule_5 (show zG P G _ _ 8 _ _ from ?_)
  refine z_aald ok ek_14 h_b1 dX1_takeRule_8 (fun b8 h_b8 => (show zG P G _ _ 9 _ _ from ?_))
  refine z_aload_n ok 1 dX1_takeRule_9 rfl (show zG P G _ _ 10 _ _ from ?_)
  refine z_callVv ok [.ref a1] (m_X3_copyFrom _ ok.p h_b8 h_a1) cv_X1_56 h_b8 rfl (by decide) rfl (Nat.le_of_ble_eq_true rfl) rfl dX1_takeRule_10 (fun _ m10 => (show zG P G _ _ 13 _ _ from ?_))
  refine z_aload_n ok 0 dX1_takeRule_13 rfl (show zG P G _ _ 14 _ _ from ?_)
  refine z_dup ok dX1_takeRule_14 rfl (show zG P G _ _ 15 _ _ from ?_)
  refine z_get ok fd_24 h_a0 (Or.inl rfl) tf_X1_53 dX1_takeRule_15 (show zG P G _ _ 18 _ _ from ?_)
  refine z_iconst ok (1 : Int32) dX1_takeRule_18 (by decide) (show zG P G _ _ 19 _ _ from ?_)
  refine z_iadd ok dX1_takeRule_19 (show zG P G _ _ 20 _ _ from ?_)
  refine z_put ok fd_24 h_a0 (Or.inl rfl) tf_X1_53 dX1_takeRule_20 (fun m20 => (show zG P G _ _ 23 _ _ from ?_))
  refine z_aload_n ok 0 dX1_takeRule_23 rfl (show zG P G _ _ 24 _ _ from ?_)
  refine z_get ok fd_24 h_a0 (Or.inl rfl) tf_X1_53 dX1_takeRule_24 (show zG P G _ _ 27 _ _ from ?_)
  refine z_iconst ok (1 : Int32) dX1_takeRule_27 (by decide) (show zG P G _ _ 28 _ _ from ?_)
  refine z_isub ok dX1_takeRule_28 (show zG P G _ _ 29 _ _ from ?_)
  exact z_iret ok dX1_takeRule_29
set_option maxRecDepth 100000 in
set_option maxHeartbeats 4000000 in
theorem t_X1_shiftRule_b41 {P : zSt} {G : zC} (ok : zOK P G RX1 cX1_shiftRule 5 0 0 none)  : ∀ (n : Nat) (a0 : Nat) (x2 : Int32) (a3 : Nat) (x4 : Int32) (m : zM) (h_a0 : zT P 1 a0) (h_a3 : zT P 3 a3), zG P G (f_X1_shiftRule_b41 P n a0 x2 a3 x4 m) m 41 [(0, .ref a0), (2, .int x2), (3, .ref a3), (4, .int x4)] [] := by
  intro n
  induction n with
  | zero =>
    intros
    exact zG_none
  | succ n ih =>
    intro a0 x2 a3 x4 m h_a0 h_a3
    unfold f_X1_shiftRule_b41
    have hr_41 := ih
    refine z_iload ok 3 dX1_shiftRule_41 rfl (show zG P G _ _ 43 _ _ from ?_)
    refine z_iload_n ok 1 dX1_shiftRule_43 rfl (show zG P G _ _ 44 _ _ from ?_)
    refine z_icmp_le ok 69 dX1_shiftRule_44 (by decide) ?_ (show zG P G _ _ 47 _ _ from ?_)
    · refine z_aload_n ok 0 dX1_shiftRule_69 rfl (show zG P G _ _ 70 _ _ from ?_)
      refine z_getR ok fd_23 h_a0 (Or.inl rfl) tf_X1_25 dX1_shiftRule_70 (fun b70 h_b70 => (show zG P G _ _ 73 _ _ from ?_))
      refine z_iload_n ok 1 dX1_shiftRule_73 rfl (show zG P G _ _ 74 _ _ from ?_)
      refine z_aload_n ok 2 dX1_shiftRule_74 rfl (show zG P G _ _ 75 _ _ from ?_)
      refine z_aast (C := RX3) (T := TX3) (N := 7) ok ek_14 rfl rfl h_b70 h_a3 dX1_shiftRule_75 (fun m75 => (show zG P G _ _ 76 _ _ from ?_))
      exact z_vret ok dX1_shiftRule_76
    · refine z_aload_n ok 0 dX1_shiftRule_47 rfl (show zG P G _ _ 48 _ _ from ?_)
      refine z_getR ok fd_23 h_a0 (Or.inl rfl) tf_X1_25 dX1_shiftRule_48 (fun b48 h_b48 => (show zG P G _ _ 51 _ _ from ?_))
      refine z_iload ok 3 dX1_shiftRule_51 rfl (show zG P G _ _ 53 _ _ from ?_)
      refine z_aload_n ok 0 dX1_shiftRule_53 rfl (show zG P G _ _ 54 _ _ from ?_)
      refine z_getR ok fd_23 h_a0 (Or.inl rfl) tf_X1_25 dX1_shiftRule_54 (fun b54 h_b54 => (show zG P G _ _ 57 _ _ from ?_))
      refine z_iload ok 3 dX1_shiftRule_57 rfl (show zG P G _ _ 59 _ _ from ?_)
      refine z_iconst ok (1 : Int32) dX1_shiftRule_59 (by decide) (show zG P G _ _ 60 _ _ from ?_)
      refine z_isub ok dX1_shiftRule_60 (show zG P G _ _ 61 _ _ from ?_)
      refine z_aald ok ek_14 h_b54 dX1_shiftRule_61 (fun b61 h_b61 => (show zG P G _ _ 62 _ _ from ?_))
      refine z_aast (C := RX3) (T := TX3) (N := 7) ok ek_14 rfl rfl h_b48 h_b61 dX1_shiftRule_62 (fun m62 => (show zG P G _ _ 63 _ _ from ?_))
      refine z_iinc ok (fun v63 => [(4, .int v63), (0, .ref a0), (2, .int x2), (3, .ref a3)]) 3 dX1_shiftRule_63 rfl (by decide) (by decide) (fun _ => rfl) (fun v63 => (show zG P G _ _ 66 _ _ from ?_))
      refine z_goto ok 41 dX1_shiftRule_66 (by decide) ?_
      exact z_sub [1, 2, 3, 0] [(0, .ref a0), (2, .int x2), (3, .ref a3), (4, .int v63)] rfl (hr_41 _ _ _ _ _ h_a0 h_a3)
set_option maxRecDepth 100000 in
set_option maxHeartbeats 4000000 in
theorem t_X1_shiftRule_b10 {P : zSt} {G : zC} (ok : zOK P G RX1 cX1_shiftRule 5 0 0 none)  : ∀ (n : Nat) (a0 : Nat) (x1 : Int32) (x2 : Int32) (a3 : Nat) (x4 : Int32) (m : zM) (h_a0 : zT P 1 a0) (h_a3 : zT P 3 a3), zG P G (f_X1_shiftRule_b10 P n a0 x1 x2 a3 x4 m) m 10 [(0, .ref a0), (1, .int x1), (2, .int x2), (3, .ref a3), (4, .int x4)] [] := by
  intro n
  induction n with
  | zero =>
    intros
    exact zG_none
  | succ n ih =>
    intro a0 x1 x2 a3 x4 m h_a0 h_a3
    unfold f_X1_shiftRule_b10
    have hr_10 := ih
    refine z_iload ok 4 dX1_shiftRule_10 rfl (show zG P G _ _ 12 _ _ from ?_)
    refine z_iload_n ok 2 dX1_shiftRule_12 rfl (show zG P G _ _ 13 _ _ from ?_)
    refine z_icmp_ge ok 38 dX1_shiftRule_13 (by decide) ?_ (show zG P G _ _ 16 _ _ from ?_)
    · refine z_iload_n ok 1 dX1_shiftRule_38 rfl (show zG P G _ _ 39 _ _ from ?_)
      refine z_istore0 ok [(4, .int x1), (0, .ref a0), (1, .int x1), (2, .int x2), (3, .ref a3)] dX1_shiftRule_39 (by decide) rfl (show zG P G _ _ 41 _ _ from ?_)
      exact z_sub [1, 3, 4, 0] [(0, .ref a0), (2, .int x2), (3, .ref a3), (4, .int x1)] rfl (t_X1_shiftRule_b41 ok zfuel _ _ _ _ _ h_a0 h_a3)
    · refine z_aload_n ok 0 dX1_shiftRule_16 rfl (show zG P G _ _ 17 _ _ from ?_)
      refine z_getR ok fd_23 h_a0 (Or.inl rfl) tf_X1_25 dX1_shiftRule_17 (fun b17 h_b17 => (show zG P G _ _ 20 _ _ from ?_))
      refine z_iload ok 4 dX1_shiftRule_20 rfl (show zG P G _ _ 22 _ _ from ?_)
      refine z_aload_n ok 0 dX1_shiftRule_22 rfl (show zG P G _ _ 23 _ _ from ?_)
      refine z_getR ok fd_23 h_a0 (Or.inl rfl) tf_X1_25 dX1_shiftRule_23 (fun b23 h_b23 => (show zG P G _ _ 26 _ _ from ?_))
      refine z_iload ok 4 dX1_shiftRule_26 rfl (show zG P G _ _ 28 _ _ from ?_)
      refine z_iconst ok (1 : Int32) dX1_shiftRule_28 (by decide) (show zG P G _ _ 29 _ _ from ?_)
      refine z_iadd ok dX1_shiftRule_29 (show zG P G _ _ 30 _ _ from ?_)
      refine z_aald ok ek_14 h_b23 dX1_shiftRule_30 (fun b30 h_b30 => (show zG P G _ _ 31 _ _ from ?_))
      refine z_aast (C := RX3) (T := TX3) (N := 7) ok ek_14 rfl rfl h_b17 h_b30 dX1_shiftRule_31 (fun m31 => (show zG P G _ _ 32 _ _ from ?_))
      refine z_iinc ok (fun v32 => [(4, .int v32), (0, .ref a0), (1, .int x1), (2, .int x2), (3, .ref a3)]) 4 dX1_shiftRule_32 rfl (by decide) (by decide) (fun _ => rfl) (fun v32 => (show zG P G _ _ 35 _ _ from ?_))
      refine z_goto ok 10 dX1_shiftRule_35 (by decide) ?_
      exact z_sub [1, 2, 3, 4, 0] [(0, .ref a0), (1, .int x1), (2, .int x2), (3, .ref a3), (4, .int v32)] rfl (hr_10 _ _ _ _ _ _ h_a0 h_a3)
set_option maxRecDepth 100000 in
set_option maxHeartbeats 4000000 in
theorem m_X1_shiftRule (l : Launch) {P : zSt} (hP : zOKP P) {a0 : Nat} {i1 : Int32} {i2 : Int32} (h_a0 : zT P 1 a0) : zMet l P yX1_shiftRule cX1_shiftRule 5 0 0 none [.ref a0, .int i1, .int i2] (fun m => f_X1_shiftRule P a0 i1 i2 m) := by
  refine zMet.of hP (by decide +kernel) RX1 rfl [(0, .ref a0), (1, .int i1), (2, .int i2)] (fun h => h) (Nat.le_of_ble_eq_true rfl) (fun G m ok => ?_)
  show zG P G (f_X1_shiftRule P a0 i1 i2 m) m 0 _ []
  unfold f_X1_shiftRule
  refine z_aload_n ok 0 dX1_shiftRule_0 rfl (show zG P G _ _ 1 _ _ from ?_)
  refine z_getR ok fd_23 h_a0 (Or.inl rfl) tf_X1_25 dX1_shiftRule_1 (fun b1 h_b1 => (show zG P G _ _ 4 _ _ from ?_))
  refine z_iload_n ok 1 dX1_shiftRule_4 rfl (show zG P G _ _ 5 _ _ from ?_)
  refine z_aald ok ek_14 h_b1 dX1_shiftRule_5 (fun b5 h_b5 => (show zG P G _ _ 6 _ _ from ?_))
  refine z_astore_n ok [(3, .ref b5), (0, .ref a0), (1, .int i1), (2, .int i2)] dX1_shiftRule_6 (by decide) rfl (show zG P G _ _ 7 _ _ from ?_)
  refine z_iload_n ok 2 dX1_shiftRule_7 rfl (show zG P G _ _ 8 _ _ from ?_)
  refine z_istore0 ok [(4, .int i1), (3, .ref b5), (0, .ref a0), (1, .int i1), (2, .int i2)] dX1_shiftRule_8 (by decide) rfl (show zG P G _ _ 10 _ _ from ?_)
  exact z_sub [2, 3, 4, 1, 0] [(0, .ref a0), (1, .int i1), (2, .int i2), (3, .ref b5), (4, .int i1)] rfl (t_X1_shiftRule_b10 ok zfuel _ _ _ _ _ _ h_a0 h_b5)
set_option maxRecDepth 100000 in
set_option maxHeartbeats 4000000 in
theorem m_X7_signAt (l : Launch) {P : zSt} (hP : zOKP P) {a0 : Nat} {i1 : Int32} (h_a0 : zT P 7 a0) : zMet l P yX7_signAt cX7_signAt 2 1 22 (some .int) [.ref a0, .int i1] (fun m => f_X7_signAt P a0 i1 m) := by
  refine zMet.of hP (by decide +kernel) RX7 rfl [(0, .ref a0), (1, .int i1)] (fun h => h) (Nat.le_of_ble_eq_true rfl) (fun G m ok => ?_)
  show zG P G (f_X7_signAt P a0 i1 m) m 0 _ []
  unfold f_X7_signAt
  refine z_iload_n ok 1 dX7_signAt_0 rfl (show zG P G _ _ 1 _ _ from ?_)
  refine z_iconst ok (0 : Int32) dX7_signAt_1 (by decide) (show zG P G _ _ 2 _ _ from ?_)
  refine z_aload_n ok 0 dX7_signAt_2 rfl (show zG P G _ _ 3 _ _ from ?_)
  refine z_get ok fd_141 h_a0 (Or.inl rfl) tf_X7_15 dX7_signAt_3 (show zG P G _ _ 6 _ _ from ?_)
  refine z_iconst ok (1 : Int32) dX7_signAt_6 (by decide) (show zG P G _ _ 7 _ _ from ?_)
  refine z_isub ok dX7_signAt_7 (show zG P G _ _ 8 _ _ from ?_)
  refine z_callSi ok [.int i1, .int (0 : Int32), .int ((zf m 141 a0) - (1 : Int32))] (m_X10_isWithin _ ok.p) cv_X7_23 rfl (by decide) rfl (Nat.le_of_ble_eq_true rfl) rfl dX7_signAt_8 (fun r8 m8 => (show zG P G _ _ 11 _ _ from ?_))
  refine z_if_eq ok 23 dX7_signAt_11 (by decide) ?_ (show zG P G _ _ 14 _ _ from ?_)
  · refine z_iconst ok (-1 : Int32) dX7_signAt_23 (by decide) (show zG P G _ _ 24 _ _ from ?_)
    exact z_iret ok dX7_signAt_24
  · refine z_aload_n ok 0 dX7_signAt_14 rfl (show zG P G _ _ 15 _ _ from ?_)
    refine z_getR ok fd_140 h_a0 (Or.inl rfl) tf_X7_9 dX7_signAt_15 (fun b15 h_b15 => (show zG P G _ _ 18 _ _ from ?_))
    refine z_iload_n ok 1 dX7_signAt_18 rfl (show zG P G _ _ 19 _ _ from ?_)
    refine z_cald ok h_b15 dX7_signAt_19 (show zG P G _ _ 20 _ _ from ?_)
    refine z_goto ok 24 dX7_signAt_20 (by decide) ?_
    exact z_iret ok dX7_signAt_24
set_option maxRecDepth 100000 in
set_option maxHeartbeats 4000000 in
theorem t_X7_beginsWith_b2 {P : zSt} {G : zC} (ok : zOK P G RX7 cX7_beginsWith 3 2 43 (some .boolean))  : ∀ (n : Nat) (a0 : Nat) (a1 : Nat) (x2 : Int32) (m : zM) (h_a0 : zT P 7 a0) (h_a1 : zT P 7 a1), zG P G (f_X7_beginsWith_b2 P n a0 a1 x2 m) m 2 [(0, .ref a0), (1, .ref a1), (2, .int x2)] [] := by
  intro n
  induction n with
  | zero =>
    intros
    exact zG_none
  | succ n ih =>
    intro a0 a1 x2 m h_a0 h_a1
    unfold f_X7_beginsWith_b2
    have hr_2 := ih
    refine z_iload_n ok 2 dX7_beginsWith_2 rfl (show zG P G _ _ 3 _ _ from ?_)
    refine z_aload_n ok 1 dX7_beginsWith_3 rfl (show zG P G _ _ 4 _ _ from ?_)
    refine z_get ok fd_141 h_a1 (Or.inl rfl) tf_X7_15 dX7_beginsWith_4 (show zG P G _ _ 7 _ _ from ?_)
    refine z_icmp_ge ok 32 dX7_beginsWith_7 (by decide) ?_ (show zG P G _ _ 10 _ _ from ?_)
    · refine z_iconst ok (1 : Int32) dX7_beginsWith_32 (by decide) (show zG P G _ _ 33 _ _ from ?_)
      exact z_zret ok dX7_beginsWith_33
    · refine z_aload_n ok 0 dX7_beginsWith_10 rfl (show zG P G _ _ 11 _ _ from ?_)
      refine z_iload_n ok 2 dX7_beginsWith_11 rfl (show zG P G _ _ 12 _ _ from ?_)
      refine z_callVi ok [.int x2] (m_X7_signAt _ ok.p h_a0) cv_X7_31 h_a0 rfl (by decide) rfl (Nat.le_of_ble_eq_true rfl) rfl dX7_beginsWith_12 (fun r12 m12 => (show zG P G _ _ 15 _ _ from ?_))
      refine z_aload_n ok 1 dX7_beginsWith_15 rfl (show zG P G _ _ 16 _ _ from ?_)
      refine z_getR ok fd_140 h_a1 (Or.inl rfl) tf_X7_9 dX7_beginsWith_16 (fun b16 h_b16 => (show zG P G _ _ 19 _ _ from ?_))
      refine z_iload_n ok 2 dX7_beginsWith_19 rfl (show zG P G _ _ 20 _ _ from ?_)
      refine z_cald ok h_b16 dX7_beginsWith_20 (show zG P G _ _ 21 _ _ from ?_)
      refine z_icmp_eq ok 26 dX7_beginsWith_21 (by decide) ?_ (show zG P G _ _ 24 _ _ from ?_)
      · refine z_iinc ok (fun v26 => [(2, .int v26), (0, .ref a0), (1, .ref a1)]) 2 dX7_beginsWith_26 rfl (by decide) (by decide) (fun _ => rfl) (fun v26 => (show zG P G _ _ 29 _ _ from ?_))
        refine z_goto ok 2 dX7_beginsWith_29 (by decide) ?_
        exact z_sub [1, 2, 0] [(0, .ref a0), (1, .ref a1), (2, .int v26)] rfl (hr_2 _ _ _ _ h_a0 h_a1)
      · refine z_iconst ok (0 : Int32) dX7_beginsWith_24 (by decide) (show zG P G _ _ 25 _ _ from ?_)
        exact z_zret ok dX7_beginsWith_25
set_option maxRecDepth 100000 in
set_option maxHeartbeats 4000000 in
theorem m_X7_beginsWith (l : Launch) {P : zSt} (hP : zOKP P) {a0 : Nat} {a1 : Nat} (h_a0 : zT P 7 a0) (h_a1 : zT P 7 a1) : zMet l P yX7_beginsWith cX7_beginsWith 3 2 43 (some .boolean) [.ref a0, .ref a1] (fun m => f_X7_beginsWith P a0 a1 m) := by
  refine zMet.of hP (by decide +kernel) RX7 rfl [(0, .ref a0), (1, .ref a1)] (fun h => h) (Nat.le_of_ble_eq_true rfl) (fun G m ok => ?_)
  show zG P G (f_X7_beginsWith P a0 a1 m) m 0 _ []
  unfold f_X7_beginsWith
  refine z_iconst ok (0 : Int32) dX7_beginsWith_0 (by decide) (show zG P G _ _ 1 _ _ from ?_)
  refine z_istore_n0 ok [(2, .int (0 : Int32)), (0, .ref a0), (1, .ref a1)] dX7_beginsWith_1 (by decide) rfl (show zG P G _ _ 2 _ _ from ?_)
  exact z_sub [1, 2, 0] [(0, .ref a0), (1, .ref a1), (2, .int (0 : Int32))] rfl (t_X7_beginsWith_b2 ok zfuel _ _ _ _ h_a0 h_a1)
set_option maxRecDepth 100000 in
set_option maxHeartbeats 4000000 in
theorem t_X3_matches_b30 {P : zSt} {G : zC} (ok : zOK P G RX3 cX3_matches 3 3 65 (some .boolean))   {m : zM}  : zG P G (f_X3_matches_b30 P  m) m 30 [] [] := by
  unfold f_X3_matches_b30
  refine z_iconst ok (0 : Int32) dX3_matches_30 (by decide) (show zG P G _ _ 31 _ _ from ?_)
  exact z_zret ok dX3_matches_31
set_option maxRecDepth 100000 in
set_option maxHeartbeats 4000000 in
theorem m_X3_matches (l : Launch) {P : zSt} (hP : zOKP P) {a0 : Nat} {a1 : Nat} {i2 : Int32} (h_a0 : zT P 3 a0) (h_a1 : zT P 7 a1) : zMet l P yX3_matches cX3_matches 3 3 65 (some .boolean) [.ref a0, .ref a1, .int i2] (fun m => f_X3_matches P a0 a1 i2 m) := by
  refine zMet.of hP (by decide +kernel) RX3 rfl [(0, .ref a0), (1, .ref a1), (2, .int i2)] (fun h => h) (Nat.le_of_ble_eq_true rfl) (fun G m ok => ?_)
  show zG P G (f_X3_matches P a0 a1 i2 m) m 0 _ []
  unfold f_X3_matches
  refine z_iload_n ok 2 dX3_matches_0 rfl (show zG P G _ _ 1 _ _ from ?_)
  refine z_aload_n ok 0 dX3_matches_1 rfl (show zG P G _ _ 2 _ _ from ?_)
  refine z_get ok fd_61 h_a0 (Or.inl rfl) tf_X3_31 dX3_matches_2 (show zG P G _ _ 5 _ _ from ?_)
  refine z_aload_n ok 0 dX3_matches_5 rfl (show zG P G _ _ 6 _ _ from ?_)
  refine z_get ok fd_62 h_a0 (Or.inl rfl) tf_X3_35 dX3_matches_6 (show zG P G _ _ 9 _ _ from ?_)
  refine z_callSi ok [.int i2, .int (zf m 61 a0), .int (zf m 62 a0)] (m_X10_isWithin _ ok.p) cv_X3_55 rfl (by decide) rfl (Nat.le_of_ble_eq_true rfl) rfl dX3_matches_9 (fun r9 m9 => (show zG P G _ _ 12 _ _ from ?_))
  refine z_if_eq ok 30 dX3_matches_12 (by decide) ?_ (show zG P G _ _ 15 _ _ from ?_)
  · exact z_sub [] [] rfl (t_X3_matches_b30 ok)
  · refine z_aload_n ok 1 dX3_matches_15 rfl (show zG P G _ _ 16 _ _ from ?_)
    refine z_aload_n ok 0 dX3_matches_16 rfl (show zG P G _ _ 17 _ _ from ?_)
    refine z_getR ok fd_60 h_a0 (Or.inl rfl) tf_X3_12 dX3_matches_17 (fun b17 h_b17 => (show zG P G _ _ 20 _ _ from ?_))
    refine z_callVi ok [.ref b17] (m_X7_beginsWith _ ok.p h_a1 h_b17) cv_X3_59 h_a1 rfl (by decide) rfl (Nat.le_of_ble_eq_true rfl) rfl dX3_matches_20 (fun r20 m20 => (show zG P G _ _ 23 _ _ from ?_))
    refine z_if_eq ok 30 dX3_matches_23 (by decide) ?_ (show zG P G _ _ 26 _ _ from ?_)
    · exact z_sub [] [] rfl (t_X3_matches_b30 ok)
    · refine z_iconst ok (1 : Int32) dX3_matches_26 (by decide) (show zG P G _ _ 27 _ _ from ?_)
      refine z_goto ok 31 dX3_matches_27 (by decide) ?_
      exact z_zret ok dX3_matches_31
set_option maxRecDepth 100000 in
set_option maxHeartbeats 4000000 in
theorem t_X1_findRule_b2 {P : zSt} {G : zC} (ok : zOK P G RX1 cX1_findRule 4 4 87 (some .int))  : ∀ (n : Nat) (a0 : Nat) (a1 : Nat) (x2 : Int32) (x3 : Int32) (m : zM) (h_a0 : zT P 1 a0) (h_a1 : zT P 7 a1), zG P G (f_X1_findRule_b2 P n a0 a1 x2 x3 m) m 2 [(0, .ref a0), (1, .ref a1), (2, .int x2), (3, .int x3)] [] := by
  intro n
  induction n with
  | zero =>
    intros
    exact zG_none
  | succ n ih =>
    intro a0 a1 x2 x3 m h_a0 h_a1
    unfold f_X1_findRule_b2
    have hr_2 := ih
    refine z_iload_n ok 3 dX1_findRule_2 rfl (show zG P G _ _ 3 _ _ from ?_)
    refine z_aload_n ok 0 dX1_findRule_3 rfl (show zG P G _ _ 4 _ _ from ?_)
    refine z_get ok fd_24 h_a0 (Or.inl rfl) tf_X1_53 dX1_findRule_4 (show zG P G _ _ 7 _ _ from ?_)
    refine z_icmp_ge ok 32 dX1_findRule_7 (by decide) ?_ (show zG P G _ _ 10 _ _ from ?_)
    · refine z_iconst ok (-1 : Int32) dX1_findRule_32 (by decide) (show zG P G _ _ 33 _ _ from ?_)
      exact z_iret ok dX1_findRule_33
    · refine z_aload_n ok 0 dX1_findRule_10 rfl (show zG P G _ _ 11 _ _ from ?_)
      refine z_getR ok fd_23 h_a0 (Or.inl rfl) tf_X1_25 dX1_findRule_11 (fun b11 h_b11 => (show zG P G _ _ 14 _ _ from ?_))
      refine z_iload_n ok 3 dX1_findRule_14 rfl (show zG P G _ _ 15 _ _ from ?_)
      refine z_aald ok ek_14 h_b11 dX1_findRule_15 (fun b15 h_b15 => (show zG P G _ _ 16 _ _ from ?_))
      refine z_aload_n ok 1 dX1_findRule_16 rfl (show zG P G _ _ 17 _ _ from ?_)
      refine z_iload_n ok 2 dX1_findRule_17 rfl (show zG P G _ _ 18 _ _ from ?_)
      refine z_callVi ok [.ref a1, .int x2] (m_X3_matches _ ok.p h_b15 h_a1) cv_X1_94 h_b15 rfl (by decide) rfl (Nat.le_of_ble_eq_true rfl) rfl dX1_findRule_18 (fun r18 m18 => (show zG P G _ _ 21 _ _ from ?_))
      refine z_if_eq ok 26 dX1_findRule_21 (by decide) ?_ (show zG P G _ _ 24 _ _ from ?_)
      · refine z_iinc ok (fun v26 => [(3, .int v26), (0, .ref a0), (1, .ref a1), (2, .int x2)]) 3 dX1_findRule_26 rfl (by decide) (by decide) (fun _ => rfl) (fun v26 => (show zG P G _ _ 29 _ _ from ?_))
        refine z_goto ok 2 dX1_findRule_29 (by decide) ?_
        exact z_sub [1, 2, 3, 0] [(0, .ref a0), (1, .ref a1), (2, .int x2), (3, .int v26)] rfl (hr_2 _ _ _ _ _ h_a0 h_a1)
      · refine z_iload_n ok 3 dX1_findRule_24 rfl (show zG P G _ _ 25 _ _ from ?_)
        exact z_iret ok dX1_findRule_25
set_option maxRecDepth 100000 in
set_option maxHeartbeats 4000000 in
theorem m_X1_findRule (l : Launch) {P : zSt} (hP : zOKP P) {a0 : Nat} {a1 : Nat} {i2 : Int32} (h_a0 : zT P 1 a0) (h_a1 : zT P 7 a1) : zMet l P yX1_findRule cX1_findRule 4 4 87 (some .int) [.ref a0, .ref a1, .int i2] (fun m => f_X1_findRule P a0 a1 i2 m) := by
  refine zMet.of hP (by decide +kernel) RX1 rfl [(0, .ref a0), (1, .ref a1), (2, .int i2)] (fun h => h) (Nat.le_of_ble_eq_true rfl) (fun G m ok => ?_)
  show zG P G (f_X1_findRule P a0 a1 i2 m) m 0 _ []
  unfold f_X1_findRule
  refine z_iconst ok (0 : Int32) dX1_findRule_0 (by decide) (show zG P G _ _ 1 _ _ from ?_)
  refine z_istore_n0 ok [(3, .int (0 : Int32)), (0, .ref a0), (1, .ref a1), (2, .int i2)] dX1_findRule_1 (by decide) rfl (show zG P G _ _ 2 _ _ from ?_)
  exact z_sub [1, 2, 3, 0] [(0, .ref a0), (1, .ref a1), (2, .int i2), (3, .int (0 : Int32))] rfl (t_X1_findRule_b2 ok zfuel _ _ _ _ _ h_a0 h_a1)
set_option maxRecDepth 100000 in
set_option maxHeartbeats 4000000 in
theorem t_X1_passTick_b47 {P : zSt} {G : zC} (ok : zOK P G RX1 cX1_passTick 2 0 0 none) (rec_12 : Nat → Int32 → zM → Option (Int32 × zM)) (hr_12 : ∀ (a0 : Nat) (x1 : Int32) (m : zM), zT P 1 a0 → zG P G (rec_12 a0 x1 m) m 12 [(0, .ref a0), (1, .int x1)] []) {a0 : Nat} {x1 : Int32} {m : zM} (h_a0 : zT P 1 a0) : zG P G (f_X1_passTick_b47 P rec_12 a0 x1 m) m 47 [(0, .ref a0), (1, .int x1)] [] := by
  unfold f_X1_passTick_b47
  refine z_iinc ok (fun v47 => [(1, .int v47), (0, .ref a0)]) 1 dX1_passTick_47 rfl (by decide) (by decide) (fun _ => rfl) (fun v47 => (show zG P G _ _ 50 _ _ from ?_))
  refine z_goto ok 12 dX1_passTick_50 (by decide) ?_
  exact z_sub [1, 0] [(0, .ref a0), (1, .int v47)] rfl (hr_12 _ _ _ h_a0)
set_option maxRecDepth 100000 in
set_option maxHeartbeats 4000000 in
theorem t_X1_passTick_b12 {P : zSt} {G : zC} (ok : zOK P G RX1 cX1_passTick 2 0 0 none)  : ∀ (n : Nat) (a0 : Nat) (x1 : Int32) (m : zM) (h_a0 : zT P 1 a0), zG P G (f_X1_passTick_b12 P n a0 x1 m) m 12 [(0, .ref a0), (1, .int x1)] [] := by
  intro n
  induction n with
  | zero =>
    intros
    exact zG_none
  | succ n ih =>
    intro a0 x1 m h_a0
    unfold f_X1_passTick_b12
    have hr_12 := ih
    refine z_iload_n ok 1 dX1_passTick_12 rfl (show zG P G _ _ 13 _ _ from ?_)
    refine z_aload_n ok 0 dX1_passTick_13 rfl (show zG P G _ _ 14 _ _ from ?_)
    refine z_get ok fd_21 h_a0 (Or.inl rfl) tf_X1_43 dX1_passTick_14 (show zG P G _ _ 17 _ _ from ?_)
    refine z_icmp_ge ok 53 dX1_passTick_17 (by decide) ?_ (show zG P G _ _ 20 _ _ from ?_)
    · exact z_vret ok dX1_passTick_53
    · refine z_aload_n ok 0 dX1_passTick_20 rfl (show zG P G _ _ 21 _ _ from ?_)
      refine z_getR ok fd_20 h_a0 (Or.inl rfl) tf_X1_11 dX1_passTick_21 (fun b21 h_b21 => (show zG P G _ _ 24 _ _ from ?_))
      refine z_iload_n ok 1 dX1_passTick_24 rfl (show zG P G _ _ 25 _ _ from ?_)
      refine z_aald ok ek_13 h_b21 dX1_passTick_25 (fun b25 h_b25 => (show zG P G _ _ 26 _ _ from ?_))
      refine z_getn ok fd_10 h_b25 (Or.inl rfl) tf_X1_98 dX1_passTick_26 (show zG P G _ _ 29 _ _ from ?_)
      refine z_if_le ok 47 dX1_passTick_29 (by decide) ?_ (show zG P G _ _ 32 _ _ from ?_)
      · exact z_sub [0, 1] [(0, .ref a0), (1, .int x1)] rfl (t_X1_passTick_b47 ok (f_X1_passTick_b12 P n) hr_12 h_a0)
      · refine z_aload_n ok 0 dX1_passTick_32 rfl (show zG P G _ _ 33 _ _ from ?_)
        refine z_getR ok fd_20 h_a0 (Or.inl rfl) tf_X1_11 dX1_passTick_33 (fun b33 h_b33 => (show zG P G _ _ 36 _ _ from ?_))
        refine z_iload_n ok 1 dX1_passTick_36 rfl (show zG P G _ _ 37 _ _ from ?_)
        refine z_aald ok ek_13 h_b33 dX1_passTick_37 (fun b37 h_b37 => (show zG P G _ _ 38 _ _ from ?_))
        refine z_dup ok dX1_passTick_38 rfl (show zG P G _ _ 39 _ _ from ?_)
        refine z_getn ok fd_10 h_b37 (Or.inl rfl) tf_X1_98 dX1_passTick_39 (show zG P G _ _ 42 _ _ from ?_)
        refine z_iconst ok (1 : Int32) dX1_passTick_42 (by decide) (show zG P G _ _ 43 _ _ from ?_)
        refine z_isub ok dX1_passTick_43 (show zG P G _ _ 44 _ _ from ?_)
        refine z_putn ok fd_10 h_b37 (Or.inl rfl) tf_X1_98 dX1_passTick_44 (fun m44 => (show zG P G _ _ 47 _ _ from ?_))
        exact z_sub [0, 1] [(0, .ref a0), (1, .int x1)] rfl (t_X1_passTick_b47 ok (f_X1_passTick_b12 P n) hr_12 h_a0)
set_option maxRecDepth 100000 in
set_option maxHeartbeats 4000000 in
theorem m_X1_passTick (l : Launch) {P : zSt} (hP : zOKP P) {a0 : Nat} (h_a0 : zT P 1 a0) : zMet l P yX1_passTick cX1_passTick 2 0 0 none [.ref a0] (fun m => f_X1_passTick P a0 m) := by
  refine zMet.of hP (by decide +kernel) RX1 rfl [(0, .ref a0)] (fun h => h) (Nat.le_of_ble_eq_true rfl) (fun G m ok => ?_)
  show zG P G (f_X1_passTick P a0 m) m 0 _ []
  unfold f_X1_passTick
  refine z_aload_n ok 0 dX1_passTick_0 rfl (show zG P G _ _ 1 _ _ from ?_)
  refine z_dup ok dX1_passTick_1 rfl (show zG P G _ _ 2 _ _ from ?_)
  refine z_get ok fd_26 h_a0 (Or.inl rfl) tf_X1_59 dX1_passTick_2 (show zG P G _ _ 5 _ _ from ?_)
  refine z_iconst ok (1 : Int32) dX1_passTick_5 (by decide) (show zG P G _ _ 6 _ _ from ?_)
  refine z_iadd ok dX1_passTick_6 (show zG P G _ _ 7 _ _ from ?_)
  refine z_put ok fd_26 h_a0 (Or.inl rfl) tf_X1_59 dX1_passTick_7 (fun m7 => (show zG P G _ _ 10 _ _ from ?_))
  refine z_iconst ok (0 : Int32) dX1_passTick_10 (by decide) (show zG P G _ _ 11 _ _ from ?_)
  refine z_istore_n0 ok [(1, .int (0 : Int32)), (0, .ref a0)] dX1_passTick_11 (by decide) rfl (show zG P G _ _ 12 _ _ from ?_)
  exact z_sub [1, 0] [(0, .ref a0), (1, .int (0 : Int32))] rfl (t_X1_passTick_b12 ok zfuel _ _ _ h_a0)
set_option maxRecDepth 100000 in
set_option maxHeartbeats 4000000 in
theorem t_X1_impose_b52 {P : zSt} {G : zC} (ok : zOK P G RX1 cX1_impose 3 0 0 none) (rec_12 : Nat → Int32 → Int32 → zM → Option (Int32 × zM)) (hr_12 : ∀ (a0 : Nat) (x1 : Int32) (x2 : Int32) (m : zM), zT P 1 a0 → zG P G (rec_12 a0 x1 x2 m) m 12 [(0, .ref a0), (1, .int x1), (2, .int x2)] []) {a0 : Nat} {x1 : Int32} {x2 : Int32} {m : zM} (h_a0 : zT P 1 a0) : zG P G (f_X1_impose_b52 P rec_12 a0 x1 x2 m) m 52 [(0, .ref a0), (1, .int x1), (2, .int x2)] [] := by
  unfold f_X1_impose_b52
  refine z_iinc ok (fun v52 => [(2, .int v52), (0, .ref a0), (1, .int x1)]) 2 dX1_impose_52 rfl (by decide) (by decide) (fun _ => rfl) (fun v52 => (show zG P G _ _ 55 _ _ from ?_))
  refine z_goto ok 12 dX1_impose_55 (by decide) ?_
  exact z_sub [1, 2, 0] [(0, .ref a0), (1, .int x1), (2, .int v52)] rfl (hr_12 _ _ _ _ h_a0)
set_option maxRecDepth 100000 in
set_option maxHeartbeats 4000000 in
theorem t_X1_impose_b99 {P : zSt} {G : zC} (ok : zOK P G RX1 cX1_impose 3 0 0 none) (rec_60 : Nat → Int32 → Int32 → zM → Option (Int32 × zM)) (hr_60 : ∀ (a0 : Nat) (x1 : Int32) (x2 : Int32) (m : zM), zT P 1 a0 → zG P G (rec_60 a0 x1 x2 m) m 60 [(0, .ref a0), (1, .int x1), (2, .int x2)] []) {a0 : Nat} {x1 : Int32} {x2 : Int32} {m : zM} (h_a0 : zT P 1 a0) : zG P G (f_X1_impose_b99 P rec_60 a0 x1 x2 m) m 99 [(0, .ref a0), (1, .int x1), (2, .int x2)] [] := by
  unfold f_X1_impose_b99
  refine z_iinc ok (fun v99 => [(2, .int v99), (0, .ref a0), (1, .int x1)]) 2 dX1_impose_99 rfl (by decide) (by decide) (fun _ => rfl) (fun v99 => (show zG P G _ _ 102 _ _ from ?_))
  refine z_goto ok 60 dX1_impose_102 (by decide) ?_
  exact z_sub [1, 2, 0] [(0, .ref a0), (1, .int x1), (2, .int v99)] rfl (hr_60 _ _ _ _ h_a0)
set_option maxRecDepth 100000 in
set_option maxHeartbeats 4000000 in
theorem t_X1_impose_b60 {P : zSt} {G : zC} (ok : zOK P G RX1 cX1_impose 3 0 0 none)  : ∀ (n : Nat) (a0 : Nat) (x1 : Int32) (x2 : Int32) (m : zM) (h_a0 : zT P 1 a0), zG P G (f_X1_impose_b60 P n a0 x1 x2 m) m 60 [(0, .ref a0), (1, .int x1), (2, .int x2)] [] := by
  intro n
  induction n with
  | zero =>
    intros
    exact zG_none
  | succ n ih =>
    intro a0 x1 x2 m h_a0
    unfold f_X1_impose_b60
    have hr_60 := ih
    refine z_iload_n ok 2 dX1_impose_60 rfl (show zG P G _ _ 61 _ _ from ?_)
    refine z_iconst ok (4 : Int32) dX1_impose_61 (by decide) (show zG P G _ _ 62 _ _ from ?_)
    refine z_icmp_ge ok 105 dX1_impose_62 (by decide) ?_ (show zG P G _ _ 65 _ _ from ?_)
    · exact z_vret ok dX1_impose_105
    · refine z_iload_n ok 1 dX1_impose_65 rfl (show zG P G _ _ 66 _ _ from ?_)
      refine z_iconst ok (2 : Int32) dX1_impose_66 (by decide) (show zG P G _ _ 67 _ _ from ?_)
      refine z_icmp_ne ok 84 dX1_impose_67 (by decide) ?_ (show zG P G _ _ 70 _ _ from ?_)
      · refine z_iload_n ok 1 dX1_impose_84 rfl (show zG P G _ _ 85 _ _ from ?_)
        refine z_iconst ok (3 : Int32) dX1_impose_85 (by decide) (show zG P G _ _ 86 _ _ from ?_)
        refine z_icmp_ne ok 99 dX1_impose_86 (by decide) ?_ (show zG P G _ _ 89 _ _ from ?_)
        · exact z_sub [0, 1, 2] [(0, .ref a0), (1, .int x1), (2, .int x2)] rfl (t_X1_impose_b99 ok (f_X1_impose_b60 P n) hr_60 h_a0)
        · refine z_aload_n ok 0 dX1_impose_89 rfl (show zG P G _ _ 90 _ _ from ?_)
          refine z_getR ok fd_22 h_a0 (Or.inl rfl) tf_X1_19 dX1_impose_90 (fun b90 h_b90 => (show zG P G _ _ 93 _ _ from ?_))
          refine z_iload_n ok 2 dX1_impose_93 rfl (show zG P G _ _ 94 _ _ from ?_)
          refine z_aald ok ek_15 h_b90 dX1_impose_94 (fun b94 h_b94 => (show zG P G _ _ 95 _ _ from ?_))
          refine z_iconst ok (0 : Int32) dX1_impose_95 (by decide) (show zG P G _ _ 96 _ _ from ?_)
          refine z_putn ok fd_100 h_b94 (Or.inl rfl) tf_X1_111 dX1_impose_96 (fun m96 => (show zG P G _ _ 99 _ _ from ?_))
          exact z_sub [0, 1, 2] [(0, .ref a0), (1, .int x1), (2, .int x2)] rfl (t_X1_impose_b99 ok (f_X1_impose_b60 P n) hr_60 h_a0)
      · refine z_aload_n ok 0 dX1_impose_70 rfl (show zG P G _ _ 71 _ _ from ?_)
        refine z_getR ok fd_22 h_a0 (Or.inl rfl) tf_X1_19 dX1_impose_71 (fun b71 h_b71 => (show zG P G _ _ 74 _ _ from ?_))
        refine z_iload_n ok 2 dX1_impose_74 rfl (show zG P G _ _ 75 _ _ from ?_)
        refine z_aald ok ek_15 h_b71 dX1_impose_75 (fun b75 h_b75 => (show zG P G _ _ 76 _ _ from ?_))
        refine z_ldc ok (1073741824 : Int32) tc_870 dX1_impose_76 (show zG P G _ _ 78 _ _ from ?_)
        refine z_putn ok fd_101 h_b75 (Or.inl rfl) tf_X1_108 dX1_impose_78 (fun m78 => (show zG P G _ _ 81 _ _ from ?_))
        refine z_goto ok 99 dX1_impose_81 (by decide) ?_
        exact z_sub [0, 1, 2] [(0, .ref a0), (1, .int x1), (2, .int x2)] rfl (t_X1_impose_b99 ok (f_X1_impose_b60 P n) hr_60 h_a0)
set_option maxRecDepth 100000 in
set_option maxHeartbeats 4000000 in
theorem t_X1_impose_b12 {P : zSt} {G : zC} (ok : zOK P G RX1 cX1_impose 3 0 0 none)  : ∀ (n : Nat) (a0 : Nat) (x1 : Int32) (x2 : Int32) (m : zM) (h_a0 : zT P 1 a0), zG P G (f_X1_impose_b12 P n a0 x1 x2 m) m 12 [(0, .ref a0), (1, .int x1), (2, .int x2)] [] := by
  intro n
  induction n with
  | zero =>
    intros
    exact zG_none
  | succ n ih =>
    intro a0 x1 x2 m h_a0
    unfold f_X1_impose_b12
    have hr_12 := ih
    refine z_iload_n ok 2 dX1_impose_12 rfl (show zG P G _ _ 13 _ _ from ?_)
    refine z_aload_n ok 0 dX1_impose_13 rfl (show zG P G _ _ 14 _ _ from ?_)
    refine z_get ok fd_24 h_a0 (Or.inl rfl) tf_X1_53 dX1_impose_14 (show zG P G _ _ 17 _ _ from ?_)
    refine z_icmp_ge ok 58 dX1_impose_17 (by decide) ?_ (show zG P G _ _ 20 _ _ from ?_)
    · refine z_iconst ok (0 : Int32) dX1_impose_58 (by decide) (show zG P G _ _ 59 _ _ from ?_)
      refine z_istore_n0 ok [(2, .int (0 : Int32)), (0, .ref a0), (1, .int x1)] dX1_impose_59 (by decide) rfl (show zG P G _ _ 60 _ _ from ?_)
      exact z_sub [1, 2, 0] [(0, .ref a0), (1, .int x1), (2, .int (0 : Int32))] rfl (t_X1_impose_b60 ok zfuel _ _ _ _ h_a0)
    · refine z_iload_n ok 1 dX1_impose_20 rfl (show zG P G _ _ 21 _ _ from ?_)
      refine z_if_ne ok 37 dX1_impose_21 (by decide) ?_ (show zG P G _ _ 24 _ _ from ?_)
      · refine z_iload_n ok 1 dX1_impose_37 rfl (show zG P G _ _ 38 _ _ from ?_)
        refine z_iconst ok (1 : Int32) dX1_impose_38 (by decide) (show zG P G _ _ 39 _ _ from ?_)
        refine z_icmp_ne ok 52 dX1_impose_39 (by decide) ?_ (show zG P G _ _ 42 _ _ from ?_)
        · exact z_sub [0, 1, 2] [(0, .ref a0), (1, .int x1), (2, .int x2)] rfl (t_X1_impose_b52 ok (f_X1_impose_b12 P n) hr_12 h_a0)
        · refine z_aload_n ok 0 dX1_impose_42 rfl (show zG P G _ _ 43 _ _ from ?_)
          refine z_getR ok fd_23 h_a0 (Or.inl rfl) tf_X1_25 dX1_impose_43 (fun b43 h_b43 => (show zG P G _ _ 46 _ _ from ?_))
          refine z_iload_n ok 2 dX1_impose_46 rfl (show zG P G _ _ 47 _ _ from ?_)
          refine z_aald ok ek_14 h_b43 dX1_impose_47 (fun b47 h_b47 => (show zG P G _ _ 48 _ _ from ?_))
          refine z_iconst ok (1 : Int32) dX1_impose_48 (by decide) (show zG P G _ _ 49 _ _ from ?_)
          refine z_putn ok fd_65 h_b47 (Or.inl rfl) tf_X1_104 dX1_impose_49 (fun m49 => (show zG P G _ _ 52 _ _ from ?_))
          exact z_sub [0, 1, 2] [(0, .ref a0), (1, .int x1), (2, .int x2)] rfl (t_X1_impose_b52 ok (f_X1_impose_b12 P n) hr_12 h_a0)
      · refine z_aload_n ok 0 dX1_impose_24 rfl (show zG P G _ _ 25 _ _ from ?_)
        refine z_getR ok fd_23 h_a0 (Or.inl rfl) tf_X1_25 dX1_impose_25 (fun b25 h_b25 => (show zG P G _ _ 28 _ _ from ?_))
        refine z_iload_n ok 2 dX1_impose_28 rfl (show zG P G _ _ 29 _ _ from ?_)
        refine z_aald ok ek_14 h_b25 dX1_impose_29 (fun b29 h_b29 => (show zG P G _ _ 30 _ _ from ?_))
        refine z_iconst ok (-1 : Int32) dX1_impose_30 (by decide) (show zG P G _ _ 31 _ _ from ?_)
        refine z_putn ok fd_66 h_b29 (Or.inl rfl) tf_X1_101 dX1_impose_31 (fun m31 => (show zG P G _ _ 34 _ _ from ?_))
        refine z_goto ok 52 dX1_impose_34 (by decide) ?_
        exact z_sub [0, 1, 2] [(0, .ref a0), (1, .int x1), (2, .int x2)] rfl (t_X1_impose_b52 ok (f_X1_impose_b12 P n) hr_12 h_a0)
set_option maxRecDepth 100000 in
set_option maxHeartbeats 4000000 in
theorem t_X1_impose_b10 {P : zSt} {G : zC} (ok : zOK P G RX1 cX1_impose 3 0 0 none)  {a0 : Nat} {x1 : Int32} {m : zM} (h_a0 : zT P 1 a0) : zG P G (f_X1_impose_b10 P a0 x1 m) m 10 [(0, .ref a0), (1, .int x1)] [] := by
  unfold f_X1_impose_b10
  refine z_iconst ok (0 : Int32) dX1_impose_10 (by decide) (show zG P G _ _ 11 _ _ from ?_)
  refine z_istore_n0 ok [(2, .int (0 : Int32)), (0, .ref a0), (1, .int x1)] dX1_impose_11 (by decide) rfl (show zG P G _ _ 12 _ _ from ?_)
  exact z_sub [1, 2, 0] [(0, .ref a0), (1, .int x1), (2, .int (0 : Int32))] rfl (t_X1_impose_b12 ok zfuel _ _ _ _ h_a0)
set_option maxRecDepth 100000 in
set_option maxHeartbeats 4000000 in
theorem m_X1_impose (l : Launch) {P : zSt} (hP : zOKP P) {a0 : Nat} {i1 : Int32} (h_a0 : zT P 1 a0) : zMet l P yX1_impose cX1_impose 3 0 0 none [.ref a0, .int i1] (fun m => f_X1_impose P a0 i1 m) := by
  refine zMet.of hP (by decide +kernel) RX1 rfl [(0, .ref a0), (1, .int i1)] (fun h => h) (Nat.le_of_ble_eq_true rfl) (fun G m ok => ?_)
  show zG P G (f_X1_impose P a0 i1 m) m 0 _ []
  unfold f_X1_impose
  refine z_iload_n ok 1 dX1_impose_0 rfl (show zG P G _ _ 1 _ _ from ?_)
  refine z_iconst ok (4 : Int32) dX1_impose_1 (by decide) (show zG P G _ _ 2 _ _ from ?_)
  refine z_icmp_ne ok 10 dX1_impose_2 (by decide) ?_ (show zG P G _ _ 5 _ _ from ?_)
  · exact z_sub [0, 1] [(0, .ref a0), (1, .int i1)] rfl (t_X1_impose_b10 ok h_a0)
  · refine z_aload_n ok 0 dX1_impose_5 rfl (show zG P G _ _ 6 _ _ from ?_)
    refine z_iconst ok (1 : Int32) dX1_impose_6 (by decide) (show zG P G _ _ 7 _ _ from ?_)
    refine z_put ok fd_25 h_a0 (Or.inl rfl) tf_X1_29 dX1_impose_7 (fun m7 => (show zG P G _ _ 10 _ _ from ?_))
    exact z_sub [0, 1] [(0, .ref a0), (1, .int i1)] rfl (t_X1_impose_b10 ok h_a0)
set_option maxRecDepth 100000 in
set_option maxHeartbeats 4000000 in
theorem t_X1_hasAvailable_b2 {P : zSt} {G : zC} (ok : zOK P G RX1 cX1_hasAvailable 3 1 21 (some .boolean))  : ∀ (n : Nat) (a0 : Nat) (x1 : Int32) (x2 : Int32) (m : zM) (h_a0 : zT P 1 a0), zG P G (f_X1_hasAvailable_b2 P n a0 x1 x2 m) m 2 [(0, .ref a0), (1, .int x1), (2, .int x2)] [] := by
  intro n
  induction n with
  | zero =>
    intros
    exact zG_none
  | succ n ih =>
    intro a0 x1 x2 m h_a0
    unfold f_X1_hasAvailable_b2
    have hr_2 := ih
    refine z_iload_n ok 2 dX1_hasAvailable_2 rfl (show zG P G _ _ 3 _ _ from ?_)
    refine z_aload_n ok 0 dX1_hasAvailable_3 rfl (show zG P G _ _ 4 _ _ from ?_)
    refine z_get ok fd_21 h_a0 (Or.inl rfl) tf_X1_43 dX1_hasAvailable_4 (show zG P G _ _ 7 _ _ from ?_)
    refine z_icmp_ge ok 31 dX1_hasAvailable_7 (by decide) ?_ (show zG P G _ _ 10 _ _ from ?_)
    · refine z_iconst ok (0 : Int32) dX1_hasAvailable_31 (by decide) (show zG P G _ _ 32 _ _ from ?_)
      exact z_zret ok dX1_hasAvailable_32
    · refine z_aload_n ok 0 dX1_hasAvailable_10 rfl (show zG P G _ _ 11 _ _ from ?_)
      refine z_getR ok fd_20 h_a0 (Or.inl rfl) tf_X1_11 dX1_hasAvailable_11 (fun b11 h_b11 => (show zG P G _ _ 14 _ _ from ?_))
      refine z_iload_n ok 2 dX1_hasAvailable_14 rfl (show zG P G _ _ 15 _ _ from ?_)
      refine z_aald ok ek_13 h_b11 dX1_hasAvailable_15 (fun b15 h_b15 => (show zG P G _ _ 16 _ _ from ?_))
      refine z_iload_n ok 1 dX1_hasAvailable_16 rfl (show zG P G _ _ 17 _ _ from ?_)
      refine z_callVi ok [.int x1] (m_X0_isAvailableIn _ ok.p h_b15) cv_X1_164 h_b15 rfl (by decide) rfl (Nat.le_of_ble_eq_true rfl) rfl dX1_hasAvailable_17 (fun r17 m17 => (show zG P G _ _ 20 _ _ from ?_))
      refine z_if_eq ok 25 dX1_hasAvailable_20 (by decide) ?_ (show zG P G _ _ 23 _ _ from ?_)
      · refine z_iinc ok (fun v25 => [(2, .int v25), (0, .ref a0), (1, .int x1)]) 2 dX1_hasAvailable_25 rfl (by decide) (by decide) (fun _ => rfl) (fun v25 => (show zG P G _ _ 28 _ _ from ?_))
        refine z_goto ok 2 dX1_hasAvailable_28 (by decide) ?_
        exact z_sub [1, 2, 0] [(0, .ref a0), (1, .int x1), (2, .int v25)] rfl (hr_2 _ _ _ _ h_a0)
      · refine z_iconst ok (1 : Int32) dX1_hasAvailable_23 (by decide) (show zG P G _ _ 24 _ _ from ?_)
        exact z_zret ok dX1_hasAvailable_24
set_option maxRecDepth 100000 in
set_option maxHeartbeats 4000000 in
theorem m_X1_hasAvailable (l : Launch) {P : zSt} (hP : zOKP P) {a0 : Nat} {i1 : Int32} (h_a0 : zT P 1 a0) : zMet l P yX1_hasAvailable cX1_hasAvailable 3 1 21 (some .boolean) [.ref a0, .int i1] (fun m => f_X1_hasAvailable P a0 i1 m) := by
  refine zMet.of hP (by decide +kernel) RX1 rfl [(0, .ref a0), (1, .int i1)] (fun h => h) (Nat.le_of_ble_eq_true rfl) (fun G m ok => ?_)
  show zG P G (f_X1_hasAvailable P a0 i1 m) m 0 _ []
  unfold f_X1_hasAvailable
  refine z_iconst ok (0 : Int32) dX1_hasAvailable_0 (by decide) (show zG P G _ _ 1 _ _ from ?_)
  refine z_istore_n0 ok [(2, .int (0 : Int32)), (0, .ref a0), (1, .int i1)] dX1_hasAvailable_1 (by decide) rfl (show zG P G _ _ 2 _ _ from ?_)
  exact z_sub [1, 2, 0] [(0, .ref a0), (1, .int i1), (2, .int (0 : Int32))] rfl (t_X1_hasAvailable_b2 ok zfuel _ _ _ _ h_a0)
set_option maxRecDepth 100000 in
set_option maxHeartbeats 4000000 in
theorem t_X9_chooseByWeights_16_b79 {P : zSt} {G : zC} (ok : zOK P G RX9 cX9_chooseByWeights 6 0 0 (some .int)) (rec_7 : Nat → Int32 → Int32 → Int32 → Int32 → zM → Option (Int32 × zM)) (hr_7 : ∀ (a0 : Nat) (x1 : Int32) (x2 : Int32) (x3 : Int32) (x4 : Int32) (m : zM), zT P 16 a0 → zG P G (rec_7 a0 x1 x2 x3 x4 m) m 7 [(0, .ref a0), (1, .int x1), (2, .int x2), (3, .int x3), (4, .int x4)] []) {a0 : Nat} {x1 : Int32} {x2 : Int32} {x3 : Int32} {x4 : Int32} {m : zM} (h_a0 : zT P 16 a0) : zG P G (f_X9_chooseByWeights_16_b79 P rec_7 a0 x1 x2 x3 x4 m) m 79 [(0, .ref a0), (1, .int x1), (2, .int x2), (3, .int x3), (4, .int x4)] [] := by
  unfold f_X9_chooseByWeights_16_b79
  refine z_iinc ok (fun v79 => [(4, .int v79), (0, .ref a0), (1, .int x1), (2, .int x2), (3, .int x3)]) 4 dX9_chooseByWeights_79 rfl (by decide) (by decide) (fun _ => rfl) (fun v79 => (show zG P G _ _ 82 _ _ from ?_))
  refine z_goto ok 7 dX9_chooseByWeights_82 (by decide) ?_
  exact z_sub [1, 2, 3, 4, 0] [(0, .ref a0), (1, .int x1), (2, .int x2), (3, .int x3), (4, .int v79)] rfl (hr_7 _ _ _ _ _ _ h_a0)
set_option maxRecDepth 100000 in
set_option maxHeartbeats 4000000 in
theorem t_X9_chooseByWeights_16_b76 {P : zSt} {G : zC} (ok : zOK P G RX9 cX9_chooseByWeights 6 0 0 (some .int)) (rec_7 : Nat → Int32 → Int32 → Int32 → Int32 → zM → Option (Int32 × zM)) (hr_7 : ∀ (a0 : Nat) (x1 : Int32) (x2 : Int32) (x3 : Int32) (x4 : Int32) (m : zM), zT P 16 a0 → zG P G (rec_7 a0 x1 x2 x3 x4 m) m 7 [(0, .ref a0), (1, .int x1), (2, .int x2), (3, .int x3), (4, .int x4)] []) {a0 : Nat} {x1 : Int32} {x3 : Int32} {x4 : Int32} {m : zM} (h_a0 : zT P 16 a0) : zG P G (f_X9_chooseByWeights_16_b76 P rec_7 a0 x1 x3 x4 m) m 76 [(0, .ref a0), (1, .int x1), (3, .int x3), (4, .int x4)] [] := by
  unfold f_X9_chooseByWeights_16_b76
  refine z_iload ok 3 dX9_chooseByWeights_76 rfl (show zG P G _ _ 78 _ _ from ?_)
  refine z_istore_n0 ok [(2, .int x4), (0, .ref a0), (1, .int x1), (3, .int x3), (4, .int x4)] dX9_chooseByWeights_78 (by decide) rfl (show zG P G _ _ 79 _ _ from ?_)
  exact z_sub [1, 2, 0, 3, 4] [(0, .ref a0), (1, .int x1), (2, .int x4), (3, .int x3), (4, .int x4)] rfl (t_X9_chooseByWeights_16_b79 ok rec_7 hr_7 h_a0)
set_option maxRecDepth 100000 in
set_option maxHeartbeats 4000000 in
theorem t_X9_chooseByWeights_16_b102 {P : zSt} {G : zC} (ok : zOK P G RX9 cX9_chooseByWeights 6 0 0 (some .int))  {x2 : Int32} {m : zM}  : zG P G (f_X9_chooseByWeights_16_b102 P x2 m) m 102 [(2, .int x2)] [] := by
  unfold f_X9_chooseByWeights_16_b102
  refine z_iload_n ok 0 dX9_chooseByWeights_102 rfl (show zG P G _ _ 103 _ _ from ?_)
  exact z_iret ok dX9_chooseByWeights_103
set_option maxRecDepth 100000 in
set_option maxHeartbeats 4000000 in
theorem t_X9_chooseByWeights_16_b85 {P : zSt} {G : zC} (ok : zOK P G RX9 cX9_chooseByWeights 6 0 0 (some .int))  {a0 : Nat} {x2 : Int32} {x3 : Int32} {m : zM} (h_a0 : zT P 16 a0) : zG P G (f_X9_chooseByWeights_16_b85 P a0 x2 x3 m) m 85 [(0, .ref a0), (2, .int x2), (3, .int x3)] [] := by
  unfold f_X9_chooseByWeights_16_b85
  refine z_iload_n ok 1 dX9_chooseByWeights_85 rfl (show zG P G _ _ 86 _ _ from ?_)
  refine z_iconst ok (-1 : Int32) dX9_chooseByWeights_86 (by decide) (show zG P G _ _ 87 _ _ from ?_)
  refine z_icmp_eq ok 102 dX9_chooseByWeights_87 (by decide) ?_ (show zG P G _ _ 90 _ _ from ?_)
  · exact z_sub [1] [(2, .int x2)] rfl (t_X9_chooseByWeights_16_b102 ok)
  · refine z_aload_n ok 0 dX9_chooseByWeights_90 rfl (show zG P G _ _ 91 _ _ from ?_)
    refine z_iload_n ok 1 dX9_chooseByWeights_91 rfl (show zG P G _ _ 92 _ _ from ?_)
    refine z_aald ok ek_16 h_a0 dX9_chooseByWeights_92 (fun b92 h_b92 => (show zG P G _ _ 93 _ _ from ?_))
    refine z_dup ok dX9_chooseByWeights_93 rfl (show zG P G _ _ 94 _ _ from ?_)
    refine z_get ok fd_121 h_b92 (Or.inl rfl) tf_X9_15 dX9_chooseByWeights_94 (show zG P G _ _ 97 _ _ from ?_)
    refine z_iload_n ok 2 dX9_chooseByWeights_97 rfl (show zG P G _ _ 98 _ _ from ?_)
    refine z_isub ok dX9_chooseByWeights_98 (show zG P G _ _ 99 _ _ from ?_)
    refine z_put ok fd_121 h_b92 (Or.inl rfl) tf_X9_15 dX9_chooseByWeights_99 (fun m99 => (show zG P G _ _ 102 _ _ from ?_))
    exact z_sub [1] [(2, .int x2)] rfl (t_X9_chooseByWeights_16_b102 ok)
set_option maxRecDepth 100000 in
set_option maxHeartbeats 4000000 in
theorem t_X9_chooseByWeights_16_b7 {P : zSt} {G : zC} (ok : zOK P G RX9 cX9_chooseByWeights 6 0 0 (some .int))  : ∀ (n : Nat) (a0 : Nat) (x1 : Int32) (x2 : Int32) (x3 : Int32) (x4 : Int32) (m : zM) (h_a0 : zT P 16 a0), zG P G (f_X9_chooseByWeights_16_b7 P n a0 x1 x2 x3 x4 m) m 7 [(0, .ref a0), (1, .int x1), (2, .int x2), (3, .int x3), (4, .int x4)] [] := by
  intro n
  induction n with
  | zero =>
    intros
    exact zG_none
  | succ n ih =>
    intro a0 x1 x2 x3 x4 m h_a0
    unfold f_X9_chooseByWeights_16_b7
    have hr_7 := ih
    refine z_iload ok 4 dX9_chooseByWeights_7 rfl (show zG P G _ _ 9 _ _ from ?_)
    refine z_iload_n ok 1 dX9_chooseByWeights_9 rfl (show zG P G _ _ 10 _ _ from ?_)
    refine z_icmp_ge ok 85 dX9_chooseByWeights_10 (by decide) ?_ (show zG P G _ _ 13 _ _ from ?_)
    · exact z_sub [0, 2, 3] [(0, .ref a0), (2, .int x2), (3, .int x3)] rfl (t_X9_chooseByWeights_16_b85 ok h_a0)
    · refine z_iload ok 4 dX9_chooseByWeights_13 rfl (show zG P G _ _ 15 _ _ from ?_)
      refine z_aload_n ok 0 dX9_chooseByWeights_15 rfl (show zG P G _ _ 16 _ _ from ?_)
      refine z_alen ok ek_16 h_a0 dX9_chooseByWeights_16 (show zG P G _ _ 17 _ _ from ?_)
      refine z_icmp_ge ok 85 dX9_chooseByWeights_17 (by decide) ?_ (show zG P G _ _ 20 _ _ from ?_)
      · exact z_sub [0, 2, 3] [(0, .ref a0), (2, .int x2), (3, .int x3)] rfl (t_X9_chooseByWeights_16_b85 ok h_a0)
      · refine z_aload_n ok 0 dX9_chooseByWeights_20 rfl (show zG P G _ _ 21 _ _ from ?_)
        refine z_iload ok 4 dX9_chooseByWeights_21 rfl (show zG P G _ _ 23 _ _ from ?_)
        refine z_aald ok ek_16 h_a0 dX9_chooseByWeights_23 (fun b23 h_b23 => (show zG P G _ _ 24 _ _ from ?_))
        refine z_astore ok [(5, .ref b23), (0, .ref a0), (1, .int x1), (2, .int x2), (3, .int x3), (4, .int x4)] dX9_chooseByWeights_24 (by decide) rfl (show zG P G _ _ 26 _ _ from ?_)
        refine z_aload ok 0 dX9_chooseByWeights_26 rfl (show zG P G _ _ 28 _ _ from ?_)
        refine z_get ok fd_122 h_b23 (Or.inl rfl) tf_X9_9 dX9_chooseByWeights_28 (show zG P G _ _ 31 _ _ from ?_)
        refine z_if_eq ok 79 dX9_chooseByWeights_31 (by decide) ?_ (show zG P G _ _ 34 _ _ from ?_)
        · exact z_sub [1, 2, 3, 4, 5] [(0, .ref a0), (1, .int x1), (2, .int x2), (3, .int x3), (4, .int x4)] rfl (t_X9_chooseByWeights_16_b79 ok (f_X9_chooseByWeights_16_b7 P n) hr_7 h_a0)
        · refine z_aload ok 0 dX9_chooseByWeights_34 rfl (show zG P G _ _ 36 _ _ from ?_)
          refine z_dup ok dX9_chooseByWeights_36 rfl (show zG P G _ _ 37 _ _ from ?_)
          refine z_get ok fd_121 h_b23 (Or.inl rfl) tf_X9_15 dX9_chooseByWeights_37 (show zG P G _ _ 40 _ _ from ?_)
          refine z_aload ok 0 dX9_chooseByWeights_40 rfl (show zG P G _ _ 42 _ _ from ?_)
          refine z_get ok fd_120 h_b23 (Or.inl rfl) tf_X9_19 dX9_chooseByWeights_42 (show zG P G _ _ 45 _ _ from ?_)
          refine z_iadd ok dX9_chooseByWeights_45 (show zG P G _ _ 46 _ _ from ?_)
          refine z_put ok fd_121 h_b23 (Or.inl rfl) tf_X9_15 dX9_chooseByWeights_46 (fun m46 => (show zG P G _ _ 49 _ _ from ?_))
          refine z_iload_n ok 4 dX9_chooseByWeights_49 rfl (show zG P G _ _ 50 _ _ from ?_)
          refine z_aload ok 0 dX9_chooseByWeights_50 rfl (show zG P G _ _ 52 _ _ from ?_)
          refine z_get ok fd_120 h_b23 (Or.inl rfl) tf_X9_19 dX9_chooseByWeights_52 (show zG P G _ _ 55 _ _ from ?_)
          refine z_iadd ok dX9_chooseByWeights_55 (show zG P G _ _ 56 _ _ from ?_)
          refine z_istore_n ok (fun v56 => [(3, .int v56), (5, .ref b23), (0, .ref a0), (1, .int x1), (2, .int x2), (4, .int x4)]) dX9_chooseByWeights_56 (by decide) (fun _ => rfl) (fun v56 => (show zG P G _ _ 57 _ _ from ?_))
          refine z_iload_n ok 4 dX9_chooseByWeights_57 rfl (show zG P G _ _ 58 _ _ from ?_)
          refine z_iconst ok (-1 : Int32) dX9_chooseByWeights_58 (by decide) (show zG P G _ _ 59 _ _ from ?_)
          refine z_icmp_eq ok 76 dX9_chooseByWeights_59 (by decide) ?_ (show zG P G _ _ 62 _ _ from ?_)
          · exact z_sub [2, 3, 0, 5] [(0, .ref a0), (1, .int x1), (3, .int v56), (4, .int x4)] rfl (t_X9_chooseByWeights_16_b76 ok (f_X9_chooseByWeights_16_b7 P n) hr_7 h_a0)
          · refine z_aload ok 1 dX9_chooseByWeights_62 rfl (show zG P G _ _ 64 _ _ from ?_)
            refine z_get ok fd_121 h_b23 (Or.inl rfl) tf_X9_15 dX9_chooseByWeights_64 (show zG P G _ _ 67 _ _ from ?_)
            refine z_aload_n ok 2 dX9_chooseByWeights_67 rfl (show zG P G _ _ 68 _ _ from ?_)
            refine z_iload_n ok 4 dX9_chooseByWeights_68 rfl (show zG P G _ _ 69 _ _ from ?_)
            refine z_aald ok ek_16 h_a0 dX9_chooseByWeights_69 (fun b69 h_b69 => (show zG P G _ _ 70 _ _ from ?_))
            refine z_get ok fd_121 h_b69 (Or.inl rfl) tf_X9_15 dX9_chooseByWeights_70 (show zG P G _ _ 73 _ _ from ?_)
            refine z_icmp_le ok 79 dX9_chooseByWeights_73 (by decide) ?_ (show zG P G _ _ 76 _ _ from ?_)
            · exact z_sub [2, 3, 4, 0, 5] [(0, .ref a0), (1, .int x1), (2, .int x2), (3, .int v56), (4, .int x4)] rfl (t_X9_chooseByWeights_16_b79 ok (f_X9_chooseByWeights_16_b7 P n) hr_7 h_a0)
            · exact z_sub [2, 3, 0, 5] [(0, .ref a0), (1, .int x1), (3, .int v56), (4, .int x4)] rfl (t_X9_chooseByWeights_16_b76 ok (f_X9_chooseByWeights_16_b7 P n) hr_7 h_a0)
set_option maxRecDepth 100000 in
set_option maxHeartbeats 4000000 in
theorem m_X9_chooseByWeights_16 (l : Launch) {P : zSt} (hP : zOKP P) {a0 : Nat} {i1 : Int32} (h_a0 : zT P 16 a0) : zMet l P yX9_chooseByWeights cX9_chooseByWeights 6 0 0 (some .int) [.ref a0, .int i1] (fun m => f_X9_chooseByWeights_16 P a0 i1 m) := by
  refine zMet.of hP (by decide +kernel) RX9 rfl [(0, .ref a0), (1, .int i1)] (fun h => h) (Nat.le_of_ble_eq_true rfl) (fun G m ok => ?_)
  show zG P G (f_X9_chooseByWeights_16 P a0 i1 m) m 0 _ []
  unfold f_X9_chooseByWeights_16
  refine z_iconst ok (-1 : Int32) dX9_chooseByWeights_0 (by decide) (show zG P G _ _ 1 _ _ from ?_)
  refine z_istore_n0 ok [(2, .int (-1 : Int32)), (0, .ref a0), (1, .int i1)] dX9_chooseByWeights_1 (by decide) rfl (show zG P G _ _ 2 _ _ from ?_)
  refine z_iconst ok (0 : Int32) dX9_chooseByWeights_2 (by decide) (show zG P G _ _ 3 _ _ from ?_)
  refine z_istore_n0 ok [(3, .int (0 : Int32)), (2, .int (-1 : Int32)), (0, .ref a0), (1, .int i1)] dX9_chooseByWeights_3 (by decide) rfl (show zG P G _ _ 4 _ _ from ?_)
  refine z_iconst ok (0 : Int32) dX9_chooseByWeights_4 (by decide) (show zG P G _ _ 5 _ _ from ?_)
  refine z_istore0 ok [(4, .int (0 : Int32)), (3, .int (0 : Int32)), (2, .int (-1 : Int32)), (0, .ref a0), (1, .int i1)] dX9_chooseByWeights_5 (by decide) rfl (show zG P G _ _ 7 _ _ from ?_)
  exact z_sub [3, 4, 2, 1, 0] [(0, .ref a0), (1, .int i1), (2, .int (-1 : Int32)), (3, .int (0 : Int32)), (4, .int (0 : Int32))] rfl (t_X9_chooseByWeights_16_b7 ok zfuel _ _ _ _ _ _ h_a0)
set_option maxRecDepth 100000 in
set_option maxHeartbeats 4000000 in
theorem t_X1_chooseService_b2 {P : zSt} {G : zC} (ok : zOK P G RX1 cX1_chooseService 3 2 43 (some .int))  : ∀ (n : Nat) (a0 : Nat) (a1 : Nat) (x2 : Int32) (m : zM) (h_a0 : zT P 1 a0) (h_a1 : zT P 3 a1), zG P G (f_X1_chooseService_b2 P n a0 a1 x2 m) m 2 [(0, .ref a0), (1, .ref a1), (2, .int x2)] [] := by
  intro n
  induction n with
  | zero =>
    intros
    exact zG_none
  | succ n ih =>
    intro a0 a1 x2 m h_a0 h_a1
    unfold f_X1_chooseService_b2
    have hr_2 := ih
    refine z_iload_n ok 2 dX1_chooseService_2 rfl (show zG P G _ _ 3 _ _ from ?_)
    refine z_aload_n ok 1 dX1_chooseService_3 rfl (show zG P G _ _ 4 _ _ from ?_)
    refine z_getn ok fd_64 h_a1 (Or.inl rfl) tf_X1_136 dX1_chooseService_4 (show zG P G _ _ 7 _ _ from ?_)
    refine z_icmp_ge ok 38 dX1_chooseService_7 (by decide) ?_ (show zG P G _ _ 10 _ _ from ?_)
    · refine z_aload_n ok 1 dX1_chooseService_38 rfl (show zG P G _ _ 39 _ _ from ?_)
      refine z_getRn ok fd_63 h_a1 (Or.inl rfl) tf_X1_139 dX1_chooseService_39 (fun b39 h_b39 => (show zG P G _ _ 42 _ _ from ?_))
      refine z_aload_n ok 1 dX1_chooseService_42 rfl (show zG P G _ _ 43 _ _ from ?_)
      refine z_getn ok fd_64 h_a1 (Or.inl rfl) tf_X1_136 dX1_chooseService_43 (show zG P G _ _ 46 _ _ from ?_)
      refine z_callSi ok [.ref b39, .int (zf m 64 a1)] (m_X9_chooseByWeights_16 _ ok.p h_b39) cv_X1_155 rfl (by decide) rfl (Nat.le_of_ble_eq_true rfl) rfl dX1_chooseService_46 (fun r46 m46 => (show zG P G _ _ 49 _ _ from ?_))
      refine z_istore_n0 ok [(2, .int r46), (0, .ref a0), (1, .ref a1)] dX1_chooseService_49 (by decide) rfl (show zG P G _ _ 50 _ _ from ?_)
      refine z_iload_n ok 0 dX1_chooseService_50 rfl (show zG P G _ _ 51 _ _ from ?_)
      refine z_iconst ok (-1 : Int32) dX1_chooseService_51 (by decide) (show zG P G _ _ 52 _ _ from ?_)
      refine z_icmp_ne ok 57 dX1_chooseService_52 (by decide) ?_ (show zG P G _ _ 55 _ _ from ?_)
      · refine z_aload_n ok 2 dX1_chooseService_57 rfl (show zG P G _ _ 58 _ _ from ?_)
        refine z_getRn ok fd_63 h_a1 (Or.inl rfl) tf_X1_139 dX1_chooseService_58 (fun b58 h_b58 => (show zG P G _ _ 61 _ _ from ?_))
        refine z_iload_n ok 0 dX1_chooseService_61 rfl (show zG P G _ _ 62 _ _ from ?_)
        refine z_aald ok ek_16 h_b58 dX1_chooseService_62 (fun b62 h_b62 => (show zG P G _ _ 63 _ _ from ?_))
        refine z_dup ok dX1_chooseService_63 rfl (show zG P G _ _ 64 _ _ from ?_)
        refine z_getn ok fd_124 h_b62 (Or.inl rfl) tf_X1_161 dX1_chooseService_64 (show zG P G _ _ 67 _ _ from ?_)
        refine z_iconst ok (1 : Int32) dX1_chooseService_67 (by decide) (show zG P G _ _ 68 _ _ from ?_)
        refine z_iadd ok dX1_chooseService_68 (show zG P G _ _ 69 _ _ from ?_)
        refine z_putn ok fd_124 h_b62 (Or.inl rfl) tf_X1_161 dX1_chooseService_69 (fun m69 => (show zG P G _ _ 72 _ _ from ?_))
        refine z_aload_n ok 2 dX1_chooseService_72 rfl (show zG P G _ _ 73 _ _ from ?_)
        refine z_getRn ok fd_63 h_a1 (Or.inl rfl) tf_X1_139 dX1_chooseService_73 (fun b73 h_b73 => (show zG P G _ _ 76 _ _ from ?_))
        refine z_iload_n ok 0 dX1_chooseService_76 rfl (show zG P G _ _ 77 _ _ from ?_)
        refine z_aald ok ek_16 h_b73 dX1_chooseService_77 (fun b77 h_b77 => (show zG P G _ _ 78 _ _ from ?_))
        refine z_getn ok fd_123 h_b77 (Or.inl rfl) tf_X1_143 dX1_chooseService_78 (show zG P G _ _ 81 _ _ from ?_)
        exact z_iret ok dX1_chooseService_81
      · refine z_iconst ok (-1 : Int32) dX1_chooseService_55 (by decide) (show zG P G _ _ 56 _ _ from ?_)
        exact z_iret ok dX1_chooseService_56
    · refine z_aload_n ok 1 dX1_chooseService_10 rfl (show zG P G _ _ 11 _ _ from ?_)
      refine z_getRn ok fd_63 h_a1 (Or.inl rfl) tf_X1_139 dX1_chooseService_11 (fun b11 h_b11 => (show zG P G _ _ 14 _ _ from ?_))
      refine z_iload_n ok 2 dX1_chooseService_14 rfl (show zG P G _ _ 15 _ _ from ?_)
      refine z_aald ok ek_16 h_b11 dX1_chooseService_15 (fun b15 h_b15 => (show zG P G _ _ 16 _ _ from ?_))
      refine z_aload_n ok 0 dX1_chooseService_16 rfl (show zG P G _ _ 17 _ _ from ?_)
      refine z_aload_n ok 1 dX1_chooseService_17 rfl (show zG P G _ _ 18 _ _ from ?_)
      refine z_getRn ok fd_63 h_a1 (Or.inl rfl) tf_X1_139 dX1_chooseService_18 (fun b18 h_b18 => (show zG P G _ _ 21 _ _ from ?_))
      refine z_iload_n ok 2 dX1_chooseService_21 rfl (show zG P G _ _ 22 _ _ from ?_)
      refine z_aald ok ek_16 h_b18 dX1_chooseService_22 (fun b22 h_b22 => (show zG P G _ _ 23 _ _ from ?_))
      refine z_getn ok fd_123 h_b22 (Or.inl rfl) tf_X1_143 dX1_chooseService_23 (show zG P G _ _ 26 _ _ from ?_)
      refine z_callVi ok [.int (zf m 123 b22)] (m_X1_hasAvailable _ ok.p h_a0) cv_X1_148 h_a0 rfl (by decide) rfl (Nat.le_of_ble_eq_true rfl) rfl dX1_chooseService_26 (fun r26 m26 => (show zG P G _ _ 29 _ _ from ?_))
      refine z_putZ ok fd_122 h_b15 (Or.inr ts_154) tf_X1_151 dX1_chooseService_29 (fun m29 => (show zG P G _ _ 32 _ _ from ?_))
      refine z_iinc ok (fun v32 => [(2, .int v32), (0, .ref a0), (1, .ref a1)]) 2 dX1_chooseService_32 rfl (by decide) (by decide) (fun _ => rfl) (fun v32 => (show zG P G _ _ 35 _ _ from ?_))
      refine z_goto ok 2 dX1_chooseService_35 (by decide) ?_
      exact z_sub [1, 2, 0] [(0, .ref a0), (1, .ref a1), (2, .int v32)] rfl (hr_2 _ _ _ _ h_a0 h_a1)
set_option maxRecDepth 100000 in
set_option maxHeartbeats 4000000 in
theorem m_X1_chooseService (l : Launch) {P : zSt} (hP : zOKP P) {a0 : Nat} {a1 : Nat} (h_a0 : zT P 1 a0) (h_a1 : zT P 3 a1) : zMet l P yX1_chooseService cX1_chooseService 3 2 43 (some .int) [.ref a0, .ref a1] (fun m => f_X1_chooseService P a0 a1 m) := by
  refine zMet.of hP (by decide +kernel) RX1 rfl [(0, .ref a0), (1, .ref a1)] (fun h => h) (Nat.le_of_ble_eq_true rfl) (fun G m ok => ?_)
  show zG P G (f_X1_chooseService P a0 a1 m) m 0 _ []
  unfold f_X1_chooseService
  refine z_iconst ok (0 : Int32) dX1_chooseService_0 (by decide) (show zG P G _ _ 1 _ _ from ?_)
  refine z_istore_n0 ok [(2, .int (0 : Int32)), (0, .ref a0), (1, .ref a1)] dX1_chooseService_1 (by decide) rfl (show zG P G _ _ 2 _ _ from ?_)
  exact z_sub [1, 2, 0] [(0, .ref a0), (1, .ref a1), (2, .int (0 : Int32))] rfl (t_X1_chooseService_b2 ok zfuel _ _ _ _ h_a0 h_a1)
set_option maxRecDepth 100000 in
set_option maxHeartbeats 4000000 in
theorem t_X1_mirror_b53 {P : zSt} {G : zC} (ok : zOK P G RX1 cX1_mirror 4 2 41 none) (rec_4 : Nat → Int32 → Int32 → Int32 → zM → Option (Int32 × zM)) (hr_4 : ∀ (a0 : Nat) (x1 : Int32) (x2 : Int32) (x3 : Int32) (m : zM), zT P 1 a0 → zG P G (rec_4 a0 x1 x2 x3 m) m 4 [(0, .ref a0), (1, .int x1), (2, .int x2), (3, .int x3)] []) {a0 : Nat} {x1 : Int32} {x2 : Int32} {x3 : Int32} {m : zM} (h_a0 : zT P 1 a0) : zG P G (f_X1_mirror_b53 P rec_4 a0 x1 x2 x3 m) m 53 [(0, .ref a0), (1, .int x1), (2, .int x2), (3, .int x3)] [] := by
  unfold f_X1_mirror_b53
  refine z_iinc ok (fun v53 => [(3, .int v53), (0, .ref a0), (1, .int x1), (2, .int x2)]) 3 dX1_mirror_53 rfl (by decide) (by decide) (fun _ => rfl) (fun v53 => (show zG P G _ _ 56 _ _ from ?_))
  refine z_goto ok 4 dX1_mirror_56 (by decide) ?_
  exact z_sub [1, 2, 3, 0] [(0, .ref a0), (1, .int x1), (2, .int x2), (3, .int v53)] rfl (hr_4 _ _ _ _ _ h_a0)
set_option maxRecDepth 100000 in
set_option maxHeartbeats 4000000 in
theorem t_X1_mirror_b51 {P : zSt} {G : zC} (ok : zOK P G RX1 cX1_mirror 4 2 41 none) (rec_4 : Nat → Int32 → Int32 → Int32 → zM → Option (Int32 × zM)) (hr_4 : ∀ (a0 : Nat) (x1 : Int32) (x2 : Int32) (x3 : Int32) (m : zM), zT P 1 a0 → zG P G (rec_4 a0 x1 x2 x3 m) m 4 [(0, .ref a0), (1, .int x1), (2, .int x2), (3, .int x3)] []) {a0 : Nat} {x1 : Int32} {x3 : Int32} {m : zM} (h_a0 : zT P 1 a0) : zG P G (f_X1_mirror_b51 P rec_4 a0 x1 x3 m) m 51 [(0, .ref a0), (1, .int x1), (3, .int x3)] [] := by
  unfold f_X1_mirror_b51
  refine z_iload_n ok 2 dX1_mirror_51 rfl (show zG P G _ _ 52 _ _ from ?_)
  refine z_istore_n0 ok [(2, .int x3), (0, .ref a0), (1, .int x1), (3, .int x3)] dX1_mirror_52 (by decide) rfl (show zG P G _ _ 53 _ _ from ?_)
  exact z_sub [1, 2, 0, 3] [(0, .ref a0), (1, .int x1), (2, .int x3), (3, .int x3)] rfl (t_X1_mirror_b53 ok rec_4 hr_4 h_a0)
set_option maxRecDepth 100000 in
set_option maxHeartbeats 4000000 in
theorem t_X1_mirror_b4 {P : zSt} {G : zC} (ok : zOK P G RX1 cX1_mirror 4 2 41 none)  : ∀ (n : Nat) (a0 : Nat) (x1 : Int32) (x2 : Int32) (x3 : Int32) (m : zM) (h_a0 : zT P 1 a0), zG P G (f_X1_mirror_b4 P n a0 x1 x2 x3 m) m 4 [(0, .ref a0), (1, .int x1), (2, .int x2), (3, .int x3)] [] := by
  intro n
  induction n with
  | zero =>
    intros
    exact zG_none
  | succ n ih =>
    intro a0 x1 x2 x3 m h_a0
    unfold f_X1_mirror_b4
    have hr_4 := ih
    refine z_iload_n ok 3 dX1_mirror_4 rfl (show zG P G _ _ 5 _ _ from ?_)
    refine z_aload_n ok 0 dX1_mirror_5 rfl (show zG P G _ _ 6 _ _ from ?_)
    refine z_get ok fd_21 h_a0 (Or.inl rfl) tf_X1_43 dX1_mirror_6 (show zG P G _ _ 9 _ _ from ?_)
    refine z_icmp_ge ok 59 dX1_mirror_9 (by decide) ?_ (show zG P G _ _ 12 _ _ from ?_)
    · refine z_iload_n ok 2 dX1_mirror_59 rfl (show zG P G _ _ 60 _ _ from ?_)
      refine z_iconst ok (-1 : Int32) dX1_mirror_60 (by decide) (show zG P G _ _ 61 _ _ from ?_)
      refine z_icmp_eq ok 83 dX1_mirror_61 (by decide) ?_ (show zG P G _ _ 64 _ _ from ?_)
      · exact z_vret ok dX1_mirror_83
      · refine z_aload_n ok 0 dX1_mirror_64 rfl (show zG P G _ _ 65 _ _ from ?_)
        refine z_getR ok fd_20 h_a0 (Or.inl rfl) tf_X1_11 dX1_mirror_65 (fun b65 h_b65 => (show zG P G _ _ 68 _ _ from ?_))
        refine z_iload_n ok 2 dX1_mirror_68 rfl (show zG P G _ _ 69 _ _ from ?_)
        refine z_aald ok ek_13 h_b65 dX1_mirror_69 (fun b69 h_b69 => (show zG P G _ _ 70 _ _ from ?_))
        refine z_callVv ok [] (m_X0_attemptAsShadow _ ok.p h_b69) cv_X1_256 h_b69 rfl (by decide) rfl (Nat.le_of_ble_eq_true rfl) rfl dX1_mirror_70 (fun _ m70 => (show zG P G _ _ 73 _ _ from ?_))
        refine z_aload_n ok 0 dX1_mirror_73 rfl (show zG P G _ _ 74 _ _ from ?_)
        refine z_dup ok dX1_mirror_74 rfl (show zG P G _ _ 75 _ _ from ?_)
        refine z_get ok fd_33 h_a0 (Or.inl rfl) tf_X1_80 dX1_mirror_75 (show zG P G _ _ 78 _ _ from ?_)
        refine z_iconst ok (1 : Int32) dX1_mirror_78 (by decide) (show zG P G _ _ 79 _ _ from ?_)
        refine z_iadd ok dX1_mirror_79 (show zG P G _ _ 80 _ _ from ?_)
        refine z_put ok fd_33 h_a0 (Or.inl rfl) tf_X1_80 dX1_mirror_80 (fun m80 => (show zG P G _ _ 83 _ _ from ?_))
        exact z_vret ok dX1_mirror_83
    · refine z_aload_n ok 0 dX1_mirror_12 rfl (show zG P G _ _ 13 _ _ from ?_)
      refine z_getR ok fd_20 h_a0 (Or.inl rfl) tf_X1_11 dX1_mirror_13 (fun b13 h_b13 => (show zG P G _ _ 16 _ _ from ?_))
      refine z_iload_n ok 3 dX1_mirror_16 rfl (show zG P G _ _ 17 _ _ from ?_)
      refine z_aald ok ek_13 h_b13 dX1_mirror_17 (fun b17 h_b17 => (show zG P G _ _ 18 _ _ from ?_))
      refine z_iload_n ok 1 dX1_mirror_18 rfl (show zG P G _ _ 19 _ _ from ?_)
      refine z_callVi ok [.int x1] (m_X0_isMemberOf _ ok.p h_b17) cv_X1_210 h_b17 rfl (by decide) rfl (Nat.le_of_ble_eq_true rfl) rfl dX1_mirror_19 (fun r19 m19 => (show zG P G _ _ 22 _ _ from ?_))
      refine z_if_eq ok 53 dX1_mirror_22 (by decide) ?_ (show zG P G _ _ 25 _ _ from ?_)
      · exact z_sub [0, 1, 2, 3] [(0, .ref a0), (1, .int x1), (2, .int x2), (3, .int x3)] rfl (t_X1_mirror_b53 ok (f_X1_mirror_b4 P n) hr_4 h_a0)
      · refine z_iload_n ok 2 dX1_mirror_25 rfl (show zG P G _ _ 26 _ _ from ?_)
        refine z_iconst ok (-1 : Int32) dX1_mirror_26 (by decide) (show zG P G _ _ 27 _ _ from ?_)
        refine z_icmp_eq ok 51 dX1_mirror_27 (by decide) ?_ (show zG P G _ _ 30 _ _ from ?_)
        · exact z_sub [0, 1, 3] [(0, .ref a0), (1, .int x1), (3, .int x3)] rfl (t_X1_mirror_b51 ok (f_X1_mirror_b4 P n) hr_4 h_a0)
        · refine z_aload_n ok 0 dX1_mirror_30 rfl (show zG P G _ _ 31 _ _ from ?_)
          refine z_getR ok fd_20 h_a0 (Or.inl rfl) tf_X1_11 dX1_mirror_31 (fun b31 h_b31 => (show zG P G _ _ 34 _ _ from ?_))
          refine z_iload_n ok 3 dX1_mirror_34 rfl (show zG P G _ _ 35 _ _ from ?_)
          refine z_aald ok ek_13 h_b31 dX1_mirror_35 (fun b35 h_b35 => (show zG P G _ _ 36 _ _ from ?_))
          refine z_getn ok fd_11 h_b35 (Or.inl rfl) tf_X1_255 dX1_mirror_36 (show zG P G _ _ 39 _ _ from ?_)
          refine z_aload_n ok 0 dX1_mirror_39 rfl (show zG P G _ _ 40 _ _ from ?_)
          refine z_getR ok fd_20 h_a0 (Or.inl rfl) tf_X1_11 dX1_mirror_40 (fun b40 h_b40 => (show zG P G _ _ 43 _ _ from ?_))
          refine z_iload_n ok 2 dX1_mirror_43 rfl (show zG P G _ _ 44 _ _ from ?_)
          refine z_aald ok ek_13 h_b40 dX1_mirror_44 (fun b44 h_b44 => (show zG P G _ _ 45 _ _ from ?_))
          refine z_getn ok fd_11 h_b44 (Or.inl rfl) tf_X1_255 dX1_mirror_45 (show zG P G _ _ 48 _ _ from ?_)
          refine z_icmp_ge ok 53 dX1_mirror_48 (by decide) ?_ (show zG P G _ _ 51 _ _ from ?_)
          · exact z_sub [0, 1, 2, 3] [(0, .ref a0), (1, .int x1), (2, .int x2), (3, .int x3)] rfl (t_X1_mirror_b53 ok (f_X1_mirror_b4 P n) hr_4 h_a0)
          · exact z_sub [0, 1, 3] [(0, .ref a0), (1, .int x1), (3, .int x3)] rfl (t_X1_mirror_b51 ok (f_X1_mirror_b4 P n) hr_4 h_a0)
set_option maxRecDepth 100000 in
set_option maxHeartbeats 4000000 in
theorem m_X1_mirror (l : Launch) {P : zSt} (hP : zOKP P) {a0 : Nat} {i1 : Int32} (h_a0 : zT P 1 a0) : zMet l P yX1_mirror cX1_mirror 4 2 41 none [.ref a0, .int i1] (fun m => f_X1_mirror P a0 i1 m) := by
  refine zMet.of hP (by decide +kernel) RX1 rfl [(0, .ref a0), (1, .int i1)] (fun h => h) (Nat.le_of_ble_eq_true rfl) (fun G m ok => ?_)
  show zG P G (f_X1_mirror P a0 i1 m) m 0 _ []
  unfold f_X1_mirror
  refine z_iconst ok (-1 : Int32) dX1_mirror_0 (by decide) (show zG P G _ _ 1 _ _ from ?_)
  refine z_istore_n0 ok [(2, .int (-1 : Int32)), (0, .ref a0), (1, .int i1)] dX1_mirror_1 (by decide) rfl (show zG P G _ _ 2 _ _ from ?_)
  refine z_iconst ok (0 : Int32) dX1_mirror_2 (by decide) (show zG P G _ _ 3 _ _ from ?_)
  refine z_istore_n0 ok [(3, .int (0 : Int32)), (2, .int (-1 : Int32)), (0, .ref a0), (1, .int i1)] dX1_mirror_3 (by decide) rfl (show zG P G _ _ 4 _ _ from ?_)
  exact z_sub [2, 3, 1, 0] [(0, .ref a0), (1, .int i1), (2, .int (-1 : Int32)), (3, .int (0 : Int32))] rfl (t_X1_mirror_b4 ok zfuel _ _ _ _ _ h_a0)
set_option maxRecDepth 100000 in
set_option maxHeartbeats 4000000 in
theorem t_X1_countMembers_b55 {P : zSt} {G : zC} (ok : zOK P G RX1 cX1_countMembers 6 0 0 (some .int)) (rec_5 : Nat → Int32 → Int32 → Int32 → Int32 → zM → Option (Int32 × zM)) (hr_5 : ∀ (a0 : Nat) (x1 : Int32) (x2 : Int32) (x3 : Int32) (x4 : Int32) (m : zM), zT P 1 a0 → zG P G (rec_5 a0 x1 x2 x3 x4 m) m 5 [(0, .ref a0), (1, .int x1), (2, .int x2), (3, .int x3), (4, .int x4)] []) {a0 : Nat} {x1 : Int32} {x2 : Int32} {x3 : Int32} {x4 : Int32} {m : zM} (h_a0 : zT P 1 a0) : zG P G (f_X1_countMembers_b55 P rec_5 a0 x1 x2 x3 x4 m) m 55 [(0, .ref a0), (1, .int x1), (2, .int x2), (3, .int x3), (4, .int x4)] [] := by
  unfold f_X1_countMembers_b55
  refine z_iinc ok (fun v55 => [(4, .int v55), (0, .ref a0), (1, .int x1), (2, .int x2), (3, .int x3)]) 4 dX1_countMembers_55 rfl (by decide) (by decide) (fun _ => rfl) (fun v55 => (show zG P G _ _ 58 _ _ from ?_))
  refine z_goto ok 5 dX1_countMembers_58 (by decide) ?_
  exact z_sub [1, 2, 3, 4, 0] [(0, .ref a0), (1, .int x1), (2, .int x2), (3, .int x3), (4, .int v55)] rfl (hr_5 _ _ _ _ _ _ h_a0)
set_option maxRecDepth 100000 in
set_option maxHeartbeats 4000000 in
theorem t_X1_countMembers_b52 {P : zSt} {G : zC} (ok : zOK P G RX1 cX1_countMembers 6 0 0 (some .int)) (rec_5 : Nat → Int32 → Int32 → Int32 → Int32 → zM → Option (Int32 × zM)) (hr_5 : ∀ (a0 : Nat) (x1 : Int32) (x2 : Int32) (x3 : Int32) (x4 : Int32) (m : zM), zT P 1 a0 → zG P G (rec_5 a0 x1 x2 x3 x4 m) m 5 [(0, .ref a0), (1, .int x1), (2, .int x2), (3, .int x3), (4, .int x4)] []) {a0 : Nat} {x1 : Int32} {x2 : Int32} {x3 : Int32} {x4 : Int32} {m : zM} (h_a0 : zT P 1 a0) : zG P G (f_X1_countMembers_b52 P rec_5 a0 x1 x2 x3 x4 m) m 52 [(0, .ref a0), (1, .int x1), (2, .int x2), (3, .int x3), (4, .int x4)] [] := by
  unfold f_X1_countMembers_b52
  refine z_iinc ok (fun v52 => [(3, .int v52), (0, .ref a0), (1, .int x1), (2, .int x2), (4, .int x4)]) 3 dX1_countMembers_52 rfl (by decide) (by decide) (fun _ => rfl) (fun v52 => (show zG P G _ _ 55 _ _ from ?_))
  exact z_sub [1, 2, 3, 0, 4] [(0, .ref a0), (1, .int x1), (2, .int x2), (3, .int v52), (4, .int x4)] rfl (t_X1_countMembers_b55 ok rec_5 hr_5 h_a0)
set_option maxRecDepth 100000 in
set_option maxHeartbeats 4000000 in
theorem t_X1_countMembers_b5 {P : zSt} {G : zC} (ok : zOK P G RX1 cX1_countMembers 6 0 0 (some .int))  : ∀ (n : Nat) (a0 : Nat) (x1 : Int32) (x2 : Int32) (x3 : Int32) (x4 : Int32) (m : zM) (h_a0 : zT P 1 a0), zG P G (f_X1_countMembers_b5 P n a0 x1 x2 x3 x4 m) m 5 [(0, .ref a0), (1, .int x1), (2, .int x2), (3, .int x3), (4, .int x4)] [] := by
  intro n
  induction n with
  | zero =>
    intros
    exact zG_none
  | succ n ih =>
    intro a0 x1 x2 x3 x4 m h_a0
    unfold f_X1_countMembers_b5
    have hr_5 := ih
    refine z_iload ok 4 dX1_countMembers_5 rfl (show zG P G _ _ 7 _ _ from ?_)
    refine z_aload_n ok 0 dX1_countMembers_7 rfl (show zG P G _ _ 8 _ _ from ?_)
    refine z_get ok fd_21 h_a0 (Or.inl rfl) tf_X1_43 dX1_countMembers_8 (show zG P G _ _ 11 _ _ from ?_)
    refine z_icmp_ge ok 61 dX1_countMembers_11 (by decide) ?_ (show zG P G _ _ 14 _ _ from ?_)
    · refine z_iload_n ok 3 dX1_countMembers_61 rfl (show zG P G _ _ 62 _ _ from ?_)
      exact z_iret ok dX1_countMembers_62
    · refine z_aload_n ok 0 dX1_countMembers_14 rfl (show zG P G _ _ 15 _ _ from ?_)
      refine z_getR ok fd_20 h_a0 (Or.inl rfl) tf_X1_11 dX1_countMembers_15 (fun b15 h_b15 => (show zG P G _ _ 18 _ _ from ?_))
      refine z_iload ok 4 dX1_countMembers_18 rfl (show zG P G _ _ 20 _ _ from ?_)
      refine z_aald ok ek_13 h_b15 dX1_countMembers_20 (fun b20 h_b20 => (show zG P G _ _ 21 _ _ from ?_))
      refine z_astore ok [(5, .ref b20), (0, .ref a0), (1, .int x1), (2, .int x2), (3, .int x3), (4, .int x4)] dX1_countMembers_21 (by decide) rfl (show zG P G _ _ 23 _ _ from ?_)
      refine z_aload ok 0 dX1_countMembers_23 rfl (show zG P G _ _ 25 _ _ from ?_)
      refine z_getn ok fd_3 h_b20 (Or.inl rfl) tf_X1_234 dX1_countMembers_25 (show zG P G _ _ 28 _ _ from ?_)
      refine z_iload_n ok 2 dX1_countMembers_28 rfl (show zG P G _ _ 29 _ _ from ?_)
      refine z_icmp_ne ok 55 dX1_countMembers_29 (by decide) ?_ (show zG P G _ _ 32 _ _ from ?_)
      · exact z_sub [1, 2, 3, 4, 5] [(0, .ref a0), (1, .int x1), (2, .int x2), (3, .int x3), (4, .int x4)] rfl (t_X1_countMembers_b55 ok (f_X1_countMembers_b5 P n) hr_5 h_a0)
      · refine z_aload ok 0 dX1_countMembers_32 rfl (show zG P G _ _ 34 _ _ from ?_)
        refine z_get ok fd_0 h_b20 (Or.inr ts_142) tf_X1_207 dX1_countMembers_34 (show zG P G _ _ 37 _ _ from ?_)
        refine z_if_le ok 55 dX1_countMembers_37 (by decide) ?_ (show zG P G _ _ 40 _ _ from ?_)
        · exact z_sub [1, 2, 3, 4, 5] [(0, .ref a0), (1, .int x1), (2, .int x2), (3, .int x3), (4, .int x4)] rfl (t_X1_countMembers_b55 ok (f_X1_countMembers_b5 P n) hr_5 h_a0)
        · refine z_iload_n ok 3 dX1_countMembers_40 rfl (show zG P G _ _ 41 _ _ from ?_)
          refine z_if_eq ok 52 dX1_countMembers_41 (by decide) ?_ (show zG P G _ _ 44 _ _ from ?_)
          · exact z_sub [1, 2, 3, 4, 5] [(0, .ref a0), (1, .int x1), (2, .int x2), (3, .int x3), (4, .int x4)] rfl (t_X1_countMembers_b52 ok (f_X1_countMembers_b5 P n) hr_5 h_a0)
          · refine z_aload ok 0 dX1_countMembers_44 rfl (show zG P G _ _ 46 _ _ from ?_)
            refine z_getn ok fd_10 h_b20 (Or.inl rfl) tf_X1_98 dX1_countMembers_46 (show zG P G _ _ 49 _ _ from ?_)
            refine z_if_le ok 55 dX1_countMembers_49 (by decide) ?_ (show zG P G _ _ 52 _ _ from ?_)
            · exact z_sub [1, 2, 3, 4, 5] [(0, .ref a0), (1, .int x1), (2, .int x2), (3, .int x3), (4, .int x4)] rfl (t_X1_countMembers_b55 ok (f_X1_countMembers_b5 P n) hr_5 h_a0)
            · exact z_sub [1, 2, 3, 4, 5] [(0, .ref a0), (1, .int x1), (2, .int x2), (3, .int x3), (4, .int x4)] rfl (t_X1_countMembers_b52 ok (f_X1_countMembers_b5 P n) hr_5 h_a0)
set_option maxRecDepth 100000 in
set_option maxHeartbeats 4000000 in
theorem m_X1_countMembers (l : Launch) {P : zSt} (hP : zOKP P) {a0 : Nat} {i1 : Int32} {i2 : Int32} (h_a0 : zT P 1 a0) : zMet l P yX1_countMembers cX1_countMembers 6 0 0 (some .int) [.ref a0, .int i1, .int i2] (fun m => f_X1_countMembers P a0 i1 i2 m) := by
  refine zMet.of hP (by decide +kernel) RX1 rfl [(0, .ref a0), (1, .int i1), (2, .int i2)] (fun h => h) (Nat.le_of_ble_eq_true rfl) (fun G m ok => ?_)
  show zG P G (f_X1_countMembers P a0 i1 i2 m) m 0 _ []
  unfold f_X1_countMembers
  refine z_iconst ok (0 : Int32) dX1_countMembers_0 (by decide) (show zG P G _ _ 1 _ _ from ?_)
  refine z_istore_n0 ok [(3, .int (0 : Int32)), (0, .ref a0), (1, .int i1), (2, .int i2)] dX1_countMembers_1 (by decide) rfl (show zG P G _ _ 2 _ _ from ?_)
  refine z_iconst ok (0 : Int32) dX1_countMembers_2 (by decide) (show zG P G _ _ 3 _ _ from ?_)
  refine z_istore0 ok [(4, .int (0 : Int32)), (3, .int (0 : Int32)), (0, .ref a0), (1, .int i1), (2, .int i2)] dX1_countMembers_3 (by decide) rfl (show zG P G _ _ 5 _ _ from ?_)
  exact z_sub [2, 3, 4, 1, 0] [(0, .ref a0), (1, .int i1), (2, .int i2), (3, .int (0 : Int32)), (4, .int (0 : Int32))] rfl (t_X1_countMembers_b5 ok zfuel _ _ _ _ _ _ h_a0)
set_option maxRecDepth 100000 in
set_option maxHeartbeats 4000000 in
theorem t_X1_isToEject_b56 {P : zSt} {G : zC} (ok : zOK P G RX1 cX1_isToEject 3 1 25 (some .boolean))   {m : zM}  : zG P G (f_X1_isToEject_b56 P  m) m 56 [] [] := by
  unfold f_X1_isToEject_b56
  refine z_iconst ok (0 : Int32) dX1_isToEject_56 (by decide) (show zG P G _ _ 57 _ _ from ?_)
  exact z_zret ok dX1_isToEject_57
set_option maxRecDepth 100000 in
set_option maxHeartbeats 4000000 in
theorem m_X1_isToEject (l : Launch) {P : zSt} (hP : zOKP P) {a0 : Nat} {a1 : Nat} (h_a0 : zT P 1 a0) (h_a1 : zT P 0 a1) : zMet l P yX1_isToEject cX1_isToEject 3 1 25 (some .boolean) [.ref a0, .ref a1] (fun m => f_X1_isToEject P a0 a1 m) := by
  refine zMet.of hP (by decide +kernel) RX1 rfl [(0, .ref a0), (1, .ref a1)] (fun h => h) (Nat.le_of_ble_eq_true rfl) (fun G m ok => ?_)
  show zG P G (f_X1_isToEject P a0 a1 m) m 0 _ []
  unfold f_X1_isToEject
  refine z_aload_n ok 0 dX1_isToEject_0 rfl (show zG P G _ _ 1 _ _ from ?_)
  refine z_getR ok fd_22 h_a0 (Or.inl rfl) tf_X1_19 dX1_isToEject_1 (fun b1 h_b1 => (show zG P G _ _ 4 _ _ from ?_))
  refine z_aload_n ok 1 dX1_isToEject_4 rfl (show zG P G _ _ 5 _ _ from ?_)
  refine z_getn ok fd_3 h_a1 (Or.inl rfl) tf_X1_234 dX1_isToEject_5 (show zG P G _ _ 8 _ _ from ?_)
  refine z_aald ok ek_15 h_b1 dX1_isToEject_8 (fun b8 h_b8 => (show zG P G _ _ 9 _ _ from ?_))
  refine z_astore_n ok [(2, .ref b8), (0, .ref a0), (1, .ref a1)] dX1_isToEject_9 (by decide) rfl (show zG P G _ _ 10 _ _ from ?_)
  refine z_aload_n ok 2 dX1_isToEject_10 rfl (show zG P G _ _ 11 _ _ from ?_)
  refine z_getn ok fd_8 h_a1 (Or.inl rfl) tf_X1_245 dX1_isToEject_11 (show zG P G _ _ 14 _ _ from ?_)
  refine z_aload_n ok 0 dX1_isToEject_14 rfl (show zG P G _ _ 15 _ _ from ?_)
  refine z_getn ok fd_101 h_b8 (Or.inl rfl) tf_X1_108 dX1_isToEject_15 (show zG P G _ _ 18 _ _ from ?_)
  refine z_icmp_lt ok 56 dX1_isToEject_18 (by decide) ?_ (show zG P G _ _ 21 _ _ from ?_)
  · exact z_sub [] [] rfl (t_X1_isToEject_b56 ok)
  · refine z_aload_n ok 1 dX1_isToEject_21 rfl (show zG P G _ _ 22 _ _ from ?_)
    refine z_aload_n ok 2 dX1_isToEject_22 rfl (show zG P G _ _ 23 _ _ from ?_)
    refine z_getn ok fd_3 h_a1 (Or.inl rfl) tf_X1_234 dX1_isToEject_23 (show zG P G _ _ 26 _ _ from ?_)
    refine z_iconst ok (1 : Int32) dX1_isToEject_26 (by decide) (show zG P G _ _ 27 _ _ from ?_)
    refine z_callVi ok [.int (zf m 3 a1), .int (1 : Int32)] (m_X1_countMembers _ ok.p h_a0) cv_X1_248 h_a0 rfl (by decide) rfl (Nat.le_of_ble_eq_true rfl) rfl dX1_isToEject_27 (fun r27 m27 => (show zG P G _ _ 30 _ _ from ?_))
    refine z_iconst ok (1 : Int32) dX1_isToEject_30 (by decide) (show zG P G _ _ 31 _ _ from ?_)
    refine z_iadd ok dX1_isToEject_31 (show zG P G _ _ 32 _ _ from ?_)
    refine z_bipush ok (100 : Int32) dX1_isToEject_32 (by decide) (show zG P G _ _ 34 _ _ from ?_)
    refine z_imul ok dX1_isToEject_34 (show zG P G _ _ 35 _ _ from ?_)
    refine z_aload_n ok 0 dX1_isToEject_35 rfl (show zG P G _ _ 36 _ _ from ?_)
    refine z_getn ok fd_103 h_b8 (Or.inl rfl) tf_X1_252 dX1_isToEject_36 (show zG P G _ _ 39 _ _ from ?_)
    refine z_aload_n ok 1 dX1_isToEject_39 rfl (show zG P G _ _ 40 _ _ from ?_)
    refine z_aload_n ok 2 dX1_isToEject_40 rfl (show zG P G _ _ 41 _ _ from ?_)
    refine z_getn ok fd_3 h_a1 (Or.inl rfl) tf_X1_234 dX1_isToEject_41 (show zG P G _ _ 44 _ _ from ?_)
    refine z_iconst ok (0 : Int32) dX1_isToEject_44 (by decide) (show zG P G _ _ 45 _ _ from ?_)
    refine z_callVi ok [.int (zf m27 3 a1), .int (0 : Int32)] (m_X1_countMembers _ ok.p h_a0) cv_X1_248 h_a0 rfl (by decide) rfl (Nat.le_of_ble_eq_true rfl) rfl dX1_isToEject_45 (fun r45 m45 => (show zG P G _ _ 48 _ _ from ?_))
    refine z_imul ok dX1_isToEject_48 (show zG P G _ _ 49 _ _ from ?_)
    refine z_icmp_gt ok 56 dX1_isToEject_49 (by decide) ?_ (show zG P G _ _ 52 _ _ from ?_)
    · exact z_sub [] [] rfl (t_X1_isToEject_b56 ok)
    · refine z_iconst ok (1 : Int32) dX1_isToEject_52 (by decide) (show zG P G _ _ 53 _ _ from ?_)
      refine z_goto ok 57 dX1_isToEject_53 (by decide) ?_
      exact z_zret ok dX1_isToEject_57
set_option maxRecDepth 100000 in
set_option maxHeartbeats 4000000 in
theorem t_X8_add_b80 {P : zSt} {G : zC} (ok : zOK P G RX8 cX8_add 5 0 0 none)  {a0 : Nat} {s0 : Int32} {s1 : Int32} {t2 : Nat} {m : zM} (h_a0 : zT P 8 a0) (h_t2 : zT P 12 t2) : zG P G (f_X8_add_b80 P a0 s0 s1 t2 m) m 80 [(0, .ref a0)] [.int s0, .int s1, .ref t2] := by
  unfold f_X8_add_b80
  refine z_iast ok h_t2 dX8_add_80 (fun m80 => (show zG P G _ _ 81 _ _ from ?_))
  refine z_aload_n ok 0 dX8_add_81 rfl (show zG P G _ _ 82 _ _ from ?_)
  refine z_dup ok dX8_add_82 rfl (show zG P G _ _ 83 _ _ from ?_)
  refine z_get ok fd_161 h_a0 (Or.inl rfl) tf_X8_16 dX8_add_83 (show zG P G _ _ 86 _ _ from ?_)
  refine z_iconst ok (1 : Int32) dX8_add_86 (by decide) (show zG P G _ _ 87 _ _ from ?_)
  refine z_iadd ok dX8_add_87 (show zG P G _ _ 88 _ _ from ?_)
  refine z_put ok fd_161 h_a0 (Or.inl rfl) tf_X8_16 dX8_add_88 (fun m88 => (show zG P G _ _ 91 _ _ from ?_))
  exact z_vret ok dX8_add_91
set_option maxRecDepth 100000 in
set_option maxHeartbeats 4000000 in
theorem t_X8_add_b59 {P : zSt} {G : zC} (ok : zOK P G RX8 cX8_add 5 0 0 none)  {a0 : Nat} {x4 : Int32} {s0 : Int32} {s1 : Int32} {t2 : Nat} {m : zM} (h_a0 : zT P 8 a0) (h_t2 : zT P 12 t2) : zG P G (f_X8_add_b59 P a0 x4 s0 s1 t2 m) m 59 [(0, .ref a0), (4, .int x4)] [.int s0, .int s1, .ref t2] := by
  unfold f_X8_add_b59
  refine z_iast ok h_t2 dX8_add_59 (fun m59 => (show zG P G _ _ 60 _ _ from ?_))
  refine z_aload_n ok 0 dX8_add_60 rfl (show zG P G _ _ 61 _ _ from ?_)
  refine z_getR ok fd_160 h_a0 (Or.inl rfl) tf_X8_13 dX8_add_61 (fun b61 h_b61 => (show zG P G _ _ 64 _ _ from ?_))
  refine z_aload_n ok 0 dX8_add_64 rfl (show zG P G _ _ 65 _ _ from ?_)
  refine z_get ok fd_161 h_a0 (Or.inl rfl) tf_X8_16 dX8_add_65 (show zG P G _ _ 68 _ _ from ?_)
  refine z_aald ok ek_17 h_b61 dX8_add_68 (fun b68 h_b68 => (show zG P G _ _ 69 _ _ from ?_))
  refine z_iconst ok (3 : Int32) dX8_add_69 (by decide) (show zG P G _ _ 70 _ _ from ?_)
  refine z_iload ok 1 dX8_add_70 rfl (show zG P G _ _ 72 _ _ from ?_)
  refine z_if_eq ok 79 dX8_add_72 (by decide) ?_ (show zG P G _ _ 75 _ _ from ?_)
  · refine z_iconst ok (0 : Int32) dX8_add_79 (by decide) (show zG P G _ _ 80 _ _ from ?_)
    exact z_sub [0] [(0, .ref a0)] rfl (t_X8_add_b80 ok h_a0 h_b68)
  · refine z_iconst ok (1 : Int32) dX8_add_75 (by decide) (show zG P G _ _ 76 _ _ from ?_)
    refine z_goto ok 80 dX8_add_76 (by decide) ?_
    exact z_sub [0] [(0, .ref a0)] rfl (t_X8_add_b80 ok h_a0 h_b68)
set_option maxRecDepth 100000 in
set_option maxHeartbeats 4000000 in
theorem t_X8_add_b39 {P : zSt} {G : zC} (ok : zOK P G RX8 cX8_add 5 0 0 none)  {a0 : Nat} {x3 : Int32} {x4 : Int32} {s0 : Int32} {s1 : Int32} {t2 : Nat} {m : zM} (h_a0 : zT P 8 a0) (h_t2 : zT P 12 t2) : zG P G (f_X8_add_b39 P a0 x3 x4 s0 s1 t2 m) m 39 [(0, .ref a0), (3, .int x3), (4, .int x4)] [.int s0, .int s1, .ref t2] := by
  unfold f_X8_add_b39
  refine z_iast ok h_t2 dX8_add_39 (fun m39 => (show zG P G _ _ 40 _ _ from ?_))
  refine z_aload_n ok 0 dX8_add_40 rfl (show zG P G _ _ 41 _ _ from ?_)
  refine z_getR ok fd_160 h_a0 (Or.inl rfl) tf_X8_13 dX8_add_41 (fun b41 h_b41 => (show zG P G _ _ 44 _ _ from ?_))
  refine z_aload_n ok 0 dX8_add_44 rfl (show zG P G _ _ 45 _ _ from ?_)
  refine z_get ok fd_161 h_a0 (Or.inl rfl) tf_X8_16 dX8_add_45 (show zG P G _ _ 48 _ _ from ?_)
  refine z_aald ok ek_17 h_b41 dX8_add_48 (fun b48 h_b48 => (show zG P G _ _ 49 _ _ from ?_))
  refine z_iconst ok (2 : Int32) dX8_add_49 (by decide) (show zG P G _ _ 50 _ _ from ?_)
  refine z_iload_n ok 1 dX8_add_50 rfl (show zG P G _ _ 51 _ _ from ?_)
  refine z_if_eq ok 58 dX8_add_51 (by decide) ?_ (show zG P G _ _ 54 _ _ from ?_)
  · refine z_iconst ok (0 : Int32) dX8_add_58 (by decide) (show zG P G _ _ 59 _ _ from ?_)
    exact z_sub [0, 2] [(0, .ref a0), (4, .int x4)] rfl (t_X8_add_b59 ok h_a0 h_b48)
  · refine z_iconst ok (1 : Int32) dX8_add_54 (by decide) (show zG P G _ _ 55 _ _ from ?_)
    refine z_goto ok 59 dX8_add_55 (by decide) ?_
    exact z_sub [0, 2] [(0, .ref a0), (4, .int x4)] rfl (t_X8_add_b59 ok h_a0 h_b48)
set_option maxRecDepth 100000 in
set_option maxHeartbeats 4000000 in
theorem m_X8_add (l : Launch) {P : zSt} (hP : zOKP P) {a0 : Nat} {i1 : Int32} {i2 : Int32} {i3 : Int32} {i4 : Int32} (h_a0 : zT P 8 a0) : zMet l P yX8_add cX8_add 5 0 0 none [.ref a0, .int i1, .int i2, .int i3, .int i4] (fun m => f_X8_add P a0 i1 i2 i3 i4 m) := by
  refine zMet.of hP (by decide +kernel) RX8 rfl [(0, .ref a0), (1, .int i1), (2, .int i2), (3, .int i3), (4, .int i4)] (fun h => h) (Nat.le_of_ble_eq_true rfl) (fun G m ok => ?_)
  show zG P G (f_X8_add P a0 i1 i2 i3 i4 m) m 0 _ []
  unfold f_X8_add
  refine z_aload_n ok 0 dX8_add_0 rfl (show zG P G _ _ 1 _ _ from ?_)
  refine z_get ok fd_161 h_a0 (Or.inl rfl) tf_X8_16 dX8_add_1 (show zG P G _ _ 4 _ _ from ?_)
  refine z_iconst ok (4 : Int32) dX8_add_4 (by decide) (show zG P G _ _ 5 _ _ from ?_)
  refine z_icmp_ge ok 91 dX8_add_5 (by decide) ?_ (show zG P G _ _ 8 _ _ from ?_)
  · exact z_vret ok dX8_add_91
  · refine z_aload_n ok 0 dX8_add_8 rfl (show zG P G _ _ 9 _ _ from ?_)
    refine z_getR ok fd_160 h_a0 (Or.inl rfl) tf_X8_13 dX8_add_9 (fun b9 h_b9 => (show zG P G _ _ 12 _ _ from ?_))
    refine z_aload_n ok 0 dX8_add_12 rfl (show zG P G _ _ 13 _ _ from ?_)
    refine z_get ok fd_161 h_a0 (Or.inl rfl) tf_X8_16 dX8_add_13 (show zG P G _ _ 16 _ _ from ?_)
    refine z_aald ok ek_17 h_b9 dX8_add_16 (fun b16 h_b16 => (show zG P G _ _ 17 _ _ from ?_))
    refine z_iconst ok (0 : Int32) dX8_add_17 (by decide) (show zG P G _ _ 18 _ _ from ?_)
    refine z_iload_n ok 1 dX8_add_18 rfl (show zG P G _ _ 19 _ _ from ?_)
    refine z_iast ok h_b16 dX8_add_19 (fun m19 => (show zG P G _ _ 20 _ _ from ?_))
    refine z_aload_n ok 0 dX8_add_20 rfl (show zG P G _ _ 21 _ _ from ?_)
    refine z_getR ok fd_160 h_a0 (Or.inl rfl) tf_X8_13 dX8_add_21 (fun b21 h_b21 => (show zG P G _ _ 24 _ _ from ?_))
    refine z_aload_n ok 0 dX8_add_24 rfl (show zG P G _ _ 25 _ _ from ?_)
    refine z_get ok fd_161 h_a0 (Or.inl rfl) tf_X8_16 dX8_add_25 (show zG P G _ _ 28 _ _ from ?_)
    refine z_aald ok ek_17 h_b21 dX8_add_28 (fun b28 h_b28 => (show zG P G _ _ 29 _ _ from ?_))
    refine z_iconst ok (1 : Int32) dX8_add_29 (by decide) (show zG P G _ _ 30 _ _ from ?_)
    refine z_iload_n ok 2 dX8_add_30 rfl (show zG P G _ _ 31 _ _ from ?_)
    refine z_if_eq ok 38 dX8_add_31 (by decide) ?_ (show zG P G _ _ 34 _ _ from ?_)
    · refine z_iconst ok (0 : Int32) dX8_add_38 (by decide) (show zG P G _ _ 39 _ _ from ?_)
      exact z_sub [0, 3, 4] [(0, .ref a0), (3, .int i3), (4, .int i4)] rfl (t_X8_add_b39 ok h_a0 h_b28)
    · refine z_iconst ok (1 : Int32) dX8_add_34 (by decide) (show zG P G _ _ 35 _ _ from ?_)
      refine z_goto ok 39 dX8_add_35 (by decide) ?_
      exact z_sub [0, 3, 4] [(0, .ref a0), (3, .int i3), (4, .int i4)] rfl (t_X8_add_b39 ok h_a0 h_b28)
set_option maxRecDepth 100000 in
set_option maxHeartbeats 4000000 in
theorem t_X1_attempt_b104 {P : zSt} {G : zC} (ok : zOK P G RX1 cX1_attempt 6 2 47 (some .boolean))  {x4 : Int32} {x5 : Int32} {s0 : Int32} {s1 : Int32} {s2 : Int32} {t3 : Nat} {m : zM} (h_t3 : zT P 8 t3) : zG P G (f_X1_attempt_b104 P x4 x5 s0 s1 s2 t3 m) m 104 [(4, .int x4), (5, .int x5)] [.int s0, .int s1, .int s2, .ref t3] := by
  unfold f_X1_attempt_b104
  refine z_iload ok 1 dX1_attempt_104 rfl (show zG P G _ _ 106 _ _ from ?_)
  refine z_callVv ok [.int s2, .int s1, .int s0, .int x5] (m_X8_add _ ok.p h_t3) cv_X1_241 h_t3 rfl (by decide) rfl (Nat.le_of_ble_eq_true rfl) rfl dX1_attempt_106 (fun _ m106 => (show zG P G _ _ 109 _ _ from ?_))
  refine z_iload ok 0 dX1_attempt_109 rfl (show zG P G _ _ 111 _ _ from ?_)
  exact z_zret ok dX1_attempt_111
set_option maxRecDepth 100000 in
set_option maxHeartbeats 4000000 in
theorem t_X1_attempt_b74 {P : zSt} {G : zC} (ok : zOK P G RX1 cX1_attempt 6 2 47 (some .boolean))  {a0 : Nat} {x1 : Int32} {x2 : Int32} {a3 : Nat} {x4 : Int32} {x5 : Int32} {m : zM} (h_a0 : zT P 1 a0) (h_a3 : zT P 0 a3) : zG P G (f_X1_attempt_b74 P a0 x1 x2 a3 x4 x5 m) m 74 [(0, .ref a0), (1, .int x1), (2, .int x2), (3, .ref a3), (4, .int x4), (5, .int x5)] [] := by
  unfold f_X1_attempt_b74
  refine z_aload_n ok 0 dX1_attempt_74 rfl (show zG P G _ _ 75 _ _ from ?_)
  refine z_dup ok dX1_attempt_75 rfl (show zG P G _ _ 76 _ _ from ?_)
  refine z_get ok fd_32 h_a0 (Or.inl rfl) tf_X1_77 dX1_attempt_76 (show zG P G _ _ 79 _ _ from ?_)
  refine z_iconst ok (1 : Int32) dX1_attempt_79 (by decide) (show zG P G _ _ 80 _ _ from ?_)
  refine z_iadd ok dX1_attempt_80 (show zG P G _ _ 81 _ _ from ?_)
  refine z_put ok fd_32 h_a0 (Or.inl rfl) tf_X1_77 dX1_attempt_81 (fun m81 => (show zG P G _ _ 84 _ _ from ?_))
  refine z_aload_n ok 0 dX1_attempt_84 rfl (show zG P G _ _ 85 _ _ from ?_)
  refine z_getR ok fd_35 h_a0 (Or.inl rfl) tf_X1_36 dX1_attempt_85 (fun b85 h_b85 => (show zG P G _ _ 88 _ _ from ?_))
  refine z_iload_n ok 1 dX1_attempt_88 rfl (show zG P G _ _ 89 _ _ from ?_)
  refine z_iload ok 4 dX1_attempt_89 rfl (show zG P G _ _ 91 _ _ from ?_)
  refine z_aload_n ok 3 dX1_attempt_91 rfl (show zG P G _ _ 92 _ _ from ?_)
  refine z_getn ok fd_4 h_a3 (Or.inl rfl) tf_X1_204 dX1_attempt_92 (show zG P G _ _ 95 _ _ from ?_)
  refine z_iload_n ok 2 dX1_attempt_95 rfl (show zG P G _ _ 96 _ _ from ?_)
  refine z_icmp_ne ok 103 dX1_attempt_96 (by decide) ?_ (show zG P G _ _ 99 _ _ from ?_)
  · refine z_iconst ok (0 : Int32) dX1_attempt_103 (by decide) (show zG P G _ _ 104 _ _ from ?_)
    exact z_sub [4, 5] [(4, .int x4), (5, .int x5)] rfl (t_X1_attempt_b104 ok h_b85)
  · refine z_iconst ok (1 : Int32) dX1_attempt_99 (by decide) (show zG P G _ _ 100 _ _ from ?_)
    refine z_goto ok 104 dX1_attempt_100 (by decide) ?_
    exact z_sub [4, 5] [(4, .int x4), (5, .int x5)] rfl (t_X1_attempt_b104 ok h_b85)
set_option maxRecDepth 100000 in
set_option maxHeartbeats 4000000 in
theorem t_X1_attempt_b41 {P : zSt} {G : zC} (ok : zOK P G RX1 cX1_attempt 6 2 47 (some .boolean))  {a0 : Nat} {x1 : Int32} {x2 : Int32} {a3 : Nat} {x4 : Int32} {s0 : Int32} {m : zM} (h_a0 : zT P 1 a0) (h_a3 : zT P 0 a3) : zG P G (f_X1_attempt_b41 P a0 x1 x2 a3 x4 s0 m) m 41 [(0, .ref a0), (1, .int x1), (2, .int x2), (3, .ref a3), (4, .int x4)] [.int s0] := by
  unfold f_X1_attempt_b41
  refine z_istore0 ok [(5, .int s0), (0, .ref a0), (1, .int x1), (2, .int x2), (3, .ref a3), (4, .int x4)] dX1_attempt_41 (by decide) rfl (show zG P G _ _ 43 _ _ from ?_)
  refine z_iload ok 0 dX1_attempt_43 rfl (show zG P G _ _ 45 _ _ from ?_)
  refine z_if_eq ok 74 dX1_attempt_45 (by decide) ?_ (show zG P G _ _ 48 _ _ from ?_)
  · exact z_sub [1, 2, 3, 4, 5, 0] [(0, .ref a0), (1, .int x1), (2, .int x2), (3, .ref a3), (4, .int x4), (5, .int s0)] rfl (t_X1_attempt_b74 ok h_a0 h_a3)
  · refine z_aload_n ok 4 dX1_attempt_48 rfl (show zG P G _ _ 49 _ _ from ?_)
    refine z_aload_n ok 1 dX1_attempt_49 rfl (show zG P G _ _ 50 _ _ from ?_)
    refine z_getR ok fd_22 h_a0 (Or.inl rfl) tf_X1_19 dX1_attempt_50 (fun b50 h_b50 => (show zG P G _ _ 53 _ _ from ?_))
    refine z_aload_n ok 4 dX1_attempt_53 rfl (show zG P G _ _ 54 _ _ from ?_)
    refine z_getn ok fd_3 h_a3 (Or.inl rfl) tf_X1_234 dX1_attempt_54 (show zG P G _ _ 57 _ _ from ?_)
    refine z_aald ok ek_15 h_b50 dX1_attempt_57 (fun b57 h_b57 => (show zG P G _ _ 58 _ _ from ?_))
    refine z_getn ok fd_102 h_b57 (Or.inl rfl) tf_X1_235 dX1_attempt_58 (show zG P G _ _ 61 _ _ from ?_)
    refine z_callVv ok [.int (zf m 102 b57)] (m_X0_eject _ ok.p h_a3) cv_X1_238 h_a3 rfl (by decide) rfl (Nat.le_of_ble_eq_true rfl) rfl dX1_attempt_61 (fun _ m61 => (show zG P G _ _ 64 _ _ from ?_))
    refine z_aload_n ok 1 dX1_attempt_64 rfl (show zG P G _ _ 65 _ _ from ?_)
    refine z_dup ok dX1_attempt_65 rfl (show zG P G _ _ 66 _ _ from ?_)
    refine z_get ok fd_34 h_a0 (Or.inl rfl) tf_X1_83 dX1_attempt_66 (show zG P G _ _ 69 _ _ from ?_)
    refine z_iconst ok (1 : Int32) dX1_attempt_69 (by decide) (show zG P G _ _ 70 _ _ from ?_)
    refine z_iadd ok dX1_attempt_70 (show zG P G _ _ 71 _ _ from ?_)
    refine z_put ok fd_34 h_a0 (Or.inl rfl) tf_X1_83 dX1_attempt_71 (fun m71 => (show zG P G _ _ 74 _ _ from ?_))
    exact z_sub [1, 2, 3, 4, 5, 0] [(0, .ref a0), (1, .int x1), (2, .int x2), (3, .ref a3), (4, .int x4), (5, .int s0)] rfl (t_X1_attempt_b74 ok h_a0 h_a3)
set_option maxRecDepth 100000 in
set_option maxHeartbeats 4000000 in
theorem t_X1_attempt_b40 {P : zSt} {G : zC} (ok : zOK P G RX1 cX1_attempt 6 2 47 (some .boolean))  {a0 : Nat} {x1 : Int32} {x2 : Int32} {a3 : Nat} {x4 : Int32} {m : zM} (h_a0 : zT P 1 a0) (h_a3 : zT P 0 a3) : zG P G (f_X1_attempt_b40 P a0 x1 x2 a3 x4 m) m 40 [(0, .ref a0), (1, .int x1), (2, .int x2), (3, .ref a3), (4, .int x4)] [] := by
  unfold f_X1_attempt_b40
  refine z_iconst ok (0 : Int32) dX1_attempt_40 (by decide) (show zG P G _ _ 41 _ _ from ?_)
  exact z_sub [0, 1, 2, 3, 4] [(0, .ref a0), (1, .int x1), (2, .int x2), (3, .ref a3), (4, .int x4)] rfl (t_X1_attempt_b41 ok h_a0 h_a3)
set_option maxRecDepth 100000 in
set_option maxHeartbeats 4000000 in
theorem m_X1_attempt (l : Launch) {P : zSt} (hP : zOKP P) {a0 : Nat} {i1 : Int32} {i2 : Int32} (h_a0 : zT P 1 a0) : zMet l P yX1_attempt cX1_attempt 6 2 47 (some .boolean) [.ref a0, .int i1, .int i2] (fun m => f_X1_attempt P a0 i1 i2 m) := by
  refine zMet.of hP (by decide +kernel) RX1 rfl [(0, .ref a0), (1, .int i1), (2, .int i2)] (fun h => h) (Nat.le_of_ble_eq_true rfl) (fun G m ok => ?_)
  show zG P G (f_X1_attempt P a0 i1 i2 m) m 0 _ []
  unfold f_X1_attempt
  refine z_aload_n ok 0 dX1_attempt_0 rfl (show zG P G _ _ 1 _ _ from ?_)
  refine z_iload_n ok 1 dX1_attempt_1 rfl (show zG P G _ _ 2 _ _ from ?_)
  refine z_callVi ok [.int i1] (m_X1_hasBackend _ ok.p h_a0) cv_X1_225 h_a0 rfl (by decide) rfl (Nat.le_of_ble_eq_true rfl) rfl dX1_attempt_2 (fun r2 m2 => (show zG P G _ _ 5 _ _ from ?_))
  refine z_if_ne ok 10 dX1_attempt_5 (by decide) ?_ (show zG P G _ _ 8 _ _ from ?_)
  · refine z_aload_n ok 0 dX1_attempt_10 rfl (show zG P G _ _ 11 _ _ from ?_)
    refine z_getR ok fd_20 h_a0 (Or.inl rfl) tf_X1_11 dX1_attempt_11 (fun b11 h_b11 => (show zG P G _ _ 14 _ _ from ?_))
    refine z_iload_n ok 1 dX1_attempt_14 rfl (show zG P G _ _ 15 _ _ from ?_)
    refine z_aald ok ek_13 h_b11 dX1_attempt_15 (fun b15 h_b15 => (show zG P G _ _ 16 _ _ from ?_))
    refine z_astore_n ok [(3, .ref b15), (0, .ref a0), (1, .int i1), (2, .int i2)] dX1_attempt_16 (by decide) rfl (show zG P G _ _ 17 _ _ from ?_)
    refine z_aload_n ok 0 dX1_attempt_17 rfl (show zG P G _ _ 18 _ _ from ?_)
    refine z_callVi ok [] (m_X0_attempt _ ok.p h_b15) cv_X1_228 h_b15 rfl (by decide) rfl (Nat.le_of_ble_eq_true rfl) rfl dX1_attempt_18 (fun r18 m18 => (show zG P G _ _ 21 _ _ from ?_))
    refine z_istore0 ok [(4, .int r18), (3, .ref b15), (0, .ref a0), (1, .int i1), (2, .int i2)] dX1_attempt_21 (by decide) rfl (show zG P G _ _ 23 _ _ from ?_)
    refine z_iload ok 0 dX1_attempt_23 rfl (show zG P G _ _ 25 _ _ from ?_)
    refine z_if_ne ok 40 dX1_attempt_25 (by decide) ?_ (show zG P G _ _ 28 _ _ from ?_)
    · exact z_sub [2, 3, 4, 1, 0] [(0, .ref a0), (1, .int i1), (2, .int i2), (3, .ref b15), (4, .int r18)] rfl (t_X1_attempt_b40 ok h_a0 h_b15)
    · refine z_aload_n ok 2 dX1_attempt_28 rfl (show zG P G _ _ 29 _ _ from ?_)
      refine z_aload_n ok 1 dX1_attempt_29 rfl (show zG P G _ _ 30 _ _ from ?_)
      refine z_callVi ok [.ref b15] (m_X1_isToEject _ ok.p h_a0 h_b15) cv_X1_231 h_a0 rfl (by decide) rfl (Nat.le_of_ble_eq_true rfl) rfl dX1_attempt_30 (fun r30 m30 => (show zG P G _ _ 33 _ _ from ?_))
      refine z_if_eq ok 40 dX1_attempt_33 (by decide) ?_ (show zG P G _ _ 36 _ _ from ?_)
      · exact z_sub [2, 3, 4, 1, 0] [(0, .ref a0), (1, .int i1), (2, .int i2), (3, .ref b15), (4, .int r18)] rfl (t_X1_attempt_b40 ok h_a0 h_b15)
      · refine z_iconst ok (1 : Int32) dX1_attempt_36 (by decide) (show zG P G _ _ 37 _ _ from ?_)
        refine z_goto ok 41 dX1_attempt_37 (by decide) ?_
        exact z_sub [2, 3, 4, 1, 0] [(0, .ref a0), (1, .int i1), (2, .int i2), (3, .ref b15), (4, .int r18)] rfl (t_X1_attempt_b41 ok h_a0 h_b15)
  · refine z_iconst ok (0 : Int32) dX1_attempt_8 (by decide) (show zG P G _ _ 9 _ _ from ?_)
    exact z_zret ok dX1_attempt_9
set_option maxRecDepth 100000 in
set_option maxHeartbeats 4000000 in
theorem t_X1_gatherCandidates_b64 {P : zSt} {G : zC} (ok : zOK P G RX1 cX1_gatherCandidates 5 1 21 (some .boolean)) (rec_4 : Nat → Int32 → Int32 → Int32 → zM → Option (Int32 × zM)) (hr_4 : ∀ (a0 : Nat) (x1 : Int32) (x2 : Int32) (x3 : Int32) (m : zM), zT P 1 a0 → zG P G (rec_4 a0 x1 x2 x3 m) m 4 [(0, .ref a0), (1, .int x1), (2, .int x2), (3, .int x3)] []) {a0 : Nat} {x1 : Int32} {x3 : Int32} {s0 : Int32} {m : zM} (h_a0 : zT P 1 a0) : zG P G (f_X1_gatherCandidates_b64 P rec_4 a0 x1 x3 s0 m) m 64 [(0, .ref a0), (1, .int x1), (3, .int x3)] [.int s0] := by
  unfold f_X1_gatherCandidates_b64
  refine z_istore_n0 ok [(2, .int s0), (0, .ref a0), (1, .int x1), (3, .int x3)] dX1_gatherCandidates_64 (by decide) rfl (show zG P G _ _ 65 _ _ from ?_)
  refine z_iinc ok (fun v65 => [(3, .int v65), (2, .int s0), (0, .ref a0), (1, .int x1)]) 3 dX1_gatherCandidates_65 rfl (by decide) (by decide) (fun _ => rfl) (fun v65 => (show zG P G _ _ 68 _ _ from ?_))
  refine z_goto ok 4 dX1_gatherCandidates_68 (by decide) ?_
  exact z_sub [2, 3, 1, 0] [(0, .ref a0), (1, .int x1), (2, .int s0), (3, .int v65)] rfl (hr_4 _ _ _ _ _ h_a0)
set_option maxRecDepth 100000 in
set_option maxHeartbeats 4000000 in
theorem t_X1_gatherCandidates_b59 {P : zSt} {G : zC} (ok : zOK P G RX1 cX1_gatherCandidates 5 1 21 (some .boolean)) (rec_4 : Nat → Int32 → Int32 → Int32 → zM → Option (Int32 × zM)) (hr_4 : ∀ (a0 : Nat) (x1 : Int32) (x2 : Int32) (x3 : Int32) (m : zM), zT P 1 a0 → zG P G (rec_4 a0 x1 x2 x3 m) m 4 [(0, .ref a0), (1, .int x1), (2, .int x2), (3, .int x3)] []) {a0 : Nat} {x1 : Int32} {x3 : Int32} {m : zM} (h_a0 : zT P 1 a0) : zG P G (f_X1_gatherCandidates_b59 P rec_4 a0 x1 x3 m) m 59 [(0, .ref a0), (1, .int x1), (3, .int x3)] [] := by
  unfold f_X1_gatherCandidates_b59
  refine z_iconst ok (1 : Int32) dX1_gatherCandidates_59 (by decide) (show zG P G _ _ 60 _ _ from ?_)
  refine z_goto ok 64 dX1_gatherCandidates_60 (by decide) ?_
  exact z_sub [0, 1, 2] [(0, .ref a0), (1, .int x1), (3, .int x3)] rfl (t_X1_gatherCandidates_b64 ok rec_4 hr_4 h_a0)
set_option maxRecDepth 100000 in
set_option maxHeartbeats 4000000 in
theorem t_X1_gatherCandidates_b44 {P : zSt} {G : zC} (ok : zOK P G RX1 cX1_gatherCandidates 5 1 21 (some .boolean)) (rec_4 : Nat → Int32 → Int32 → Int32 → zM → Option (Int32 × zM)) (hr_4 : ∀ (a0 : Nat) (x1 : Int32) (x2 : Int32) (x3 : Int32) (m : zM), zT P 1 a0 → zG P G (rec_4 a0 x1 x2 x3 m) m 4 [(0, .ref a0), (1, .int x1), (2, .int x2), (3, .int x3)] []) {a0 : Nat} {x1 : Int32} {x2 : Int32} {x3 : Int32} {a4 : Nat} {s0 : Int32} {t1 : Nat} {m : zM} (h_a0 : zT P 1 a0) (h_a4 : zT P 0 a4) (h_t1 : zT P 0 t1) : zG P G (f_X1_gatherCandidates_b44 P rec_4 a0 x1 x2 x3 a4 s0 t1 m) m 44 [(0, .ref a0), (1, .int x1), (2, .int x2), (3, .int x3), (4, .ref a4)] [.int s0, .ref t1] := by
  unfold f_X1_gatherCandidates_b44
  refine z_putZ ok fd_2 h_t1 (Or.inr ts_156) tf_X1_191 dX1_gatherCandidates_44 (fun m44 => (show zG P G _ _ 47 _ _ from ?_))
  refine z_iload_n ok 2 dX1_gatherCandidates_47 rfl (show zG P G _ _ 48 _ _ from ?_)
  refine z_if_ne ok 59 dX1_gatherCandidates_48 (by decide) ?_ (show zG P G _ _ 51 _ _ from ?_)
  · exact z_sub [0, 1, 3] [(0, .ref a0), (1, .int x1), (3, .int x3)] rfl (t_X1_gatherCandidates_b59 ok rec_4 hr_4 h_a0)
  · refine z_aload ok 4 dX1_gatherCandidates_51 rfl (show zG P G _ _ 53 _ _ from ?_)
    refine z_get ok fd_2 h_a4 (Or.inr ts_156) tf_X1_191 dX1_gatherCandidates_53 (show zG P G _ _ 56 _ _ from ?_)
    refine z_if_eq ok 63 dX1_gatherCandidates_56 (by decide) ?_ (show zG P G _ _ 59 _ _ from ?_)
    · refine z_iconst ok (0 : Int32) dX1_gatherCandidates_63 (by decide) (show zG P G _ _ 64 _ _ from ?_)
      exact z_sub [0, 1, 3] [(0, .ref a0), (1, .int x1), (3, .int x3)] rfl (t_X1_gatherCandidates_b64 ok rec_4 hr_4 h_a0)
    · exact z_sub [0, 1, 3] [(0, .ref a0), (1, .int x1), (3, .int x3)] rfl (t_X1_gatherCandidates_b59 ok rec_4 hr_4 h_a0)
set_option maxRecDepth 100000 in
set_option maxHeartbeats 4000000 in
theorem t_X1_gatherCandidates_b43 {P : zSt} {G : zC} (ok : zOK P G RX1 cX1_gatherCandidates 5 1 21 (some .boolean)) (rec_4 : Nat → Int32 → Int32 → Int32 → zM → Option (Int32 × zM)) (hr_4 : ∀ (a0 : Nat) (x1 : Int32) (x2 : Int32) (x3 : Int32) (m : zM), zT P 1 a0 → zG P G (rec_4 a0 x1 x2 x3 m) m 4 [(0, .ref a0), (1, .int x1), (2, .int x2), (3, .int x3)] []) {a0 : Nat} {x1 : Int32} {x2 : Int32} {x3 : Int32} {a4 : Nat} {t0 : Nat} {m : zM} (h_a0 : zT P 1 a0) (h_a4 : zT P 0 a4) (h_t0 : zT P 0 t0) : zG P G (f_X1_gatherCandidates_b43 P rec_4 a0 x1 x2 x3 a4 t0 m) m 43 [(0, .ref a0), (1, .int x1), (2, .int x2), (3, .int x3), (4, .ref a4)] [.ref t0] := by
  unfold f_X1_gatherCandidates_b43
  refine z_iconst ok (0 : Int32) dX1_gatherCandidates_43 (by decide) (show zG P G _ _ 44 _ _ from ?_)
  exact z_sub [0, 1, 2, 3, 4] [(0, .ref a0), (1, .int x1), (2, .int x2), (3, .int x3), (4, .ref a4)] rfl (t_X1_gatherCandidates_b44 ok rec_4 hr_4 h_a0 h_a4 h_t0)
set_option maxRecDepth 100000 in
set_option maxHeartbeats 4000000 in
theorem t_X1_gatherCandidates_b4 {P : zSt} {G : zC} (ok : zOK P G RX1 cX1_gatherCandidates 5 1 21 (some .boolean))  : ∀ (n : Nat) (a0 : Nat) (x1 : Int32) (x2 : Int32) (x3 : Int32) (m : zM) (h_a0 : zT P 1 a0), zG P G (f_X1_gatherCandidates_b4 P n a0 x1 x2 x3 m) m 4 [(0, .ref a0), (1, .int x1), (2, .int x2), (3, .int x3)] [] := by
  intro n
  induction n with
  | zero =>
    intros
    exact zG_none
  | succ n ih =>
    intro a0 x1 x2 x3 m h_a0
    unfold f_X1_gatherCandidates_b4
    have hr_4 := ih
    refine z_iload_n ok 3 dX1_gatherCandidates_4 rfl (show zG P G _ _ 5 _ _ from ?_)
    refine z_aload_n ok 0 dX1_gatherCandidates_5 rfl (show zG P G _ _ 6 _ _ from ?_)
    refine z_get ok fd_21 h_a0 (Or.inl rfl) tf_X1_43 dX1_gatherCandidates_6 (show zG P G _ _ 9 _ _ from ?_)
    refine z_icmp_ge ok 71 dX1_gatherCandidates_9 (by decide) ?_ (show zG P G _ _ 12 _ _ from ?_)
    · refine z_iload_n ok 2 dX1_gatherCandidates_71 rfl (show zG P G _ _ 72 _ _ from ?_)
      exact z_zret ok dX1_gatherCandidates_72
    · refine z_aload_n ok 0 dX1_gatherCandidates_12 rfl (show zG P G _ _ 13 _ _ from ?_)
      refine z_getR ok fd_20 h_a0 (Or.inl rfl) tf_X1_11 dX1_gatherCandidates_13 (fun b13 h_b13 => (show zG P G _ _ 16 _ _ from ?_))
      refine z_iload_n ok 3 dX1_gatherCandidates_16 rfl (show zG P G _ _ 17 _ _ from ?_)
      refine z_aald ok ek_13 h_b13 dX1_gatherCandidates_17 (fun b17 h_b17 => (show zG P G _ _ 18 _ _ from ?_))
      refine z_astore ok [(4, .ref b17), (0, .ref a0), (1, .int x1), (2, .int x2), (3, .int x3)] dX1_gatherCandidates_18 (by decide) rfl (show zG P G _ _ 20 _ _ from ?_)
      refine z_aload ok 0 dX1_gatherCandidates_20 rfl (show zG P G _ _ 22 _ _ from ?_)
      refine z_aload ok 0 dX1_gatherCandidates_22 rfl (show zG P G _ _ 24 _ _ from ?_)
      refine z_getn ok fd_13 h_b17 (Or.inl rfl) tf_X1_173 dX1_gatherCandidates_24 (show zG P G _ _ 27 _ _ from ?_)
      refine z_if_ne ok 43 dX1_gatherCandidates_27 (by decide) ?_ (show zG P G _ _ 30 _ _ from ?_)
      · exact z_sub [1, 2, 3, 4, 0] [(0, .ref a0), (1, .int x1), (2, .int x2), (3, .int x3), (4, .ref b17)] rfl (t_X1_gatherCandidates_b43 ok (f_X1_gatherCandidates_b4 P n) hr_4 h_a0 h_b17 h_b17)
      · refine z_aload ok 0 dX1_gatherCandidates_30 rfl (show zG P G _ _ 32 _ _ from ?_)
        refine z_iload_n ok 2 dX1_gatherCandidates_32 rfl (show zG P G _ _ 33 _ _ from ?_)
        refine z_callVi ok [.int x1] (m_X0_isAvailableIn _ ok.p h_b17) cv_X1_164 h_b17 rfl (by decide) rfl (Nat.le_of_ble_eq_true rfl) rfl dX1_gatherCandidates_33 (fun r33 m33 => (show zG P G _ _ 36 _ _ from ?_))
        refine z_if_eq ok 43 dX1_gatherCandidates_36 (by decide) ?_ (show zG P G _ _ 39 _ _ from ?_)
        · exact z_sub [1, 2, 3, 4, 0] [(0, .ref a0), (1, .int x1), (2, .int x2), (3, .int x3), (4, .ref b17)] rfl (t_X1_gatherCandidates_b43 ok (f_X1_gatherCandidates_b4 P n) hr_4 h_a0 h_b17 h_b17)
        · refine z_iconst ok (1 : Int32) dX1_gatherCandidates_39 (by decide) (show zG P G _ _ 40 _ _ from ?_)
          refine z_goto ok 44 dX1_gatherCandidates_40 (by decide) ?_
          exact z_sub [1, 2, 3, 4, 0] [(0, .ref a0), (1, .int x1), (2, .int x2), (3, .int x3), (4, .ref b17)] rfl (t_X1_gatherCandidates_b44 ok (f_X1_gatherCandidates_b4 P n) hr_4 h_a0 h_b17 h_b17)
set_option maxRecDepth 100000 in
set_option maxHeartbeats 4000000 in
theorem m_X1_gatherCandidates (l : Launch) {P : zSt} (hP : zOKP P) {a0 : Nat} {i1 : Int32} (h_a0 : zT P 1 a0) : zMet l P yX1_gatherCandidates cX1_gatherCandidates 5 1 21 (some .boolean) [.ref a0, .int i1] (fun m => f_X1_gatherCandidates P a0 i1 m) := by
  refine zMet.of hP (by decide +kernel) RX1 rfl [(0, .ref a0), (1, .int i1)] (fun h => h) (Nat.le_of_ble_eq_true rfl) (fun G m ok => ?_)
  show zG P G (f_X1_gatherCandidates P a0 i1 m) m 0 _ []
  unfold f_X1_gatherCandidates
  refine z_iconst ok (0 : Int32) dX1_gatherCandidates_0 (by decide) (show zG P G _ _ 1 _ _ from ?_)
  refine z_istore_n0 ok [(2, .int (0 : Int32)), (0, .ref a0), (1, .int i1)] dX1_gatherCandidates_1 (by decide) rfl (show zG P G _ _ 2 _ _ from ?_)
  refine z_iconst ok (0 : Int32) dX1_gatherCandidates_2 (by decide) (show zG P G _ _ 3 _ _ from ?_)
  refine z_istore_n0 ok [(3, .int (0 : Int32)), (2, .int (0 : Int32)), (0, .ref a0), (1, .int i1)] dX1_gatherCandidates_3 (by decide) rfl (show zG P G _ _ 4 _ _ from ?_)
  exact z_sub [2, 3, 1, 0] [(0, .ref a0), (1, .int i1), (2, .int (0 : Int32)), (3, .int (0 : Int32))] rfl (t_X1_gatherCandidates_b4 ok zfuel _ _ _ _ _ h_a0)
set_option maxRecDepth 100000 in
set_option maxHeartbeats 4000000 in
theorem t_X5_staysNear_b20 {P : zSt} {G : zC} (ok : zOK P G RX5 cX5_staysNear 6 0 0 (some .boolean))   {m : zM}  : zG P G (f_X5_staysNear_b20 P  m) m 20 [] [] := by
  unfold f_X5_staysNear_b20
  refine z_iconst ok (1 : Int32) dX5_staysNear_20 (by decide) (show zG P G _ _ 21 _ _ from ?_)
  exact z_zret ok dX5_staysNear_21
set_option maxRecDepth 100000 in
set_option maxHeartbeats 4000000 in
theorem m_X5_staysNear (l : Launch) {P : zSt} (hP : zOKP P) {a0 : Nat} {i1 : Int32} {i2 : Int32} {i3 : Int32} {i4 : Int32} (h_a0 : zT P 5 a0) : zMet l P yX5_staysNear cX5_staysNear 6 0 0 (some .boolean) [.ref a0, .int i1, .int i2, .int i3, .int i4] (fun m => f_X5_staysNear P a0 i1 i2 i3 i4 m) := by
  refine zMet.of hP (by decide +kernel) RX5 rfl [(0, .ref a0), (1, .int i1), (2, .int i2), (3, .int i3), (4, .int i4)] (fun h => h) (Nat.le_of_ble_eq_true rfl) (fun G m ok => ?_)
  show zG P G (f_X5_staysNear P a0 i1 i2 i3 i4 m) m 0 _ []
  unfold f_X5_staysNear
  refine z_iload ok 4 dX5_staysNear_0 rfl (show zG P G _ _ 2 _ _ from ?_)
  refine z_iload_n ok 3 dX5_staysNear_2 rfl (show zG P G _ _ 3 _ _ from ?_)
  refine z_imul ok dX5_staysNear_3 (show zG P G _ _ 4 _ _ from ?_)
  refine z_istore ok (fun v4 => [(5, .int v4), (0, .ref a0), (1, .int i1), (2, .int i2), (3, .int i3), (4, .int i4)]) dX5_staysNear_4 (by decide) (fun _ => rfl) (fun v4 => (show zG P G _ _ 6 _ _ from ?_))
  refine z_iload ok 0 dX5_staysNear_6 rfl (show zG P G _ _ 8 _ _ from ?_)
  refine z_if_le ok 20 dX5_staysNear_8 (by decide) ?_ (show zG P G _ _ 11 _ _ from ?_)
  · exact z_sub [] [] rfl (t_X5_staysNear_b20 ok)
  · refine z_bipush ok (100 : Int32) dX5_staysNear_11 (by decide) (show zG P G _ _ 13 _ _ from ?_)
    refine z_iload_n ok 3 dX5_staysNear_13 rfl (show zG P G _ _ 14 _ _ from ?_)
    refine z_imul ok dX5_staysNear_14 (show zG P G _ _ 15 _ _ from ?_)
    refine z_iload ok 0 dX5_staysNear_15 rfl (show zG P G _ _ 17 _ _ from ?_)
    refine z_icmp_lt ok 22 dX5_staysNear_17 (by decide) ?_ (show zG P G _ _ 20 _ _ from ?_)
    · refine z_aload_n ok 1 dX5_staysNear_22 rfl (show zG P G _ _ 23 _ _ from ?_)
      refine z_getR ok fd_108 h_a0 (Or.inl rfl) tf_X5_30 dX5_staysNear_23 (fun b23 h_b23 => (show zG P G _ _ 26 _ _ from ?_))
      refine z_iload_n ok 2 dX5_staysNear_26 rfl (show zG P G _ _ 27 _ _ from ?_)
      refine z_dup2 ok dX5_staysNear_27 rfl rfl (show zG P G _ _ 28 _ _ from ?_)
      refine z_iald ok h_b23 dX5_staysNear_28 (show zG P G _ _ 29 _ _ from ?_)
      refine z_sipush ok (10000 : Int32) dX5_staysNear_29 (by decide) (show zG P G _ _ 32 _ _ from ?_)
      refine z_iload_n ok 3 dX5_staysNear_32 rfl (show zG P G _ _ 33 _ _ from ?_)
      refine z_imul ok dX5_staysNear_33 (show zG P G _ _ 34 _ _ from ?_)
      refine z_iload ok 0 dX5_staysNear_34 rfl (show zG P G _ _ 36 _ _ from ?_)
      refine z_idiv ok dX5_staysNear_36 (show zG P G _ _ 37 _ _ from ?_)
      refine z_iadd ok dX5_staysNear_37 (show zG P G _ _ 38 _ _ from ?_)
      refine z_iast ok h_b23 dX5_staysNear_38 (fun m38 => (show zG P G _ _ 39 _ _ from ?_))
      refine z_aload_n ok 1 dX5_staysNear_39 rfl (show zG P G _ _ 40 _ _ from ?_)
      refine z_getR ok fd_108 h_a0 (Or.inl rfl) tf_X5_30 dX5_staysNear_40 (fun b40 h_b40 => (show zG P G _ _ 43 _ _ from ?_))
      refine z_iload_n ok 2 dX5_staysNear_43 rfl (show zG P G _ _ 44 _ _ from ?_)
      refine z_iald ok h_b40 dX5_staysNear_44 (show zG P G _ _ 45 _ _ from ?_)
      refine z_bipush ok (100 : Int32) dX5_staysNear_45 (by decide) (show zG P G _ _ 47 _ _ from ?_)
      refine z_icmp_ge ok 52 dX5_staysNear_47 (by decide) ?_ (show zG P G _ _ 50 _ _ from ?_)
      · refine z_aload_n ok 1 dX5_staysNear_52 rfl (show zG P G _ _ 53 _ _ from ?_)
        refine z_getR ok fd_108 h_a0 (Or.inl rfl) tf_X5_30 dX5_staysNear_53 (fun b53 h_b53 => (show zG P G _ _ 56 _ _ from ?_))
        refine z_iload_n ok 2 dX5_staysNear_56 rfl (show zG P G _ _ 57 _ _ from ?_)
        refine z_dup2 ok dX5_staysNear_57 rfl rfl (show zG P G _ _ 58 _ _ from ?_)
        refine z_iald ok h_b53 dX5_staysNear_58 (show zG P G _ _ 59 _ _ from ?_)
        refine z_bipush ok (100 : Int32) dX5_staysNear_59 (by decide) (show zG P G _ _ 61 _ _ from ?_)
        refine z_isub ok dX5_staysNear_61 (show zG P G _ _ 62 _ _ from ?_)
        refine z_iast ok h_b53 dX5_staysNear_62 (fun m62 => (show zG P G _ _ 63 _ _ from ?_))
        refine z_iconst ok (1 : Int32) dX5_staysNear_63 (by decide) (show zG P G _ _ 64 _ _ from ?_)
        exact z_zret ok dX5_staysNear_64
      · refine z_iconst ok (0 : Int32) dX5_staysNear_50 (by decide) (show zG P G _ _ 51 _ _ from ?_)
        exact z_zret ok dX5_staysNear_51
    · exact z_sub [] [] rfl (t_X5_staysNear_b20 ok)
set_option maxRecDepth 100000 in
set_option maxHeartbeats 4000000 in
theorem t_X1_narrow_b103 {P : zSt} {G : zC} (ok : zOK P G RX1 cX1_narrow 9 1 25 none) (rec_11 : Nat → Int32 → Int32 → Int32 → Int32 → Int32 → Int32 → zM → Option (Int32 × zM)) (hr_11 : ∀ (a0 : Nat) (x1 : Int32) (x2 : Int32) (x3 : Int32) (x4 : Int32) (x5 : Int32) (x6 : Int32) (m : zM), zT P 1 a0 → zG P G (rec_11 a0 x1 x2 x3 x4 x5 x6 m) m 11 [(0, .ref a0), (1, .int x1), (2, .int x2), (3, .int x3), (4, .int x4), (5, .int x5), (6, .int x6)] []) {a0 : Nat} {x1 : Int32} {x2 : Int32} {x3 : Int32} {x4 : Int32} {x5 : Int32} {x6 : Int32} {m : zM} (h_a0 : zT P 1 a0) : zG P G (f_X1_narrow_b103 P rec_11 a0 x1 x2 x3 x4 x5 x6 m) m 103 [(0, .ref a0), (1, .int x1), (2, .int x2), (3, .int x3), (4, .int x4), (5, .int x5), (6, .int x6)] [] := by
  unfold f_X1_narrow_b103
  refine z_iinc ok (fun v103 => [(6, .int v103), (0, .ref a0), (1, .int x1), (2, .int x2), (3, .int x3), (4, .int x4), (5, .int x5)]) 6 dX1_narrow_103 rfl (by decide) (by decide) (fun _ => rfl) (fun v103 => (show zG P G _ _ 106 _ _ from ?_))
  refine z_goto ok 11 dX1_narrow_106 (by decide) ?_
  exact z_sub [1, 2, 3, 4, 5, 6, 0] [(0, .ref a0), (1, .int x1), (2, .int x2), (3, .int x3), (4, .int x4), (5, .int x5), (6, .int v103)] rfl (hr_11 _ _ _ _ _ _ _ _ h_a0)
set_option maxRecDepth 100000 in
set_option maxHeartbeats 4000000 in
theorem t_X1_narrow_b75 {P : zSt} {G : zC} (ok : zOK P G RX1 cX1_narrow 9 1 25 none) (rec_11 : Nat → Int32 → Int32 → Int32 → Int32 → Int32 → Int32 → zM → Option (Int32 × zM)) (hr_11 : ∀ (a0 : Nat) (x1 : Int32) (x2 : Int32) (x3 : Int32) (x4 : Int32) (x5 : Int32) (x6 : Int32) (m : zM), zT P 1 a0 → zG P G (rec_11 a0 x1 x2 x3 x4 x5 x6 m) m 11 [(0, .ref a0), (1, .int x1), (2, .int x2), (3, .int x3), (4, .int x4), (5, .int x5), (6, .int x6)] []) {a0 : Nat} {x1 : Int32} {x2 : Int32} {x3 : Int32} {x4 : Int32} {x5 : Int32} {x6 : Int32} {a7 : Nat} {m : zM} (h_a0 : zT P 1 a0) (h_a7 : zT P 0 a7) : zG P G (f_X1_narrow_b75 P rec_11 a0 x1 x2 x3 x4 x5 x6 a7 m) m 75 [(0, .ref a0), (1, .int x1), (2, .int x2), (3, .int x3), (4, .int x4), (5, .int x5), (6, .int x6), (7, .ref a7)] [] := by
  unfold f_X1_narrow_b75
  refine z_aload ok 7 dX1_narrow_75 rfl (show zG P G _ _ 77 _ _ from ?_)
  refine z_iload_n ok 1 dX1_narrow_77 rfl (show zG P G _ _ 78 _ _ from ?_)
  refine z_callVi ok [.int x1] (m_X0_isMemberOf _ ok.p h_a7) cv_X1_210 h_a7 rfl (by decide) rfl (Nat.le_of_ble_eq_true rfl) rfl dX1_narrow_78 (fun r78 m78 => (show zG P G _ _ 81 _ _ from ?_))
  refine z_if_eq ok 103 dX1_narrow_81 (by decide) ?_ (show zG P G _ _ 84 _ _ from ?_)
  · exact z_sub [0, 1, 2, 3, 4, 5, 6] [(0, .ref a0), (1, .int x1), (2, .int x2), (3, .int x3), (4, .int x4), (5, .int x5), (6, .int x6)] rfl (t_X1_narrow_b103 ok rec_11 hr_11 h_a0)
  · refine z_aload ok 7 dX1_narrow_84 rfl (show zG P G _ _ 86 _ _ from ?_)
    refine z_getn ok fd_4 h_a7 (Or.inl rfl) tf_X1_204 dX1_narrow_86 (show zG P G _ _ 89 _ _ from ?_)
    refine z_iload_n ok 2 dX1_narrow_89 rfl (show zG P G _ _ 90 _ _ from ?_)
    refine z_icmp_ne ok 103 dX1_narrow_90 (by decide) ?_ (show zG P G _ _ 93 _ _ from ?_)
    · exact z_sub [0, 1, 2, 3, 4, 5, 6] [(0, .ref a0), (1, .int x1), (2, .int x2), (3, .int x3), (4, .int x4), (5, .int x5), (6, .int x6)] rfl (t_X1_narrow_b103 ok rec_11 hr_11 h_a0)
    · refine z_iload ok 5 dX1_narrow_93 rfl (show zG P G _ _ 95 _ _ from ?_)
      refine z_aload ok 7 dX1_narrow_95 rfl (show zG P G _ _ 97 _ _ from ?_)
      refine z_get ok fd_0 h_a7 (Or.inr ts_142) tf_X1_207 dX1_narrow_97 (show zG P G _ _ 100 _ _ from ?_)
      refine z_iadd ok dX1_narrow_100 (show zG P G _ _ 101 _ _ from ?_)
      refine z_istore ok (fun v101 => [(5, .int v101), (0, .ref a0), (1, .int x1), (2, .int x2), (3, .int x3), (4, .int x4), (6, .int x6), (7, .ref a7)]) dX1_narrow_101 (by decide) (fun _ => rfl) (fun v101 => (show zG P G _ _ 103 _ _ from ?_))
      exact z_sub [1, 2, 3, 4, 5, 0, 6] [(0, .ref a0), (1, .int x1), (2, .int x2), (3, .int x3), (4, .int x4), (5, .int v101), (6, .int x6)] rfl (t_X1_narrow_b103 ok rec_11 hr_11 h_a0)
set_option maxRecDepth 100000 in
set_option maxHeartbeats 4000000 in
theorem t_X1_narrow_b57 {P : zSt} {G : zC} (ok : zOK P G RX1 cX1_narrow 9 1 25 none) (rec_11 : Nat → Int32 → Int32 → Int32 → Int32 → Int32 → Int32 → zM → Option (Int32 × zM)) (hr_11 : ∀ (a0 : Nat) (x1 : Int32) (x2 : Int32) (x3 : Int32) (x4 : Int32) (x5 : Int32) (x6 : Int32) (m : zM), zT P 1 a0 → zG P G (rec_11 a0 x1 x2 x3 x4 x5 x6 m) m 11 [(0, .ref a0), (1, .int x1), (2, .int x2), (3, .int x3), (4, .int x4), (5, .int x5), (6, .int x6)] []) {a0 : Nat} {x1 : Int32} {x2 : Int32} {x3 : Int32} {x4 : Int32} {x5 : Int32} {x6 : Int32} {a7 : Nat} {m : zM} (h_a0 : zT P 1 a0) (h_a7 : zT P 0 a7) : zG P G (f_X1_narrow_b57 P rec_11 a0 x1 x2 x3 x4 x5 x6 a7 m) m 57 [(0, .ref a0), (1, .int x1), (2, .int x2), (3, .int x3), (4, .int x4), (5, .int x5), (6, .int x6), (7, .ref a7)] [] := by
  unfold f_X1_narrow_b57
  refine z_aload ok 7 dX1_narrow_57 rfl (show zG P G _ _ 59 _ _ from ?_)
  refine z_get ok fd_2 h_a7 (Or.inr ts_156) tf_X1_191 dX1_narrow_59 (show zG P G _ _ 62 _ _ from ?_)
  refine z_if_eq ok 75 dX1_narrow_62 (by decide) ?_ (show zG P G _ _ 65 _ _ from ?_)
  · exact z_sub [0, 1, 2, 3, 4, 5, 6, 7] [(0, .ref a0), (1, .int x1), (2, .int x2), (3, .int x3), (4, .int x4), (5, .int x5), (6, .int x6), (7, .ref a7)] rfl (t_X1_narrow_b75 ok rec_11 hr_11 h_a0 h_a7)
  · refine z_iload ok 4 dX1_narrow_65 rfl (show zG P G _ _ 67 _ _ from ?_)
    refine z_aload ok 7 dX1_narrow_67 rfl (show zG P G _ _ 69 _ _ from ?_)
    refine z_get ok fd_0 h_a7 (Or.inr ts_142) tf_X1_207 dX1_narrow_69 (show zG P G _ _ 72 _ _ from ?_)
    refine z_iadd ok dX1_narrow_72 (show zG P G _ _ 73 _ _ from ?_)
    refine z_istore ok (fun v73 => [(4, .int v73), (0, .ref a0), (1, .int x1), (2, .int x2), (3, .int x3), (5, .int x5), (6, .int x6), (7, .ref a7)]) dX1_narrow_73 (by decide) (fun _ => rfl) (fun v73 => (show zG P G _ _ 75 _ _ from ?_))
    exact z_sub [1, 2, 3, 4, 0, 5, 6, 7] [(0, .ref a0), (1, .int x1), (2, .int x2), (3, .int x3), (4, .int v73), (5, .int x5), (6, .int x6), (7, .ref a7)] rfl (t_X1_narrow_b75 ok rec_11 hr_11 h_a0 h_a7)
set_option maxRecDepth 100000 in
set_option maxHeartbeats 4000000 in
theorem t_X1_narrow_b210 {P : zSt} {G : zC} (ok : zOK P G RX1 cX1_narrow 9 1 25 none) (rec_140 : Nat → Int32 → Int32 → Int32 → zM → Option (Int32 × zM)) (hr_140 : ∀ (a0 : Nat) (x2 : Int32) (x6 : Int32) (x7 : Int32) (m : zM), zT P 1 a0 → zG P G (rec_140 a0 x2 x6 x7 m) m 140 [(0, .ref a0), (2, .int x2), (6, .int x6), (7, .int x7)] []) {a0 : Nat} {x2 : Int32} {x6 : Int32} {x7 : Int32} {s0 : Int32} {t1 : Nat} {m : zM} (h_a0 : zT P 1 a0) (h_t1 : zT P 0 t1) : zG P G (f_X1_narrow_b210 P rec_140 a0 x2 x6 x7 s0 t1 m) m 210 [(0, .ref a0), (2, .int x2), (6, .int x6), (7, .int x7)] [.int s0, .ref t1] := by
  unfold f_X1_narrow_b210
  refine z_putZ ok fd_2 h_t1 (Or.inr ts_156) tf_X1_191 dX1_narrow_210 (fun m210 => (show zG P G _ _ 213 _ _ from ?_))
  refine z_iinc ok (fun v213 => [(7, .int v213), (0, .ref a0), (2, .int x2), (6, .int x6)]) 3 dX1_narrow_213 rfl (by decide) (by decide) (fun _ => rfl) (fun v213 => (show zG P G _ _ 216 _ _ from ?_))
  refine z_goto ok 140 dX1_narrow_216 (by decide) ?_
  exact z_sub [1, 2, 3, 0] [(0, .ref a0), (2, .int x2), (6, .int x6), (7, .int v213)] rfl (hr_140 _ _ _ _ _ h_a0)
set_option maxRecDepth 100000 in
set_option maxHeartbeats 4000000 in
theorem t_X1_narrow_b209 {P : zSt} {G : zC} (ok : zOK P G RX1 cX1_narrow 9 1 25 none) (rec_140 : Nat → Int32 → Int32 → Int32 → zM → Option (Int32 × zM)) (hr_140 : ∀ (a0 : Nat) (x2 : Int32) (x6 : Int32) (x7 : Int32) (m : zM), zT P 1 a0 → zG P G (rec_140 a0 x2 x6 x7 m) m 140 [(0, .ref a0), (2, .int x2), (6, .int x6), (7, .int x7)] []) {a0 : Nat} {x2 : Int32} {x6 : Int32} {x7 : Int32} {t0 : Nat} {m : zM} (h_a0 : zT P 1 a0) (h_t0 : zT P 0 t0) : zG P G (f_X1_narrow_b209 P rec_140 a0 x2 x6 x7 t0 m) m 209 [(0, .ref a0), (2, .int x2), (6, .int x6), (7, .int x7)] [.ref t0] := by
  unfold f_X1_narrow_b209
  refine z_iconst ok (0 : Int32) dX1_narrow_209 (by decide) (show zG P G _ _ 210 _ _ from ?_)
  exact z_sub [0, 1, 2, 3] [(0, .ref a0), (2, .int x2), (6, .int x6), (7, .int x7)] rfl (t_X1_narrow_b210 ok rec_140 hr_140 h_a0 h_t0)
set_option maxRecDepth 100000 in
set_option maxHeartbeats 4000000 in
theorem t_X1_narrow_b178 {P : zSt} {G : zC} (ok : zOK P G RX1 cX1_narrow 9 1 25 none) (rec_140 : Nat → Int32 → Int32 → Int32 → zM → Option (Int32 × zM)) (hr_140 : ∀ (a0 : Nat) (x2 : Int32) (x6 : Int32) (x7 : Int32) (m : zM), zT P 1 a0 → zG P G (rec_140 a0 x2 x6 x7 m) m 140 [(0, .ref a0), (2, .int x2), (6, .int x6), (7, .int x7)] []) {a0 : Nat} {x2 : Int32} {x6 : Int32} {x7 : Int32} {s0 : Int32} {m : zM} (h_a0 : zT P 1 a0) : zG P G (f_X1_narrow_b178 P rec_140 a0 x2 x6 x7 s0 m) m 178 [(0, .ref a0), (2, .int x2), (6, .int x6), (7, .int x7)] [.int s0] := by
  unfold f_X1_narrow_b178
  refine z_istore0 ok [(8, .int s0), (0, .ref a0), (2, .int x2), (6, .int x6), (7, .int x7)] dX1_narrow_178 (by decide) rfl (show zG P G _ _ 180 _ _ from ?_)
  refine z_aload_n ok 1 dX1_narrow_180 rfl (show zG P G _ _ 181 _ _ from ?_)
  refine z_getR ok fd_20 h_a0 (Or.inl rfl) tf_X1_11 dX1_narrow_181 (fun b181 h_b181 => (show zG P G _ _ 184 _ _ from ?_))
  refine z_iload ok 4 dX1_narrow_184 rfl (show zG P G _ _ 186 _ _ from ?_)
  refine z_aald ok ek_13 h_b181 dX1_narrow_186 (fun b186 h_b186 => (show zG P G _ _ 187 _ _ from ?_))
  refine z_aload_n ok 1 dX1_narrow_187 rfl (show zG P G _ _ 188 _ _ from ?_)
  refine z_getR ok fd_20 h_a0 (Or.inl rfl) tf_X1_11 dX1_narrow_188 (fun b188 h_b188 => (show zG P G _ _ 191 _ _ from ?_))
  refine z_iload ok 4 dX1_narrow_191 rfl (show zG P G _ _ 193 _ _ from ?_)
  refine z_aald ok ek_13 h_b188 dX1_narrow_193 (fun b193 h_b193 => (show zG P G _ _ 194 _ _ from ?_))
  refine z_get ok fd_2 h_b193 (Or.inr ts_156) tf_X1_191 dX1_narrow_194 (show zG P G _ _ 197 _ _ from ?_)
  refine z_if_eq ok 209 dX1_narrow_197 (by decide) ?_ (show zG P G _ _ 200 _ _ from ?_)
  · exact z_sub [1, 2, 3, 4] [(0, .ref a0), (2, .int x2), (6, .int x6), (7, .int x7)] rfl (t_X1_narrow_b209 ok rec_140 hr_140 h_a0 h_b186)
  · refine z_iload ok 0 dX1_narrow_200 rfl (show zG P G _ _ 202 _ _ from ?_)
    refine z_if_eq ok 209 dX1_narrow_202 (by decide) ?_ (show zG P G _ _ 205 _ _ from ?_)
    · exact z_sub [1, 2, 3, 4] [(0, .ref a0), (2, .int x2), (6, .int x6), (7, .int x7)] rfl (t_X1_narrow_b209 ok rec_140 hr_140 h_a0 h_b186)
    · refine z_iconst ok (1 : Int32) dX1_narrow_205 (by decide) (show zG P G _ _ 206 _ _ from ?_)
      refine z_goto ok 210 dX1_narrow_206 (by decide) ?_
      exact z_sub [1, 2, 3, 4] [(0, .ref a0), (2, .int x2), (6, .int x6), (7, .int x7)] rfl (t_X1_narrow_b210 ok rec_140 hr_140 h_a0 h_b186)
set_option maxRecDepth 100000 in
set_option maxHeartbeats 4000000 in
theorem t_X1_narrow_b168 {P : zSt} {G : zC} (ok : zOK P G RX1 cX1_narrow 9 1 25 none) (rec_140 : Nat → Int32 → Int32 → Int32 → zM → Option (Int32 × zM)) (hr_140 : ∀ (a0 : Nat) (x2 : Int32) (x6 : Int32) (x7 : Int32) (m : zM), zT P 1 a0 → zG P G (rec_140 a0 x2 x6 x7 m) m 140 [(0, .ref a0), (2, .int x2), (6, .int x6), (7, .int x7)] []) {a0 : Nat} {x2 : Int32} {x6 : Int32} {x7 : Int32} {s0 : Int32} {m : zM} (h_a0 : zT P 1 a0) : zG P G (f_X1_narrow_b168 P rec_140 a0 x2 x6 x7 s0 m) m 168 [(0, .ref a0), (2, .int x2), (6, .int x6), (7, .int x7)] [.int s0] := by
  unfold f_X1_narrow_b168
  refine z_iload ok 2 dX1_narrow_168 rfl (show zG P G _ _ 170 _ _ from ?_)
  refine z_icmp_ne ok 177 dX1_narrow_170 (by decide) ?_ (show zG P G _ _ 173 _ _ from ?_)
  · refine z_iconst ok (0 : Int32) dX1_narrow_177 (by decide) (show zG P G _ _ 178 _ _ from ?_)
    exact z_sub [0, 1, 2, 3] [(0, .ref a0), (2, .int x2), (6, .int x6), (7, .int x7)] rfl (t_X1_narrow_b178 ok rec_140 hr_140 h_a0)
  · refine z_iconst ok (1 : Int32) dX1_narrow_173 (by decide) (show zG P G _ _ 174 _ _ from ?_)
    refine z_goto ok 178 dX1_narrow_174 (by decide) ?_
    exact z_sub [0, 1, 2, 3] [(0, .ref a0), (2, .int x2), (6, .int x6), (7, .int x7)] rfl (t_X1_narrow_b178 ok rec_140 hr_140 h_a0)
set_option maxRecDepth 100000 in
set_option maxHeartbeats 4000000 in
theorem t_X1_narrow_b140 {P : zSt} {G : zC} (ok : zOK P G RX1 cX1_narrow 9 1 25 none)  : ∀ (n : Nat) (a0 : Nat) (x2 : Int32) (x6 : Int32) (x7 : Int32) (m : zM) (h_a0 : zT P 1 a0), zG P G (f_X1_narrow_b140 P n a0 x2 x6 x7 m) m 140 [(0, .ref a0), (2, .int x2), (6, .int x6), (7, .int x7)] [] := by
  intro n
  induction n with
  | zero =>
    intros
    exact zG_none
  | succ n ih =>
    intro a0 x2 x6 x7 m h_a0
    unfold f_X1_narrow_b140
    have hr_140 := ih
    refine z_iload ok 3 dX1_narrow_140 rfl (show zG P G _ _ 142 _ _ from ?_)
    refine z_aload_n ok 0 dX1_narrow_142 rfl (show zG P G _ _ 143 _ _ from ?_)
    refine z_get ok fd_21 h_a0 (Or.inl rfl) tf_X1_43 dX1_narrow_143 (show zG P G _ _ 146 _ _ from ?_)
    refine z_icmp_ge ok 219 dX1_narrow_146 (by decide) ?_ (show zG P G _ _ 149 _ _ from ?_)
    · exact z_vret ok dX1_narrow_219
    · refine z_aload_n ok 0 dX1_narrow_149 rfl (show zG P G _ _ 150 _ _ from ?_)
      refine z_getR ok fd_20 h_a0 (Or.inl rfl) tf_X1_11 dX1_narrow_150 (fun b150 h_b150 => (show zG P G _ _ 153 _ _ from ?_))
      refine z_iload ok 3 dX1_narrow_153 rfl (show zG P G _ _ 155 _ _ from ?_)
      refine z_aald ok ek_13 h_b150 dX1_narrow_155 (fun b155 h_b155 => (show zG P G _ _ 156 _ _ from ?_))
      refine z_getn ok fd_4 h_b155 (Or.inl rfl) tf_X1_204 dX1_narrow_156 (show zG P G _ _ 159 _ _ from ?_)
      refine z_iload_n ok 1 dX1_narrow_159 rfl (show zG P G _ _ 160 _ _ from ?_)
      refine z_icmp_ne ok 167 dX1_narrow_160 (by decide) ?_ (show zG P G _ _ 163 _ _ from ?_)
      · refine z_iconst ok (0 : Int32) dX1_narrow_167 (by decide) (show zG P G _ _ 168 _ _ from ?_)
        exact z_sub [0, 1, 2, 3] [(0, .ref a0), (2, .int x2), (6, .int x6), (7, .int x7)] rfl (t_X1_narrow_b168 ok (f_X1_narrow_b140 P n) hr_140 h_a0)
      · refine z_iconst ok (1 : Int32) dX1_narrow_163 (by decide) (show zG P G _ _ 164 _ _ from ?_)
        refine z_goto ok 168 dX1_narrow_164 (by decide) ?_
        exact z_sub [0, 1, 2, 3] [(0, .ref a0), (2, .int x2), (6, .int x6), (7, .int x7)] rfl (t_X1_narrow_b168 ok (f_X1_narrow_b140 P n) hr_140 h_a0)
set_option maxRecDepth 100000 in
set_option maxHeartbeats 4000000 in
theorem t_X1_narrow_b11 {P : zSt} {G : zC} (ok : zOK P G RX1 cX1_narrow 9 1 25 none)  : ∀ (n : Nat) (a0 : Nat) (x1 : Int32) (x2 : Int32) (x3 : Int32) (x4 : Int32) (x5 : Int32) (x6 : Int32) (m : zM) (h_a0 : zT P 1 a0), zG P G (f_X1_narrow_b11 P n a0 x1 x2 x3 x4 x5 x6 m) m 11 [(0, .ref a0), (1, .int x1), (2, .int x2), (3, .int x3), (4, .int x4), (5, .int x5), (6, .int x6)] [] := by
  intro n
  induction n with
  | zero =>
    intros
    exact zG_none
  | succ n ih =>
    intro a0 x1 x2 x3 x4 x5 x6 m h_a0
    unfold f_X1_narrow_b11
    have hr_11 := ih
    refine z_iload ok 6 dX1_narrow_11 rfl (show zG P G _ _ 13 _ _ from ?_)
    refine z_aload_n ok 0 dX1_narrow_13 rfl (show zG P G _ _ 14 _ _ from ?_)
    refine z_get ok fd_21 h_a0 (Or.inl rfl) tf_X1_43 dX1_narrow_14 (show zG P G _ _ 17 _ _ from ?_)
    refine z_icmp_ge ok 109 dX1_narrow_17 (by decide) ?_ (show zG P G _ _ 20 _ _ from ?_)
    · refine z_iload_n ok 3 dX1_narrow_109 rfl (show zG P G _ _ 110 _ _ from ?_)
      refine z_if_le ok 219 dX1_narrow_110 (by decide) ?_ (show zG P G _ _ 113 _ _ from ?_)
      · exact z_vret ok dX1_narrow_219
      · refine z_iload ok 4 dX1_narrow_113 rfl (show zG P G _ _ 115 _ _ from ?_)
        refine z_if_le ok 219 dX1_narrow_115 (by decide) ?_ (show zG P G _ _ 118 _ _ from ?_)
        · exact z_vret ok dX1_narrow_219
        · refine z_aload_n ok 0 dX1_narrow_118 rfl (show zG P G _ _ 119 _ _ from ?_)
          refine z_getR ok fd_22 h_a0 (Or.inl rfl) tf_X1_19 dX1_narrow_119 (fun b119 h_b119 => (show zG P G _ _ 122 _ _ from ?_))
          refine z_iload_n ok 1 dX1_narrow_122 rfl (show zG P G _ _ 123 _ _ from ?_)
          refine z_aald ok ek_15 h_b119 dX1_narrow_123 (fun b123 h_b123 => (show zG P G _ _ 124 _ _ from ?_))
          refine z_iload_n ok 2 dX1_narrow_124 rfl (show zG P G _ _ 125 _ _ from ?_)
          refine z_iload_n ok 3 dX1_narrow_125 rfl (show zG P G _ _ 126 _ _ from ?_)
          refine z_iload ok 5 dX1_narrow_126 rfl (show zG P G _ _ 128 _ _ from ?_)
          refine z_aload_n ok 0 dX1_narrow_128 rfl (show zG P G _ _ 129 _ _ from ?_)
          refine z_get ok fd_25 h_a0 (Or.inl rfl) tf_X1_29 dX1_narrow_129 (show zG P G _ _ 132 _ _ from ?_)
          refine z_callVi ok [.int x2, .int x3, .int x5, .int (zf m 25 a0)] (m_X5_staysNear _ ok.p h_b123) cv_X1_213 h_b123 rfl (by decide) rfl (Nat.le_of_ble_eq_true rfl) rfl dX1_narrow_132 (fun r132 m132 => (show zG P G _ _ 135 _ _ from ?_))
          refine z_istore0 ok [(6, .int r132), (0, .ref a0), (1, .int x1), (2, .int x2), (3, .int x3), (4, .int x4), (5, .int x5)] dX1_narrow_135 (by decide) rfl (show zG P G _ _ 137 _ _ from ?_)
          refine z_iconst ok (0 : Int32) dX1_narrow_137 (by decide) (show zG P G _ _ 138 _ _ from ?_)
          refine z_istore0 ok [(7, .int (0 : Int32)), (6, .int r132), (0, .ref a0), (1, .int x1), (2, .int x2), (3, .int x3), (4, .int x4), (5, .int x5)] dX1_narrow_138 (by decide) rfl (show zG P G _ _ 140 _ _ from ?_)
          exact z_sub [2, 4, 1, 0] [(0, .ref a0), (2, .int x2), (6, .int r132), (7, .int (0 : Int32))] rfl (t_X1_narrow_b140 ok zfuel _ _ _ _ _ h_a0)
    · refine z_aload_n ok 0 dX1_narrow_20 rfl (show zG P G _ _ 21 _ _ from ?_)
      refine z_getR ok fd_20 h_a0 (Or.inl rfl) tf_X1_11 dX1_narrow_21 (fun b21 h_b21 => (show zG P G _ _ 24 _ _ from ?_))
      refine z_iload ok 6 dX1_narrow_24 rfl (show zG P G _ _ 26 _ _ from ?_)
      refine z_aald ok ek_13 h_b21 dX1_narrow_26 (fun b26 h_b26 => (show zG P G _ _ 27 _ _ from ?_))
      refine z_astore ok [(7, .ref b26), (0, .ref a0), (1, .int x1), (2, .int x2), (3, .int x3), (4, .int x4), (5, .int x5), (6, .int x6)] dX1_narrow_27 (by decide) rfl (show zG P G _ _ 29 _ _ from ?_)
      refine z_aload ok 0 dX1_narrow_29 rfl (show zG P G _ _ 31 _ _ from ?_)
      refine z_get ok fd_2 h_b26 (Or.inr ts_156) tf_X1_191 dX1_narrow_31 (show zG P G _ _ 34 _ _ from ?_)
      refine z_if_eq ok 57 dX1_narrow_34 (by decide) ?_ (show zG P G _ _ 37 _ _ from ?_)
      · exact z_sub [1, 2, 3, 4, 5, 6, 7, 0] [(0, .ref a0), (1, .int x1), (2, .int x2), (3, .int x3), (4, .int x4), (5, .int x5), (6, .int x6), (7, .ref b26)] rfl (t_X1_narrow_b57 ok (f_X1_narrow_b11 P n) hr_11 h_a0 h_b26)
      · refine z_aload ok 0 dX1_narrow_37 rfl (show zG P G _ _ 39 _ _ from ?_)
        refine z_getn ok fd_4 h_b26 (Or.inl rfl) tf_X1_204 dX1_narrow_39 (show zG P G _ _ 42 _ _ from ?_)
        refine z_iload_n ok 3 dX1_narrow_42 rfl (show zG P G _ _ 43 _ _ from ?_)
        refine z_icmp_ne ok 57 dX1_narrow_43 (by decide) ?_ (show zG P G _ _ 46 _ _ from ?_)
        · exact z_sub [1, 2, 3, 4, 5, 6, 7, 0] [(0, .ref a0), (1, .int x1), (2, .int x2), (3, .int x3), (4, .int x4), (5, .int x5), (6, .int x6), (7, .ref b26)] rfl (t_X1_narrow_b57 ok (f_X1_narrow_b11 P n) hr_11 h_a0 h_b26)
        · refine z_iload_n ok 4 dX1_narrow_46 rfl (show zG P G _ _ 47 _ _ from ?_)
          refine z_aload ok 0 dX1_narrow_47 rfl (show zG P G _ _ 49 _ _ from ?_)
          refine z_get ok fd_0 h_b26 (Or.inr ts_142) tf_X1_207 dX1_narrow_49 (show zG P G _ _ 52 _ _ from ?_)
          refine z_iadd ok dX1_narrow_52 (show zG P G _ _ 53 _ _ from ?_)
          refine z_istore_n ok (fun v53 => [(3, .int v53), (7, .ref b26), (0, .ref a0), (1, .int x1), (2, .int x2), (4, .int x4), (5, .int x5), (6, .int x6)]) dX1_narrow_53 (by decide) (fun _ => rfl) (fun v53 => (show zG P G _ _ 54 _ _ from ?_))
          refine z_goto ok 75 dX1_narrow_54 (by decide) ?_
          exact z_sub [2, 3, 4, 0, 5, 6, 7, 1] [(0, .ref a0), (1, .int x1), (2, .int x2), (3, .int v53), (4, .int x4), (5, .int x5), (6, .int x6), (7, .ref b26)] rfl (t_X1_narrow_b75 ok (f_X1_narrow_b11 P n) hr_11 h_a0 h_b26)
set_option maxRecDepth 100000 in
set_option maxHeartbeats 4000000 in
theorem m_X1_narrow (l : Launch) {P : zSt} (hP : zOKP P) {a0 : Nat} {i1 : Int32} {i2 : Int32} (h_a0 : zT P 1 a0) : zMet l P yX1_narrow cX1_narrow 9 1 25 none [.ref a0, .int i1, .int i2] (fun m => f_X1_narrow P a0 i1 i2 m) := by
  refine zMet.of hP (by decide +kernel) RX1 rfl [(0, .ref a0), (1, .int i1), (2, .int i2)] (fun h => h) (Nat.le_of_ble_eq_true rfl) (fun G m ok => ?_)
  show zG P G (f_X1_narrow P a0 i1 i2 m) m 0 _ []
  unfold f_X1_narrow
  refine z_iconst ok (0 : Int32) dX1_narrow_0 (by decide) (show zG P G _ _ 1 _ _ from ?_)
  refine z_istore_n0 ok [(3, .int (0 : Int32)), (0, .ref a0), (1, .int i1), (2, .int i2)] dX1_narrow_1 (by decide) rfl (show zG P G _ _ 2 _ _ from ?_)
  refine z_iconst ok (0 : Int32) dX1_narrow_2 (by decide) (show zG P G _ _ 3 _ _ from ?_)
  refine z_istore0 ok [(4, .int (0 : Int32)), (3, .int (0 : Int32)), (0, .ref a0), (1, .int i1), (2, .int i2)] dX1_narrow_3 (by decide) rfl (show zG P G _ _ 5 _ _ from ?_)
  refine z_iconst ok (0 : Int32) dX1_narrow_5 (by decide) (show zG P G _ _ 6 _ _ from ?_)
  refine z_istore0 ok [(5, .int (0 : Int32)), (4, .int (0 : Int32)), (3, .int (0 : Int32)), (0, .ref a0), (1, .int i1), (2, .int i2)] dX1_narrow_6 (by decide) rfl (show zG P G _ _ 8 _ _ from ?_)
  refine z_iconst ok (0 : Int32) dX1_narrow_8 (by decide) (show zG P G _ _ 9 _ _ from ?_)
  refine z_istore0 ok [(6, .int (0 : Int32)), (5, .int (0 : Int32)), (4, .int (0 : Int32)), (3, .int (0 : Int32)), (0, .ref a0), (1, .int i1), (2, .int i2)] dX1_narrow_9 (by decide) rfl (show zG P G _ _ 11 _ _ from ?_)
  exact z_sub [4, 5, 6, 3, 2, 1, 0] [(0, .ref a0), (1, .int i1), (2, .int i2), (3, .int (0 : Int32)), (4, .int (0 : Int32)), (5, .int (0 : Int32)), (6, .int (0 : Int32))] rfl (t_X1_narrow_b11 ok zfuel _ _ _ _ _ _ _ _ h_a0)

set_option maxRecDepth 100000 in
set_option maxHeartbeats 4000000 in
theorem t_X0_isAvailableIn_b26 {P : zSt} {G : zC} (ok : zOK P G RX0 cX0_isAvailableIn 2 0 0 (some .boolean))   {m : zM}  : zG P G (f_X0_isAvailableIn_b26 P  m) m 26 [] [] := by
  unfold f_X0_isAvailableIn_b26
  refine z_iconst ok (0 : Int32) dX0_isAvailableIn_26 (by decide) (show zG P G _ _ 27 _ _ from ?_)
  exact z_zret ok dX0_isAvailableIn_27
set_option maxRecDepth 100000 in
set_option maxHeartbeats 4000000 in
theorem m_X0_isAvailableIn (l : Launch) {P : zSt} (hP : zOKP P) {a0 : Nat} {i1 : Int32} (h_a0 : zT P 0 a0) : zMet l P yX0_isAvailableIn cX0_isAvailableIn 2 0 0 (some .boolean) [.ref a0, .int i1] (fun m => f_X0_isAvailableIn P a0 i1 m) := by
  refine zMet.of hP (by decide +kernel) RX0 rfl [(0, .ref a0), (1, .int i1)] (fun h => h) (Nat.le_of_ble_eq_true rfl) (fun G m ok => ?_)
  show zG P G (f_X0_isAvailableIn P a0 i1 m) m 0 _ []
  unfold f_X0_isAvailableIn
  refine z_aload_n ok 0 dX0_isAvailableIn_0 rfl (show zG P G _ _ 1 _ _ from ?_)
  refine z_get ok fd_3 h_a0 (Or.inl rfl) tf_X0_9 dX0_isAvailableIn_1 (show zG P G _ _ 4 _ _ from ?_)
  refine z_iload_n ok 1 dX0_isAvailableIn_4 rfl (show zG P G _ _ 5 _ _ from ?_)
  refine z_icmp_ne ok 26 dX0_isAvailableIn_5 (by decide) ?_ (show zG P G _ _ 8 _ _ from ?_)
  · exact z_sub [] [] rfl (t_X0_isAvailableIn_b26 ok)
  · refine z_aload_n ok 0 dX0_isAvailableIn_8 rfl (show zG P G _ _ 9 _ _ from ?_)
    refine z_get ok fd_0 h_a0 (Or.inr ts_142) tf_X0_18 dX0_isAvailableIn_9 (show zG P G _ _ 12 _ _ from ?_)
    refine z_if_le ok 26 dX0_isAvailableIn_12 (by decide) ?_ (show zG P G _ _ 15 _ _ from ?_)
    · exact z_sub [] [] rfl (t_X0_isAvailableIn_b26 ok)
    · refine z_aload_n ok 0 dX0_isAvailableIn_15 rfl (show zG P G _ _ 16 _ _ from ?_)
      refine z_get ok fd_10 h_a0 (Or.inl rfl) tf_X0_39 dX0_isAvailableIn_16 (show zG P G _ _ 19 _ _ from ?_)
      refine z_if_ne ok 26 dX0_isAvailableIn_19 (by decide) ?_ (show zG P G _ _ 22 _ _ from ?_)
      · exact z_sub [] [] rfl (t_X0_isAvailableIn_b26 ok)
      · refine z_iconst ok (1 : Int32) dX0_isAvailableIn_22 (by decide) (show zG P G _ _ 23 _ _ from ?_)
        refine z_goto ok 27 dX0_isAvailableIn_23 (by decide) ?_
        exact z_zret ok dX0_isAvailableIn_27
set_option maxRecDepth 100000 in
set_option maxHeartbeats 4000000 in
theorem m_X10_succeeds (l : Launch) {P : zSt} (hP : zOKP P) {i0 : Int32} {i1 : Int32}  : zMet l P yX10_succeeds cX10_succeeds 2 0 0 (some .boolean) [.int i0, .int i1] (fun m => f_X10_succeeds P i0 i1 m) := by
  refine zMet.of hP (by decide +kernel) RX10 rfl [(0, .int i0), (1, .int i1)] (fun h => h) (Nat.le_of_ble_eq_true rfl) (fun G m ok => ?_)
  show zG P G (f_X10_succeeds P i0 i1 m) m 0 _ []
  unfold f_X10_succeeds
  refine z_iload_n ok 0 dX10_succeeds_0 rfl (show zG P G _ _ 1 _ _ from ?_)
  refine z_iload_n ok 1 dX10_succeeds_1 rfl (show zG P G _ _ 2 _ _ from ?_)
  refine z_bipush ok (7 : Int32) dX10_succeeds_2 (by decide) (show zG P G _ _ 4 _ _ from ?_)
  refine z_iand ok dX10_succeeds_4 (show zG P G _ _ 5 _ _ from ?_)
  refine z_ishr ok dX10_succeeds_5 (show zG P G _ _ 6 _ _ from ?_)
  refine z_iconst ok (1 : Int32) dX10_succeeds_6 (by decide) (show zG P G _ _ 7 _ _ from ?_)
  refine z_iand ok dX10_succeeds_7 (show zG P G _ _ 8 _ _ from ?_)
  refine z_iconst ok (1 : Int32) dX10_succeeds_8 (by decide) (show zG P G _ _ 9 _ _ from ?_)
  refine z_icmp_ne ok 16 dX10_succeeds_9 (by decide) ?_ (show zG P G _ _ 12 _ _ from ?_)
  · refine z_iconst ok (0 : Int32) dX10_succeeds_16 (by decide) (show zG P G _ _ 17 _ _ from ?_)
    exact z_zret ok dX10_succeeds_17
  · refine z_iconst ok (1 : Int32) dX10_succeeds_12 (by decide) (show zG P G _ _ 13 _ _ from ?_)
    refine z_goto ok 17 dX10_succeeds_13 (by decide) ?_
    exact z_zret ok dX10_succeeds_17
set_option maxRecDepth 100000 in
set_option maxHeartbeats 4000000 in
theorem t_X0_attempt_b59 {P : zSt} {G : zC} (ok : zOK P G RX0 cX0_attempt 2 1 21 (some .boolean))  {x1 : Int32} {m : zM}  : zG P G (f_X0_attempt_b59 P x1 m) m 59 [(1, .int x1)] [] := by
  unfold f_X0_attempt_b59
  refine z_iload_n ok 0 dX0_attempt_59 rfl (show zG P G _ _ 60 _ _ from ?_)
  exact z_zret ok dX0_attempt_60
set_option maxRecDepth 100000 in
set_option maxHeartbeats 4000000 in
theorem m_X0_attempt (l : Launch) {P : zSt} (hP : zOKP P) {a0 : Nat} (h_a0 : zT P 0 a0) : zMet l P yX0_attempt cX0_attempt 2 1 21 (some .boolean) [.ref a0] (fun m => f_X0_attempt P a0 m) := by
  refine zMet.of hP (by decide +kernel) RX0 rfl [(0, .ref a0)] (fun h => h) (Nat.le_of_ble_eq_true rfl) (fun G m ok => ?_)
  show zG P G (f_X0_attempt P a0 m) m 0 _ []
  unfold f_X0_attempt
  refine z_aload_n ok 0 dX0_attempt_0 rfl (show zG P G _ _ 1 _ _ from ?_)
  refine z_get ok fd_5 h_a0 (Or.inl rfl) tf_X0_24 dX0_attempt_1 (show zG P G _ _ 4 _ _ from ?_)
  refine z_aload_n ok 0 dX0_attempt_4 rfl (show zG P G _ _ 5 _ _ from ?_)
  refine z_get ok fd_6 h_a0 (Or.inl rfl) tf_X0_27 dX0_attempt_5 (show zG P G _ _ 8 _ _ from ?_)
  refine z_callSi ok [.int (zf m 5 a0), .int (zf m 6 a0)] (m_X10_succeeds _ ok.p) cv_X0_48 rfl (by decide) rfl (Nat.le_of_ble_eq_true rfl) rfl dX0_attempt_8 (fun r8 m8 => (show zG P G _ _ 11 _ _ from ?_))
  refine z_istore_n0 ok [(1, .int r8), (0, .ref a0)] dX0_attempt_11 (by decide) rfl (show zG P G _ _ 12 _ _ from ?_)
  refine z_aload_n ok 1 dX0_attempt_12 rfl (show zG P G _ _ 13 _ _ from ?_)
  refine z_iconst ok (1 : Int32) dX0_attempt_13 (by decide) (show zG P G _ _ 14 _ _ from ?_)
  refine z_putZ ok fd_13 h_a0 (Or.inl rfl) tf_X0_52 dX0_attempt_14 (fun m14 => (show zG P G _ _ 17 _ _ from ?_))
  refine z_aload_n ok 1 dX0_attempt_17 rfl (show zG P G _ _ 18 _ _ from ?_)
  refine z_dup ok dX0_attempt_18 rfl (show zG P G _ _ 19 _ _ from ?_)
  refine z_get ok fd_6 h_a0 (Or.inl rfl) tf_X0_27 dX0_attempt_19 (show zG P G _ _ 22 _ _ from ?_)
  refine z_iconst ok (1 : Int32) dX0_attempt_22 (by decide) (show zG P G _ _ 23 _ _ from ?_)
  refine z_iadd ok dX0_attempt_23 (show zG P G _ _ 24 _ _ from ?_)
  refine z_put ok fd_6 h_a0 (Or.inl rfl) tf_X0_27 dX0_attempt_24 (fun m24 => (show zG P G _ _ 27 _ _ from ?_))
  refine z_iload_n ok 0 dX0_attempt_27 rfl (show zG P G _ _ 28 _ _ from ?_)
  refine z_if_eq ok 49 dX0_attempt_28 (by decide) ?_ (show zG P G _ _ 31 _ _ from ?_)
  · refine z_aload_n ok 1 dX0_attempt_49 rfl (show zG P G _ _ 50 _ _ from ?_)
    refine z_dup ok dX0_attempt_50 rfl (show zG P G _ _ 51 _ _ from ?_)
    refine z_get ok fd_8 h_a0 (Or.inl rfl) tf_X0_33 dX0_attempt_51 (show zG P G _ _ 54 _ _ from ?_)
    refine z_iconst ok (1 : Int32) dX0_attempt_54 (by decide) (show zG P G _ _ 55 _ _ from ?_)
    refine z_iadd ok dX0_attempt_55 (show zG P G _ _ 56 _ _ from ?_)
    refine z_put ok fd_8 h_a0 (Or.inl rfl) tf_X0_33 dX0_attempt_56 (fun m56 => (show zG P G _ _ 59 _ _ from ?_))
    exact z_sub [0] [(1, .int r8)] rfl (t_X0_attempt_b59 ok)
  · refine z_aload_n ok 1 dX0_attempt_31 rfl (show zG P G _ _ 32 _ _ from ?_)
    refine z_dup ok dX0_attempt_32 rfl (show zG P G _ _ 33 _ _ from ?_)
    refine z_get ok fd_7 h_a0 (Or.inl rfl) tf_X0_30 dX0_attempt_33 (show zG P G _ _ 36 _ _ from ?_)
    refine z_iconst ok (1 : Int32) dX0_attempt_36 (by decide) (show zG P G _ _ 37 _ _ from ?_)
    refine z_iadd ok dX0_attempt_37 (show zG P G _ _ 38 _ _ from ?_)
    refine z_put ok fd_7 h_a0 (Or.inl rfl) tf_X0_30 dX0_attempt_38 (fun m38 => (show zG P G _ _ 41 _ _ from ?_))
    refine z_aload_n ok 1 dX0_attempt_41 rfl (show zG P G _ _ 42 _ _ from ?_)
    refine z_iconst ok (0 : Int32) dX0_attempt_42 (by decide) (show zG P G _ _ 43 _ _ from ?_)
    refine z_put ok fd_8 h_a0 (Or.inl rfl) tf_X0_33 dX0_attempt_43 (fun m43 => (show zG P G _ _ 46 _ _ from ?_))
    refine z_goto ok 59 dX0_attempt_46 (by decide) ?_
    exact z_sub [0] [(1, .int r8)] rfl (t_X0_attempt_b59 ok)
set_option maxRecDepth 100000 in
set_option maxHeartbeats 4000000 in
theorem t_X10_isWithin_b14 {P : zSt} {G : zC} (ok : zOK P G RX10 cX10_isWithin 3 0 0 (some .boolean))   {m : zM}  : zG P G (f_X10_isWithin_b14 P  m) m 14 [] [] := by
  unfold f_X10_isWithin_b14
  refine z_iconst ok (0 : Int32) dX10_isWithin_14 (by decide) (show zG P G _ _ 15 _ _ from ?_)
  exact z_zret ok dX10_isWithin_15
set_option maxRecDepth 100000 in
set_option maxHeartbeats 4000000 in
theorem m_X10_isWithin (l : Launch) {P : zSt} (hP : zOKP P) {i0 : Int32} {i1 : Int32} {i2 : Int32}  : zMet l P yX10_isWithin cX10_isWithin 3 0 0 (some .boolean) [.int i0, .int i1, .int i2] (fun m => f_X10_isWithin P i0 i1 i2 m) := by
  refine zMet.of hP (by decide +kernel) RX10 rfl [(0, .int i0), (1, .int i1), (2, .int i2)] (fun h => h) (Nat.le_of_ble_eq_true rfl) (fun G m ok => ?_)
  show zG P G (f_X10_isWithin P i0 i1 i2 m) m 0 _ []
  unfold f_X10_isWithin
  refine z_iload_n ok 0 dX10_isWithin_0 rfl (show zG P G _ _ 1 _ _ from ?_)
  refine z_iload_n ok 1 dX10_isWithin_1 rfl (show zG P G _ _ 2 _ _ from ?_)
  refine z_icmp_lt ok 14 dX10_isWithin_2 (by decide) ?_ (show zG P G _ _ 5 _ _ from ?_)
  · exact z_sub [] [] rfl (t_X10_isWithin_b14 ok)
  · refine z_iload_n ok 0 dX10_isWithin_5 rfl (show zG P G _ _ 6 _ _ from ?_)
    refine z_iload_n ok 2 dX10_isWithin_6 rfl (show zG P G _ _ 7 _ _ from ?_)
    refine z_icmp_gt ok 14 dX10_isWithin_7 (by decide) ?_ (show zG P G _ _ 10 _ _ from ?_)
    · exact z_sub [] [] rfl (t_X10_isWithin_b14 ok)
    · refine z_iconst ok (1 : Int32) dX10_isWithin_10 (by decide) (show zG P G _ _ 11 _ _ from ?_)
      refine z_goto ok 15 dX10_isWithin_11 (by decide) ?_
      exact z_zret ok dX10_isWithin_15
set_option maxRecDepth 100000 in
set_option maxHeartbeats 4000000 in
theorem t_X1_passTick_b47 {P : zSt} {G : zC} (ok : zOK P G RX1 cX1_passTick 2 0 0 none) (rec_12 : Nat → Int32 → zM → Option (Int32 × zM)) (hr_12 : ∀ (a0 : Nat) (x1 : Int32) (m : zM), zT P 1 a0 → zG P G (rec_12 a0 x1 m) m 12 [(0, .ref a0), (1, .int x1)] []) {a0 : Nat} {x1 : Int32} {m : zM} (h_a0 : zT P 1 a0) : zG P G (f_X1_passTick_b47 P rec_12 a0 x1 m) m 47 [(0, .ref a0), (1, .int x1)] [] := by
  unfold f_X1_passTick_b47
  refine z_iinc ok (fun v47 => [(1, .int v47), (0, .ref a0)]) 1 dX1_passTick_47 rfl (by decide) (by decide) (fun _ => rfl) (fun v47 => (show zG P G _ _ 50 _ _ from ?_))
  refine z_goto ok 12 dX1_passTick_50 (by decide) ?_
  exact z_sub [1, 0] [(0, .ref a0), (1, .int v47)] rfl (hr_12 _ _ _ h_a0)
set_option maxRecDepth 100000 in
set_option maxHeartbeats 4000000 in
theorem t_X1_passTick_b12 {P : zSt} {G : zC} (ok : zOK P G RX1 cX1_passTick 2 0 0 none)  : ∀ (n : Nat) (a0 : Nat) (x1 : Int32) (m : zM) (h_a0 : zT P 1 a0), zG P G (f_X1_passTick_b12 P n a0 x1 m) m 12 [(0, .ref a0), (1, .int x1)] [] := by
  intro n
  induction n with
  | zero =>
    intros
    exact zG_none
  | succ n ih =>
    intro a0 x1 m h_a0
    unfold f_X1_passTick_b12
    have hr_12 := ih
    refine z_iload_n ok 1 dX1_passTick_12 rfl (show zG P G _ _ 13 _ _ from ?_)
    refine z_aload_n ok 0 dX1_passTick_13 rfl (show zG P G _ _ 14 _ _ from ?_)
    refine z_get ok fd_21 h_a0 (Or.inl rfl) tf_X1_43 dX1_passTick_14 (show zG P G _ _ 17 _ _ from ?_)
    refine z_icmp_ge ok 53 dX1_passTick_17 (by decide) ?_ (show zG P G _ _ 20 _ _ from ?_)
    · exact z_vret ok dX1_passTick_53
    · refine z_aload_n ok 0 dX1_passTick_20 rfl (show zG P G _ _ 21 _ _ from ?_)
      refine z_getR ok fd_20 h_a0 (Or.inl rfl) tf_X1_11 dX1_passTick_21 (fun b21 h_b21 => (show zG P G _ _ 24 _ _ from ?_))
      refine z_iload_n ok 1 dX1_passTick_24 rfl (show zG P G _ _ 25 _ _ from ?_)
      refine z_aald ok ek_13 h_b21 dX1_passTick_25 (fun b25 h_b25 => (show zG P G _ _ 26 _ _ from ?_))
      refine z_getn ok fd_10 h_b25 (Or.inl rfl) tf_X1_98 dX1_passTick_26 (show zG P G _ _ 29 _ _ from ?_)
      refine z_if_le ok 47 dX1_passTick_29 (by decide) ?_ (show zG P G _ _ 32 _ _ from ?_)
      · exact z_sub [0, 1] [(0, .ref a0), (1, .int x1)] rfl (t_X1_passTick_b47 ok (f_X1_passTick_b12 P n) hr_12 h_a0)
      · refine z_aload_n ok 0 dX1_passTick_32 rfl (show zG P G _ _ 33 _ _ from ?_)
        refine z_getR ok fd_20 h_a0 (Or.inl rfl) tf_X1_11 dX1_passTick_33 (fun b33 h_b33 => (show zG P G _ _ 36 _ _ from ?_))
        refine z_iload_n ok 1 dX1_passTick_36 rfl (show zG P G _ _ 37 _ _ from ?_)
        refine z_aald ok ek_13 h_b33 dX1_passTick_37 (fun b37 h_b37 => (show zG P G _ _ 38 _ _ from ?_))
        refine z_dup ok dX1_passTick_38 rfl (show zG P G _ _ 39 _ _ from ?_)
        refine z_getn ok fd_10 h_b37 (Or.inl rfl) tf_X1_98 dX1_passTick_39 (show zG P G _ _ 42 _ _ from ?_)
        refine z_iconst ok (1 : Int32) dX1_passTick_42 (by decide) (show zG P G _ _ 43 _ _ from ?_)
        refine z_isub ok dX1_passTick_43 (show zG P G _ _ 44 _ _ from ?_)
        refine z_putn ok fd_10 h_b37 (Or.inl rfl) tf_X1_98 dX1_passTick_44 (fun m44 => (show zG P G _ _ 47 _ _ from ?_))
        exact z_sub [0, 1] [(0, .ref a0), (1, .int x1)] rfl (t_X1_passTick_b47 ok (f_X1_passTick_b12 P n) hr_12 h_a0)
set_option maxRecDepth 100000 in
set_option maxHeartbeats 4000000 in
theorem m_X1_passTick (l : Launch) {P : zSt} (hP : zOKP P) {a0 : Nat} (h_a0 : zT P 1 a0) : zMet l P yX1_passTick cX1_passTick 2 0 0 none [.ref a0] (fun m => f_X1_passTick P a0 m) := by
  refine zMet.of hP (by decide +kernel) RX1 rfl [(0, .ref a0)] (fun h => h) (Nat.le_of_ble_eq_true rfl) (fun G m ok => ?_)
  show zG P G (f_X1_passTick P a0 m) m 0 _ []
  unfold f_X1_passTick
  refine z_aload_n ok 0 dX1_passTick_0 rfl (show zG P G _ _ 1 _ _ from ?_)
  refine z_dup ok dX1_passTick_1 rfl (show zG P G _ _ 2 _ _ from ?_)
  refine z_get ok fd_26 h_a0 (Or.inl rfl) tf_X1_59 dX1_passTick_2 (show zG P G _ _ 5 _ _ from ?_)
  refine z_iconst ok (1 : Int32) dX1_passTick_5 (by decide) (show zG P G _ _ 6 _ _ from ?_)
  refine z_iadd ok dX1_passTick_6 (show zG P G _ _ 7 _ _ from ?_)
  refine z_put ok fd_26 h_a0 (Or.inl rfl) tf_X1_59 dX1_passTick_7 (fun m7 => (show zG P G _ _ 10 _ _ from ?_))
  refine z_iconst ok (0 : Int32) dX1_passTick_10 (by decide) (show zG P G _ _ 11 _ _ from ?_)
  refine z_istore_n0 ok [(1, .int (0 : Int32)), (0, .ref a0)] dX1_passTick_11 (by decide) rfl (show zG P G _ _ 12 _ _ from ?_)
  exact z_sub [1, 0] [(0, .ref a0), (1, .int (0 : Int32))] rfl (t_X1_passTick_b12 ok zfuel _ _ _ h_a0)
set_option maxRecDepth 100000 in
set_option maxHeartbeats 4000000 in
theorem t_X1_hasAvailable_b2 {P : zSt} {G : zC} (ok : zOK P G RX1 cX1_hasAvailable 3 1 21 (some .boolean))  : ∀ (n : Nat) (a0 : Nat) (x1 : Int32) (x2 : Int32) (m : zM) (h_a0 : zT P 1 a0), zG P G (f_X1_hasAvailable_b2 P n a0 x1 x2 m) m 2 [(0, .ref a0), (1, .int x1), (2, .int x2)] [] := by
  intro n
  induction n with
  | zero =>
    intros
    exact zG_none
  | succ n ih =>
    intro a0 x1 x2 m h_a0
    unfold f_X1_hasAvailable_b2
    have hr_2 := ih
    refine z_iload_n ok 2 dX1_hasAvailable_2 rfl (show zG P G _ _ 3 _ _ from ?_)
    refine z_aload_n ok 0 dX1_hasAvailable_3 rfl (show zG P G _ _ 4 _ _ from ?_)
    refine z_get ok fd_21 h_a0 (Or.inl rfl) tf_X1_43 dX1_hasAvailable_4 (show zG P G _ _ 7 _ _ from ?_)
    refine z_icmp_ge ok 31 dX1_hasAvailable_7 (by decide) ?_ (show zG P G _ _ 10 _ _ from ?_)
    · refine z_iconst ok (0 : Int32) dX1_hasAvailable_31 (by decide) (show zG P G _ _ 32 _ _ from ?_)
      exact z_zret ok dX1_hasAvailable_32
    · refine z_aload_n ok 0 dX1_hasAvailable_10 rfl (show zG P G _ _ 11 _ _ from ?_)
      refine z_getR ok fd_20 h_a0 (Or.inl rfl) tf_X1_11 dX1_hasAvailable_11 (fun b11 h_b11 => (show zG P G _ _ 14 _ _ from ?_))
      refine z_iload_n ok 2 dX1_hasAvailable_14 rfl (show zG P G _ _ 15 _ _ from ?_)
      refine z_aald ok ek_13 h_b11 dX1_hasAvailable_15 (fun b15 h_b15 => (show zG P G _ _ 16 _ _ from ?_))
      refine z_iload_n ok 1 dX1_hasAvailable_16 rfl (show zG P G _ _ 17 _ _ from ?_)
      refine z_callVi ok [.int x1] (m_X0_isAvailableIn _ ok.p h_b15) cv_X1_164 h_b15 rfl (by decide) rfl (Nat.le_of_ble_eq_true rfl) rfl dX1_hasAvailable_17 (fun r17 m17 => (show zG P G _ _ 20 _ _ from ?_))
      refine z_if_eq ok 25 dX1_hasAvailable_20 (by decide) ?_ (show zG P G _ _ 23 _ _ from ?_)
      · refine z_iinc ok (fun v25 => [(2, .int v25), (0, .ref a0), (1, .int x1)]) 2 dX1_hasAvailable_25 rfl (by decide) (by decide) (fun _ => rfl) (fun v25 => (show zG P G _ _ 28 _ _ from ?_))
        refine z_goto ok 2 dX1_hasAvailable_28 (by decide) ?_
        exact z_sub [1, 2, 0] [(0, .ref a0), (1, .int x1), (2, .int v25)] rfl (hr_2 _ _ _ _ h_a0)
      · refine z_iconst ok (1 : Int32) dX1_hasAvailable_23 (by decide) (show zG P G _ _ 24 _ _ from ?_)
        exact z_zret ok dX1_hasAvailable_24
set_option maxRecDepth 100000 in
set_option maxHeartbeats 4000000 in
theorem m_X1_hasAvailable (l : Launch) {P : zSt} (hP : zOKP P) {a0 : Nat} {i1 : Int32} (h_a0 : zT P 1 a0) : zMet l P yX1_hasAvailable cX1_hasAvailable 3 1 21 (some .boolean) [.ref a0, .int i1] (fun m => f_X1_hasAvailable P a0 i1 m) := by
  refine zMet.of hP (by decide +kernel) RX1 rfl [(0, .ref a0), (1, .int i1)] (fun h => h) (Nat.le_of_ble_eq_true rfl) (fun G m ok => ?_)
  show zG P G (f_X1_hasAvailable P a0 i1 m) m 0 _ []
  unfold f_X1_hasAvailable
  refine z_iconst ok (0 : Int32) dX1_hasAvailable_0 (by decide) (show zG P G _ _ 1 _ _ from ?_)
  refine z_istore_n0 ok [(2, .int (0 : Int32)), (0, .ref a0), (1, .int i1)] dX1_hasAvailable_1 (by decide) rfl (show zG P G _ _ 2 _ _ from ?_)
  exact z_sub [1, 2, 0] [(0, .ref a0), (1, .int i1), (2, .int (0 : Int32))] rfl (t_X1_hasAvailable_b2 ok zfuel _ _ _ _ h_a0)
set_option maxRecDepth 100000 in
set_option maxHeartbeats 4000000 in
theorem t_X9_chooseByWeights_13_b79 {P : zSt} {G : zC} (ok : zOK P G RX9 cX9_chooseByWeights 6 0 0 (some .int)) (rec_7 : Nat → Int32 → Int32 → Int32 → Int32 → zM → Option (Int32 × zM)) (hr_7 : ∀ (a0 : Nat) (x1 : Int32) (x2 : Int32) (x3 : Int32) (x4 : Int32) (m : zM), zT P 13 a0 → zG P G (rec_7 a0 x1 x2 x3 x4 m) m 7 [(0, .ref a0), (1, .int x1), (2, .int x2), (3, .int x3), (4, .int x4)] []) {a0 : Nat} {x1 : Int32} {x2 : Int32} {x3 : Int32} {x4 : Int32} {m : zM} (h_a0 : zT P 13 a0) : zG P G (f_X9_chooseByWeights_13_b79 P rec_7 a0 x1 x2 x3 x4 m) m 79 [(0, .ref a0), (1, .int x1), (2, .int x2), (3, .int x3), (4, .int x4)] [] := by
  unfold f_X9_chooseByWeights_13_b79
  refine z_iinc ok (fun v79 => [(4, .int v79), (0, .ref a0), (1, .int x1), (2, .int x2), (3, .int x3)]) 4 dX9_chooseByWeights_79 rfl (by decide) (by decide) (fun _ => rfl) (fun v79 => (show zG P G _ _ 82 _ _ from ?_))
  refine z_goto ok 7 dX9_chooseByWeights_82 (by decide) ?_
  exact z_sub [1, 2, 3, 4, 0] [(0, .ref a0), (1, .int x1), (2, .int x2), (3, .int x3), (4, .int v79)] rfl (hr_7 _ _ _ _ _ _ h_a0)
set_option maxRecDepth 100000 in
set_option maxHeartbeats 4000000 in
theorem t_X9_chooseByWeights_13_b76 {P : zSt} {G : zC} (ok : zOK P G RX9 cX9_chooseByWeights 6 0 0 (some .int)) (rec_7 : Nat → Int32 → Int32 → Int32 → Int32 → zM → Option (Int32 × zM)) (hr_7 : ∀ (a0 : Nat) (x1 : Int32) (x2 : Int32) (x3 : Int32) (x4 : Int32) (m : zM), zT P 13 a0 → zG P G (rec_7 a0 x1 x2 x3 x4 m) m 7 [(0, .ref a0), (1, .int x1), (2, .int x2), (3, .int x3), (4, .int x4)] []) {a0 : Nat} {x1 : Int32} {x3 : Int32} {x4 : Int32} {m : zM} (h_a0 : zT P 13 a0) : zG P G (f_X9_chooseByWeights_13_b76 P rec_7 a0 x1 x3 x4 m) m 76 [(0, .ref a0), (1, .int x1), (3, .int x3), (4, .int x4)] [] := by
  unfold f_X9_chooseByWeights_13_b76
  refine z_iload ok 3 dX9_chooseByWeights_76 rfl (show zG P G _ _ 78 _ _ from ?_)
  refine z_istore_n0 ok [(2, .int x4), (0, .ref a0), (1, .int x1), (3, .int x3), (4, .int x4)] dX9_chooseByWeights_78 (by decide) rfl (show zG P G _ _ 79 _ _ from ?_)
  exact z_sub [1, 2, 0, 3, 4] [(0, .ref a0), (1, .int x1), (2, .int x4), (3, .int x3), (4, .int x4)] rfl (t_X9_chooseByWeights_13_b79 ok rec_7 hr_7 h_a0)
set_option maxRecDepth 100000 in
set_option maxHeartbeats 4000000 in
theorem t_X9_chooseByWeights_13_b102 {P : zSt} {G : zC} (ok : zOK P G RX9 cX9_chooseByWeights 6 0 0 (some .int))  {x2 : Int32} {m : zM}  : zG P G (f_X9_chooseByWeights_13_b102 P x2 m) m 102 [(2, .int x2)] [] := by
  unfold f_X9_chooseByWeights_13_b102
  refine z_iload_n ok 0 dX9_chooseByWeights_102 rfl (show zG P G _ _ 103 _ _ from ?_)
  exact z_iret ok dX9_chooseByWeights_103
set_option maxRecDepth 100000 in
set_option maxHeartbeats 4000000 in
theorem t_X9_chooseByWeights_13_b85 {P : zSt} {G : zC} (ok : zOK P G RX9 cX9_chooseByWeights 6 0 0 (some .int))  {a0 : Nat} {x2 : Int32} {x3 : Int32} {m : zM} (h_a0 : zT P 13 a0) : zG P G (f_X9_chooseByWeights_13_b85 P a0 x2 x3 m) m 85 [(0, .ref a0), (2, .int x2), (3, .int x3)] [] := by
  unfold f_X9_chooseByWeights_13_b85
  refine z_iload_n ok 1 dX9_chooseByWeights_85 rfl (show zG P G _ _ 86 _ _ from ?_)
  refine z_iconst ok (-1 : Int32) dX9_chooseByWeights_86 (by decide) (show zG P G _ _ 87 _ _ from ?_)
  refine z_icmp_eq ok 102 dX9_chooseByWeights_87 (by decide) ?_ (show zG P G _ _ 90 _ _ from ?_)
  · exact z_sub [1] [(2, .int x2)] rfl (t_X9_chooseByWeights_13_b102 ok)
  · refine z_aload_n ok 0 dX9_chooseByWeights_90 rfl (show zG P G _ _ 91 _ _ from ?_)
    refine z_iload_n ok 1 dX9_chooseByWeights_91 rfl (show zG P G _ _ 92 _ _ from ?_)
    refine z_aald ok ek_13 h_a0 dX9_chooseByWeights_92 (fun b92 h_b92 => (show zG P G _ _ 93 _ _ from ?_))
    refine z_dup ok dX9_chooseByWeights_93 rfl (show zG P G _ _ 94 _ _ from ?_)
    refine z_get ok fd_1 h_b92 (Or.inl rfl) tf_X9_15 dX9_chooseByWeights_94 (show zG P G _ _ 97 _ _ from ?_)
    refine z_iload_n ok 2 dX9_chooseByWeights_97 rfl (show zG P G _ _ 98 _ _ from ?_)
    refine z_isub ok dX9_chooseByWeights_98 (show zG P G _ _ 99 _ _ from ?_)
    refine z_put ok fd_1 h_b92 (Or.inl rfl) tf_X9_15 dX9_chooseByWeights_99 (fun m99 => (show zG P G _ _ 102 _ _ from ?_))
    exact z_sub [1] [(2, .int x2)] rfl (t_X9_chooseByWeights_13_b102 ok)
set_option maxRecDepth 100000 in
set_option maxHeartbeats 4000000 in
theorem t_X9_chooseByWeights_13_b7 {P : zSt} {G : zC} (ok : zOK P G RX9 cX9_chooseByWeights 6 0 0 (some .int))  : ∀ (n : Nat) (a0 : Nat) (x1 : Int32) (x2 : Int32) (x3 : Int32) (x4 : Int32) (m : zM) (h_a0 : zT P 13 a0), zG P G (f_X9_chooseByWeights_13_b7 P n a0 x1 x2 x3 x4 m) m 7 [(0, .ref a0), (1, .int x1), (2, .int x2), (3, .int x3), (4, .int x4)] [] := by
  intro n
  induction n with
  | zero =>
    intros
    exact zG_none
  | succ n ih =>
    intro a0 x1 x2 x3 x4 m h_a0
    unfold f_X9_chooseByWeights_13_b7
    have hr_7 := ih
    refine z_iload ok 4 dX9_chooseByWeights_7 rfl (show zG P G _ _ 9 _ _ from ?_)
    refine z_iload_n ok 1 dX9_chooseByWeights_9 rfl (show zG P G _ _ 10 _ _ from ?_)
    refine z_icmp_ge ok 85 dX9_chooseByWeights_10 (by decide) ?_ (show zG P G _ _ 13 _ _ from ?_)
    · exact z_sub [0, 2, 3] [(0, .ref a0), (2, .int x2), (3, .int x3)] rfl (t_X9_chooseByWeights_13_b85 ok h_a0)
    · refine z_iload ok 4 dX9_chooseByWeights_13 rfl (show zG P G _ _ 15 _ _ from ?_)
      refine z_aload_n ok 0 dX9_chooseByWeights_15 rfl (show zG P G _ _ 16 _ _ from ?_)
      refine z_alen ok ek_13 h_a0 dX9_chooseByWeights_16 (show zG P G _ _ 17 _ _ from ?_)
      refine z_icmp_ge ok 85 dX9_chooseByWeights_17 (by decide) ?_ (show zG P G _ _ 20 _ _ from ?_)
      · exact z_sub [0, 2, 3] [(0, .ref a0), (2, .int x2), (3, .int x3)] rfl (t_X9_chooseByWeights_13_b85 ok h_a0)
      · refine z_aload_n ok 0 dX9_chooseByWeights_20 rfl (show zG P G _ _ 21 _ _ from ?_)
        refine z_iload ok 4 dX9_chooseByWeights_21 rfl (show zG P G _ _ 23 _ _ from ?_)
        refine z_aald ok ek_13 h_a0 dX9_chooseByWeights_23 (fun b23 h_b23 => (show zG P G _ _ 24 _ _ from ?_))
        refine z_astore ok [(5, .ref b23), (0, .ref a0), (1, .int x1), (2, .int x2), (3, .int x3), (4, .int x4)] dX9_chooseByWeights_24 (by decide) rfl (show zG P G _ _ 26 _ _ from ?_)
        refine z_aload ok 0 dX9_chooseByWeights_26 rfl (show zG P G _ _ 28 _ _ from ?_)
        refine z_get ok fd_2 h_b23 (Or.inl rfl) tf_X9_9 dX9_chooseByWeights_28 (show zG P G _ _ 31 _ _ from ?_)
        refine z_if_eq ok 79 dX9_chooseByWeights_31 (by decide) ?_ (show zG P G _ _ 34 _ _ from ?_)
        · exact z_sub [1, 2, 3, 4, 5] [(0, .ref a0), (1, .int x1), (2, .int x2), (3, .int x3), (4, .int x4)] rfl (t_X9_chooseByWeights_13_b79 ok (f_X9_chooseByWeights_13_b7 P n) hr_7 h_a0)
        · refine z_aload ok 0 dX9_chooseByWeights_34 rfl (show zG P G _ _ 36 _ _ from ?_)
          refine z_dup ok dX9_chooseByWeights_36 rfl (show zG P G _ _ 37 _ _ from ?_)
          refine z_get ok fd_1 h_b23 (Or.inl rfl) tf_X9_15 dX9_chooseByWeights_37 (show zG P G _ _ 40 _ _ from ?_)
          refine z_aload ok 0 dX9_chooseByWeights_40 rfl (show zG P G _ _ 42 _ _ from ?_)
          refine z_get ok fd_0 h_b23 (Or.inl rfl) tf_X9_19 dX9_chooseByWeights_42 (show zG P G _ _ 45 _ _ from ?_)
          refine z_iadd ok dX9_chooseByWeights_45 (show zG P G _ _ 46 _ _ from ?_)
          refine z_put ok fd_1 h_b23 (Or.inl rfl) tf_X9_15 dX9_chooseByWeights_46 (fun m46 => (show zG P G _ _ 49 _ _ from ?_))
          refine z_iload_n ok 4 dX9_chooseByWeights_49 rfl (show zG P G _ _ 50 _ _ from ?_)
          refine z_aload ok 0 dX9_chooseByWeights_50 rfl (show zG P G _ _ 52 _ _ from ?_)
          refine z_get ok fd_0 h_b23 (Or.inl rfl) tf_X9_19 dX9_chooseByWeights_52 (show zG P G _ _ 55 _ _ from ?_)
          refine z_iadd ok dX9_chooseByWeights_55 (show zG P G _ _ 56 _ _ from ?_)
          refine z_istore_n ok (fun v56 => [(3, .int v56), (5, .ref b23), (0, .ref a0), (1, .int x1), (2, .int x2), (4, .int x4)]) dX9_chooseByWeights_56 (by decide) (fun _ => rfl) (fun v56 => (show zG P G _ _ 57 _ _ from ?_))
          refine z_iload_n ok 4 dX9_chooseByWeights_57 rfl (show zG P G _ _ 58 _ _ from ?_)
          refine z_iconst ok (-1 : Int32) dX9_chooseByWeights_58 (by decide) (show zG P G _ _ 59 _ _ from ?_)
          refine z_icmp_eq ok 76 dX9_chooseByWeights_59 (by decide) ?_ (show zG P G _ _ 62 _ _ from ?_)
          · exact z_sub [2, 3, 0, 5] [(0, .ref a0), (1, .int x1), (3, .int v56), (4, .int x4)] rfl (t_X9_chooseByWeights_13_b76 ok (f_X9_chooseByWeights_13_b7 P n) hr_7 h_a0)
          · refine z_aload ok 1 dX9_chooseByWeights_62 rfl (show zG P G _ _ 64 _ _ from ?_)
            refine z_get ok fd_1 h_b23 (Or.inl rfl) tf_X9_15 dX9_chooseByWeights_64 (show zG P G _ _ 67 _ _ from ?_)
            refine z_aload_n ok 2 dX9_chooseByWeights_67 rfl (show zG P G _ _ 68 _ _ from ?_)
            refine z_iload_n ok 4 dX9_chooseByWeights_68 rfl (show zG P G _ _ 69 _ _ from ?_)
            refine z_aald ok ek_13 h_a0 dX9_chooseByWeights_69 (fun b69 h_b69 => (show zG P G _ _ 70 _ _ from ?_))
            refine z_get ok fd_1 h_b69 (Or.inl rfl) tf_X9_15 dX9_chooseByWeights_70 (show zG P G _ _ 73 _ _ from ?_)
            refine z_icmp_le ok 79 dX9_chooseByWeights_73 (by decide) ?_ (show zG P G _ _ 76 _ _ from ?_)
            · exact z_sub [2, 3, 4, 0, 5] [(0, .ref a0), (1, .int x1), (2, .int x2), (3, .int v56), (4, .int x4)] rfl (t_X9_chooseByWeights_13_b79 ok (f_X9_chooseByWeights_13_b7 P n) hr_7 h_a0)
            · exact z_sub [2, 3, 0, 5] [(0, .ref a0), (1, .int x1), (3, .int v56), (4, .int x4)] rfl (t_X9_chooseByWeights_13_b76 ok (f_X9_chooseByWeights_13_b7 P n) hr_7 h_a0)
set_option maxRecDepth 100000 in
set_option maxHeartbeats 4000000 in
theorem m_X9_chooseByWeights_13 (l : Launch) {P : zSt} (hP : zOKP P) {a0 : Nat} {i1 : Int32} (h_a0 : zT P 13 a0) : zMet l P yX9_chooseByWeights cX9_chooseByWeights 6 0 0 (some .int) [.ref a0, .int i1] (fun m => f_X9_chooseByWeights_13 P a0 i1 m) := by
  refine zMet.of hP (by decide +kernel) RX9 rfl [(0, .ref a0), (1, .int i1)] (fun h => h) (Nat.le_of_ble_eq_true rfl) (fun G m ok => ?_)
  show zG P G (f_X9_chooseByWeights_13 P a0 i1 m) m 0 _ []
  unfold f_X9_chooseByWeights_13
  refine z_iconst ok (-1 : Int32) dX9_chooseByWeights_0 (by decide) (show zG P G _ _ 1 _ _ from ?_)
  refine z_istore_n0 ok [(2, .int (-1 : Int32)), (0, .ref a0), (1, .int i1)] dX9_chooseByWeights_1 (by decide) rfl (show zG P G _ _ 2 _ _ from ?_)
  refine z_iconst ok (0 : Int32) dX9_chooseByWeights_2 (by decide) (show zG P G _ _ 3 _ _ from ?_)
  refine z_istore_n0 ok [(3, .int (0 : Int32)), (2, .int (-1 : Int32)), (0, .ref a0), (1, .int i1)] dX9_chooseByWeights_3 (by decide) rfl (show zG P G _ _ 4 _ _ from ?_)
  refine z_iconst ok (0 : Int32) dX9_chooseByWeights_4 (by decide) (show zG P G _ _ 5 _ _ from ?_)
  refine z_istore0 ok [(4, .int (0 : Int32)), (3, .int (0 : Int32)), (2, .int (-1 : Int32)), (0, .ref a0), (1, .int i1)] dX9_chooseByWeights_5 (by decide) rfl (show zG P G _ _ 7 _ _ from ?_)
  exact z_sub [3, 4, 2, 1, 0] [(0, .ref a0), (1, .int i1), (2, .int (-1 : Int32)), (3, .int (0 : Int32)), (4, .int (0 : Int32))] rfl (t_X9_chooseByWeights_13_b7 ok zfuel _ _ _ _ _ _ h_a0)

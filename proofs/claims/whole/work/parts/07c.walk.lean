set_option maxRecDepth 100000 in
set_option maxHeartbeats 4000000 in
theorem m_X10_isHeader (l : Launch) {P : zSt} (hP : zOKP P) {i0 : Int32}  : zMet l P yX10_isHeader cX10_isHeader 1 1 22 (some .boolean) [.int i0] (fun m => f_X10_isHeader P i0 m) := by
  refine zMet.of hP (by decide +kernel) RX10 rfl [(0, .int i0)] (fun h => h) (Nat.le_of_ble_eq_true rfl) (fun G m ok => ?_)
  show zG P G (f_X10_isHeader P i0 m) m 0 _ []
  unfold f_X10_isHeader
  refine z_iload_n ok 0 dX10_isHeader_0 rfl (show zG P G _ _ 1 _ _ from ?_)
  refine z_iconst ok (0 : Int32) dX10_isHeader_1 (by decide) (show zG P G _ _ 2 _ _ from ?_)
  refine z_bipush ok (9 : Int32) dX10_isHeader_2 (by decide) (show zG P G _ _ 4 _ _ from ?_)
  refine z_callSi ok [.int i0, .int (0 : Int32), .int (9 : Int32)] (m_X10_isWithin _ ok.p) cv_X10_58 rfl (by decide) rfl (Nat.le_of_ble_eq_true rfl) rfl dX10_isHeader_4 (fun r4 m4 => (show zG P G _ _ 7 _ _ from ?_))
  exact z_zret ok dX10_isHeader_7
set_option maxRecDepth 100000 in
set_option maxHeartbeats 4000000 in
theorem t_X10_requestError_b14 {P : zSt} {G : zC} (ok : zOK P G RX10 cX10_requestError 3 3 64 (some .int))   {m : zM}  : zG P G (f_X10_requestError_b14 P  m) m 14 [] [] := by
  unfold f_X10_requestError_b14
  refine z_bipush ok (-2 : Int32) dX10_requestError_14 (by decide) (show zG P G _ _ 16 _ _ from ?_)
  exact z_iret ok dX10_requestError_16
set_option maxRecDepth 100000 in
set_option maxHeartbeats 4000000 in
theorem m_X10_requestError (l : Launch) {P : zSt} (hP : zOKP P) {a0 : Nat} {i1 : Int32} {i2 : Int32} (h_a0 : zT P 9 a0) : zMet l P yX10_requestError cX10_requestError 3 3 64 (some .int) [.ref a0, .int i1, .int i2] (fun m => f_X10_requestError P a0 i1 i2 m) := by
  refine zMet.of hP (by decide +kernel) RX10 rfl [(0, .ref a0), (1, .int i1), (2, .int i2)] (fun h => h) (Nat.le_of_ble_eq_true rfl) (fun G m ok => ?_)
  show zG P G (f_X10_requestError P a0 i1 i2 m) m 0 _ []
  unfold f_X10_requestError
  refine z_iload_n ok 1 dX10_requestError_0 rfl (show zG P G _ _ 1 _ _ from ?_)
  refine z_callSi ok [.int i1] (m_X10_isHeader _ ok.p) cv_X10_184 rfl (by decide) rfl (Nat.le_of_ble_eq_true rfl) rfl dX10_requestError_1 (fun r1 m1 => (show zG P G _ _ 4 _ _ from ?_))
  refine z_if_eq ok 14 dX10_requestError_4 (by decide) ?_ (show zG P G _ _ 7 _ _ from ?_)
  · exact z_sub [] [] rfl (t_X10_requestError_b14 ok)
  · refine z_iload_n ok 2 dX10_requestError_7 rfl (show zG P G _ _ 8 _ _ from ?_)
    refine z_callSi ok [.int i2] (m_X10_isZone _ ok.p) cv_X10_55 rfl (by decide) rfl (Nat.le_of_ble_eq_true rfl) rfl dX10_requestError_8 (fun r8 m8 => (show zG P G _ _ 11 _ _ from ?_))
    refine z_if_ne ok 17 dX10_requestError_11 (by decide) ?_ (show zG P G _ _ 14 _ _ from ?_)
    · refine z_aload_n ok 0 dX10_requestError_17 rfl (show zG P G _ _ 18 _ _ from ?_)
      refine z_getR ok fd_185 h_a0 (Or.inl rfl) tf_X10_35 dX10_requestError_18 (fun b18 h_b18 => (show zG P G _ _ 21 _ _ from ?_))
      refine z_callVi ok [] (m_X7_isPath _ ok.p h_b18) cv_X10_245 h_b18 rfl (by decide) rfl (Nat.le_of_ble_eq_true rfl) rfl dX10_requestError_21 (fun r21 m21 => (show zG P G _ _ 24 _ _ from ?_))
      refine z_if_eq ok 31 dX10_requestError_24 (by decide) ?_ (show zG P G _ _ 27 _ _ from ?_)
      · refine z_bipush ok (-7 : Int32) dX10_requestError_31 (by decide) (show zG P G _ _ 33 _ _ from ?_)
        exact z_iret ok dX10_requestError_33
      · refine z_iconst ok (0 : Int32) dX10_requestError_27 (by decide) (show zG P G _ _ 28 _ _ from ?_)
        refine z_goto ok 33 dX10_requestError_28 (by decide) ?_
        exact z_iret ok dX10_requestError_33
    · exact z_sub [] [] rfl (t_X10_requestError_b14 ok)
set_option maxRecDepth 100000 in
set_option maxHeartbeats 4000000 in
theorem m_X10_match (l : Launch) {P : zSt} (hP : zOKP P) {a0 : Nat} {i1 : Int32} (h_a0 : zT P 9 a0) : zMet l P yX10_match cX10_match 3 5 110 (some .int) [.ref a0, .int i1] (fun m => f_X10_match P a0 i1 m) := by
  refine zMet.of hP (by decide +kernel) RX10 rfl [(0, .ref a0), (1, .int i1)] (fun h => h) (Nat.le_of_ble_eq_true rfl) (fun G m ok => ?_)
  show zG P G (f_X10_match P a0 i1 m) m 0 _ []
  unfold f_X10_match
  refine z_aload_n ok 0 dX10_match_0 rfl (show zG P G _ _ 1 _ _ from ?_)
  refine z_iload_n ok 1 dX10_match_1 rfl (show zG P G _ _ 2 _ _ from ?_)
  refine z_iconst ok (0 : Int32) dX10_match_2 (by decide) (show zG P G _ _ 3 _ _ from ?_)
  refine z_callVi ok [.int i1, .int (0 : Int32)] (m_X10_requestError _ ok.p h_a0) cv_X10_150 h_a0 rfl (by decide) rfl (Nat.le_of_ble_eq_true rfl) rfl dX10_match_3 (fun r3 m3 => (show zG P G _ _ 6 _ _ from ?_))
  refine z_istore_n0 ok [(2, .int r3), (0, .ref a0), (1, .int i1)] dX10_match_6 (by decide) rfl (show zG P G _ _ 7 _ _ from ?_)
  refine z_iload_n ok 0 dX10_match_7 rfl (show zG P G _ _ 8 _ _ from ?_)
  refine z_if_eq ok 15 dX10_match_8 (by decide) ?_ (show zG P G _ _ 11 _ _ from ?_)
  · refine z_aload_n ok 1 dX10_match_15 rfl (show zG P G _ _ 16 _ _ from ?_)
    refine z_getR ok fd_180 h_a0 (Or.inl rfl) tf_X10_10 dX10_match_16 (fun b16 h_b16 => (show zG P G _ _ 19 _ _ from ?_))
    refine z_aload_n ok 1 dX10_match_19 rfl (show zG P G _ _ 20 _ _ from ?_)
    refine z_getR ok fd_185 h_a0 (Or.inl rfl) tf_X10_35 dX10_match_20 (fun b20 h_b20 => (show zG P G _ _ 23 _ _ from ?_))
    refine z_iload_n ok 2 dX10_match_23 rfl (show zG P G _ _ 24 _ _ from ?_)
    refine z_callVi ok [.ref b20, .int i1] (m_X1_findRule _ ok.p h_b16 h_b20) cv_X10_154 h_b16 rfl (by decide) rfl (Nat.le_of_ble_eq_true rfl) rfl dX10_match_24 (fun r24 m24 => (show zG P G _ _ 27 _ _ from ?_))
    exact z_iret ok dX10_match_27
  · refine z_iload_n ok 0 dX10_match_11 rfl (show zG P G _ _ 12 _ _ from ?_)
    refine z_goto ok 27 dX10_match_12 (by decide) ?_
    exact z_iret ok dX10_match_27
set_option maxRecDepth 100000 in
set_option maxHeartbeats 4000000 in
theorem t_X10_request_b27 {P : zSt} {G : zC} (ok : zOK P G RX10 cX10_request 6 6 141 (some .int))  {a0 : Nat} {x1 : Int32} {x2 : Int32} {x3 : Int32} {s0 : Int32} {m : zM} (h_a0 : zT P 9 a0) : zG P G (f_X10_request_b27 P a0 x1 x2 x3 s0 m) m 27 [(0, .ref a0), (1, .int x1), (2, .int x2), (3, .int x3)] [.int s0] := by
  unfold f_X10_request_b27
  refine z_istore0 ok [(4, .int s0), (0, .ref a0), (1, .int x1), (2, .int x2), (3, .int x3)] dX10_request_27 (by decide) rfl (show zG P G _ _ 29 _ _ from ?_)
  refine z_aload_n ok 1 dX10_request_29 rfl (show zG P G _ _ 30 _ _ from ?_)
  refine z_getR ok fd_185 h_a0 (Or.inl rfl) tf_X10_35 dX10_request_30 (fun b30 h_b30 => (show zG P G _ _ 33 _ _ from ?_))
  refine z_callVv ok [] (m_X7_clear _ ok.p h_b30) cv_X10_123 h_b30 rfl (by decide) rfl (Nat.le_of_ble_eq_true rfl) rfl dX10_request_33 (fun _ m33 => (show zG P G _ _ 36 _ _ from ?_))
  refine z_iload_n ok 4 dX10_request_36 rfl (show zG P G _ _ 37 _ _ from ?_)
  refine z_if_eq ok 42 dX10_request_37 (by decide) ?_ (show zG P G _ _ 40 _ _ from ?_)
  · refine z_aload_n ok 1 dX10_request_42 rfl (show zG P G _ _ 43 _ _ from ?_)
    refine z_getR ok fd_180 h_a0 (Or.inl rfl) tf_X10_10 dX10_request_43 (fun b43 h_b43 => (show zG P G _ _ 46 _ _ from ?_))
    refine z_iload ok 0 dX10_request_46 rfl (show zG P G _ _ 48 _ _ from ?_)
    refine z_iload_n ok 2 dX10_request_48 rfl (show zG P G _ _ 49 _ _ from ?_)
    refine z_iload_n ok 3 dX10_request_49 rfl (show zG P G _ _ 50 _ _ from ?_)
    refine z_callVi ok [.int s0, .int x1, .int x2] (m_X1_answer _ ok.p h_b43) cv_X10_158 h_b43 rfl (by decide) rfl (Nat.le_of_ble_eq_true rfl) rfl dX10_request_50 (fun r50 m50 => (show zG P G _ _ 53 _ _ from ?_))
    refine z_istore0 ok [(5, .int r50), (4, .int s0), (0, .ref a0), (1, .int x1), (2, .int x2), (3, .int x3)] dX10_request_53 (by decide) rfl (show zG P G _ _ 55 _ _ from ?_)
    refine z_aload_n ok 2 dX10_request_55 rfl (show zG P G _ _ 56 _ _ from ?_)
    refine z_getR ok fd_184 h_a0 (Or.inl rfl) tf_X10_28 dX10_request_56 (fun b56 h_b56 => (show zG P G _ _ 59 _ _ from ?_))
    refine z_iload ok 1 dX10_request_59 rfl (show zG P G _ _ 61 _ _ from ?_)
    refine z_iload_n ok 3 dX10_request_61 rfl (show zG P G _ _ 62 _ _ from ?_)
    refine z_iload_n ok 4 dX10_request_62 rfl (show zG P G _ _ 63 _ _ from ?_)
    refine z_iload ok 0 dX10_request_63 rfl (show zG P G _ _ 65 _ _ from ?_)
    refine z_callVv ok [.int s0, .int x1, .int x2, .int r50] (m_X2_addRequest _ ok.p h_b56) cv_X10_161 h_b56 rfl (by decide) rfl (Nat.le_of_ble_eq_true rfl) rfl dX10_request_65 (fun _ m65 => (show zG P G _ _ 68 _ _ from ?_))
    refine z_iload ok 0 dX10_request_68 rfl (show zG P G _ _ 70 _ _ from ?_)
    exact z_iret ok dX10_request_70
  · refine z_iload_n ok 4 dX10_request_40 rfl (show zG P G _ _ 41 _ _ from ?_)
    exact z_iret ok dX10_request_41
set_option maxRecDepth 100000 in
set_option maxHeartbeats 4000000 in
theorem m_X10_request (l : Launch) {P : zSt} (hP : zOKP P) {a0 : Nat} {i1 : Int32} {i2 : Int32} (h_a0 : zT P 9 a0) : zMet l P yX10_request cX10_request 6 6 141 (some .int) [.ref a0, .int i1, .int i2] (fun m => f_X10_request P a0 i1 i2 m) := by
  refine zMet.of hP (by decide +kernel) RX10 rfl [(0, .ref a0), (1, .int i1), (2, .int i2)] (fun h => h) (Nat.le_of_ble_eq_true rfl) (fun G m ok => ?_)
  show zG P G (f_X10_request P a0 i1 i2 m) m 0 _ []
  unfold f_X10_request
  refine z_aload_n ok 0 dX10_request_0 rfl (show zG P G _ _ 1 _ _ from ?_)
  refine z_iload_n ok 1 dX10_request_1 rfl (show zG P G _ _ 2 _ _ from ?_)
  refine z_iload_n ok 2 dX10_request_2 rfl (show zG P G _ _ 3 _ _ from ?_)
  refine z_callVi ok [.int i1, .int i2] (m_X10_requestError _ ok.p h_a0) cv_X10_150 h_a0 rfl (by decide) rfl (Nat.le_of_ble_eq_true rfl) rfl dX10_request_3 (fun r3 m3 => (show zG P G _ _ 6 _ _ from ?_))
  refine z_istore_n0 ok [(3, .int r3), (0, .ref a0), (1, .int i1), (2, .int i2)] dX10_request_6 (by decide) rfl (show zG P G _ _ 7 _ _ from ?_)
  refine z_iload_n ok 0 dX10_request_7 rfl (show zG P G _ _ 8 _ _ from ?_)
  refine z_if_eq ok 15 dX10_request_8 (by decide) ?_ (show zG P G _ _ 11 _ _ from ?_)
  · refine z_aload_n ok 1 dX10_request_15 rfl (show zG P G _ _ 16 _ _ from ?_)
    refine z_getR ok fd_180 h_a0 (Or.inl rfl) tf_X10_10 dX10_request_16 (fun b16 h_b16 => (show zG P G _ _ 19 _ _ from ?_))
    refine z_aload_n ok 1 dX10_request_19 rfl (show zG P G _ _ 20 _ _ from ?_)
    refine z_getR ok fd_185 h_a0 (Or.inl rfl) tf_X10_35 dX10_request_20 (fun b20 h_b20 => (show zG P G _ _ 23 _ _ from ?_))
    refine z_iload_n ok 2 dX10_request_23 rfl (show zG P G _ _ 24 _ _ from ?_)
    refine z_callVi ok [.ref b20, .int i1] (m_X1_findRule _ ok.p h_b16 h_b20) cv_X10_154 h_b16 rfl (by decide) rfl (Nat.le_of_ble_eq_true rfl) rfl dX10_request_24 (fun r24 m24 => (show zG P G _ _ 27 _ _ from ?_))
    exact z_sub [1, 2, 3, 0] [(0, .ref a0), (1, .int i1), (2, .int i2), (3, .int r3)] rfl (t_X10_request_b27 ok h_a0)
  · refine z_iconst ok (-1 : Int32) dX10_request_11 (by decide) (show zG P G _ _ 12 _ _ from ?_)
    refine z_goto ok 27 dX10_request_12 (by decide) ?_
    exact z_sub [1, 2, 3, 0] [(0, .ref a0), (1, .int i1), (2, .int i2), (3, .int r3)] rfl (t_X10_request_b27 ok h_a0)
set_option maxRecDepth 100000 in
set_option maxHeartbeats 4000000 in
theorem m_X10_foresee (l : Launch) {P : zSt} (hP : zOKP P) {a0 : Nat} {i1 : Int32} {i2 : Int32} (h_a0 : zT P 9 a0) : zMet l P yX10_foresee cX10_foresee 4 6 141 (some .int) [.ref a0, .int i1, .int i2] (fun m => f_X10_foresee P a0 i1 i2 m) := by
  refine zMet.of hP (by decide +kernel) RX10 rfl [(0, .ref a0), (1, .int i1), (2, .int i2)] (fun h => h) (Nat.le_of_ble_eq_true rfl) (fun G m ok => ?_)
  show zG P G (f_X10_foresee P a0 i1 i2 m) m 0 _ []
  unfold f_X10_foresee
  refine z_aload_n ok 0 dX10_foresee_0 rfl (show zG P G _ _ 1 _ _ from ?_)
  refine z_iload_n ok 1 dX10_foresee_1 rfl (show zG P G _ _ 2 _ _ from ?_)
  refine z_iload_n ok 2 dX10_foresee_2 rfl (show zG P G _ _ 3 _ _ from ?_)
  refine z_callVi ok [.int i1, .int i2] (m_X10_requestError _ ok.p h_a0) cv_X10_150 h_a0 rfl (by decide) rfl (Nat.le_of_ble_eq_true rfl) rfl dX10_foresee_3 (fun r3 m3 => (show zG P G _ _ 6 _ _ from ?_))
  refine z_istore_n0 ok [(3, .int r3), (0, .ref a0), (1, .int i1), (2, .int i2)] dX10_foresee_6 (by decide) rfl (show zG P G _ _ 7 _ _ from ?_)
  refine z_iload_n ok 0 dX10_foresee_7 rfl (show zG P G _ _ 8 _ _ from ?_)
  refine z_if_eq ok 13 dX10_foresee_8 (by decide) ?_ (show zG P G _ _ 11 _ _ from ?_)
  · refine z_aload_n ok 1 dX10_foresee_13 rfl (show zG P G _ _ 14 _ _ from ?_)
    refine z_getR ok fd_183 h_a0 (Or.inl rfl) tf_X10_22 dX10_foresee_14 (fun b14 h_b14 => (show zG P G _ _ 17 _ _ from ?_))
    refine z_aload_n ok 1 dX10_foresee_17 rfl (show zG P G _ _ 18 _ _ from ?_)
    refine z_getR ok fd_180 h_a0 (Or.inl rfl) tf_X10_10 dX10_foresee_18 (fun b18 h_b18 => (show zG P G _ _ 21 _ _ from ?_))
    refine z_callVv ok [.ref b18] (m_X1_copyFrom _ ok.p h_b14 h_b18) cv_X10_165 h_b14 rfl (by decide) rfl (Nat.le_of_ble_eq_true rfl) rfl dX10_foresee_21 (fun _ m21 => (show zG P G _ _ 24 _ _ from ?_))
    refine z_aload_n ok 1 dX10_foresee_24 rfl (show zG P G _ _ 25 _ _ from ?_)
    refine z_getR ok fd_183 h_a0 (Or.inl rfl) tf_X10_22 dX10_foresee_25 (fun b25 h_b25 => (show zG P G _ _ 28 _ _ from ?_))
    refine z_aload_n ok 1 dX10_foresee_28 rfl (show zG P G _ _ 29 _ _ from ?_)
    refine z_getR ok fd_180 h_a0 (Or.inl rfl) tf_X10_10 dX10_foresee_29 (fun b29 h_b29 => (show zG P G _ _ 32 _ _ from ?_))
    refine z_aload_n ok 1 dX10_foresee_32 rfl (show zG P G _ _ 33 _ _ from ?_)
    refine z_getR ok fd_185 h_a0 (Or.inl rfl) tf_X10_35 dX10_foresee_33 (fun b33 h_b33 => (show zG P G _ _ 36 _ _ from ?_))
    refine z_iload_n ok 2 dX10_foresee_36 rfl (show zG P G _ _ 37 _ _ from ?_)
    refine z_callVi ok [.ref b33, .int i1] (m_X1_findRule _ ok.p h_b29 h_b33) cv_X10_154 h_b29 rfl (by decide) rfl (Nat.le_of_ble_eq_true rfl) rfl dX10_foresee_37 (fun r37 m37 => (show zG P G _ _ 40 _ _ from ?_))
    refine z_iload_n ok 2 dX10_foresee_40 rfl (show zG P G _ _ 41 _ _ from ?_)
    refine z_iload_n ok 3 dX10_foresee_41 rfl (show zG P G _ _ 42 _ _ from ?_)
    refine z_callVi ok [.int r37, .int i1, .int i2] (m_X1_answer _ ok.p h_b25) cv_X10_158 h_b25 rfl (by decide) rfl (Nat.le_of_ble_eq_true rfl) rfl dX10_foresee_42 (fun r42 m42 => (show zG P G _ _ 45 _ _ from ?_))
    exact z_iret ok dX10_foresee_45
  · refine z_iload_n ok 0 dX10_foresee_11 rfl (show zG P G _ _ 12 _ _ from ?_)
    exact z_iret ok dX10_foresee_12
set_option maxRecDepth 100000 in
set_option maxHeartbeats 4000000 in
theorem t_X10_tick_b15 {P : zSt} {G : zC} (ok : zOK P G RX10 cX10_tick 3 3 63 (some .int))  : ∀ (n : Nat) (a0 : Nat) (x1 : Int32) (x2 : Int32) (m : zM) (h_a0 : zT P 9 a0), zG P G (f_X10_tick_b15 P n a0 x1 x2 m) m 15 [(0, .ref a0), (1, .int x1), (2, .int x2)] [] := by
  intro n
  induction n with
  | zero =>
    intros
    exact zG_none
  | succ n ih =>
    intro a0 x1 x2 m h_a0
    unfold f_X10_tick_b15
    have hr_15 := ih
    refine z_iload_n ok 2 dX10_tick_15 rfl (show zG P G _ _ 16 _ _ from ?_)
    refine z_iload_n ok 1 dX10_tick_16 rfl (show zG P G _ _ 17 _ _ from ?_)
    refine z_icmp_ge ok 33 dX10_tick_17 (by decide) ?_ (show zG P G _ _ 20 _ _ from ?_)
    · refine z_aload_n ok 0 dX10_tick_33 rfl (show zG P G _ _ 34 _ _ from ?_)
      refine z_getR ok fd_184 h_a0 (Or.inl rfl) tf_X10_28 dX10_tick_34 (fun b34 h_b34 => (show zG P G _ _ 37 _ _ from ?_))
      refine z_iload_n ok 1 dX10_tick_37 rfl (show zG P G _ _ 38 _ _ from ?_)
      refine z_callVv ok [.int x1] (m_X2_addTicks _ ok.p h_b34) cv_X10_172 h_b34 rfl (by decide) rfl (Nat.le_of_ble_eq_true rfl) rfl dX10_tick_38 (fun _ m38 => (show zG P G _ _ 41 _ _ from ?_))
      refine z_aload_n ok 0 dX10_tick_41 rfl (show zG P G _ _ 42 _ _ from ?_)
      refine z_getR ok fd_180 h_a0 (Or.inl rfl) tf_X10_10 dX10_tick_42 (fun b42 h_b42 => (show zG P G _ _ 45 _ _ from ?_))
      refine z_getn ok fd_26 h_b42 (Or.inl rfl) tf_X10_175 dX10_tick_45 (show zG P G _ _ 48 _ _ from ?_)
      exact z_iret ok dX10_tick_48
    · refine z_aload_n ok 0 dX10_tick_20 rfl (show zG P G _ _ 21 _ _ from ?_)
      refine z_getR ok fd_180 h_a0 (Or.inl rfl) tf_X10_10 dX10_tick_21 (fun b21 h_b21 => (show zG P G _ _ 24 _ _ from ?_))
      refine z_callVv ok [] (m_X1_passTick _ ok.p h_b21) cv_X10_169 h_b21 rfl (by decide) rfl (Nat.le_of_ble_eq_true rfl) rfl dX10_tick_24 (fun _ m24 => (show zG P G _ _ 27 _ _ from ?_))
      refine z_iinc ok (fun v27 => [(2, .int v27), (0, .ref a0), (1, .int x1)]) 2 dX10_tick_27 rfl (by decide) (by decide) (fun _ => rfl) (fun v27 => (show zG P G _ _ 30 _ _ from ?_))
      refine z_goto ok 15 dX10_tick_30 (by decide) ?_
      exact z_sub [1, 2, 0] [(0, .ref a0), (1, .int x1), (2, .int v27)] rfl (hr_15 _ _ _ _ h_a0)
set_option maxRecDepth 100000 in
set_option maxHeartbeats 4000000 in
theorem m_X10_tick (l : Launch) {P : zSt} (hP : zOKP P) {a0 : Nat} {i1 : Int32} (h_a0 : zT P 9 a0) : zMet l P yX10_tick cX10_tick 3 3 63 (some .int) [.ref a0, .int i1] (fun m => f_X10_tick P a0 i1 m) := by
  refine zMet.of hP (by decide +kernel) RX10 rfl [(0, .ref a0), (1, .int i1)] (fun h => h) (Nat.le_of_ble_eq_true rfl) (fun G m ok => ?_)
  show zG P G (f_X10_tick P a0 i1 m) m 0 _ []
  unfold f_X10_tick
  refine z_iload_n ok 1 dX10_tick_0 rfl (show zG P G _ _ 1 _ _ from ?_)
  refine z_iconst ok (1 : Int32) dX10_tick_1 (by decide) (show zG P G _ _ 2 _ _ from ?_)
  refine z_bipush ok (50 : Int32) dX10_tick_2 (by decide) (show zG P G _ _ 4 _ _ from ?_)
  refine z_callSi ok [.int i1, .int (1 : Int32), .int (50 : Int32)] (m_X10_isWithin _ ok.p) cv_X10_58 rfl (by decide) rfl (Nat.le_of_ble_eq_true rfl) rfl dX10_tick_4 (fun r4 m4 => (show zG P G _ _ 7 _ _ from ?_))
  refine z_if_ne ok 13 dX10_tick_7 (by decide) ?_ (show zG P G _ _ 10 _ _ from ?_)
  · refine z_iconst ok (0 : Int32) dX10_tick_13 (by decide) (show zG P G _ _ 14 _ _ from ?_)
    refine z_istore_n0 ok [(2, .int (0 : Int32)), (0, .ref a0), (1, .int i1)] dX10_tick_14 (by decide) rfl (show zG P G _ _ 15 _ _ from ?_)
    exact z_sub [1, 2, 0] [(0, .ref a0), (1, .int i1), (2, .int (0 : Int32))] rfl (t_X10_tick_b15 ok zfuel _ _ _ _ h_a0)
  · refine z_bipush ok (-2 : Int32) dX10_tick_10 (by decide) (show zG P G _ _ 12 _ _ from ?_)
    exact z_iret ok dX10_tick_12
set_option maxRecDepth 100000 in
set_option maxHeartbeats 4000000 in
theorem m_X10_backend (l : Launch) {P : zSt} (hP : zOKP P) {a0 : Nat} {i1 : Int32} {i2 : Int32} (h_a0 : zT P 9 a0) : zMet l P yX10_backend cX10_backend 3 2 43 (some .int) [.ref a0, .int i1, .int i2] (fun m => f_X10_backend P a0 i1 i2 m) := by
  refine zMet.of hP (by decide +kernel) RX10 rfl [(0, .ref a0), (1, .int i1), (2, .int i2)] (fun h => h) (Nat.le_of_ble_eq_true rfl) (fun G m ok => ?_)
  show zG P G (f_X10_backend P a0 i1 i2 m) m 0 _ []
  unfold f_X10_backend
  refine z_aload_n ok 0 dX10_backend_0 rfl (show zG P G _ _ 1 _ _ from ?_)
  refine z_getR ok fd_180 h_a0 (Or.inl rfl) tf_X10_10 dX10_backend_1 (fun b1 h_b1 => (show zG P G _ _ 4 _ _ from ?_))
  refine z_iload_n ok 1 dX10_backend_4 rfl (show zG P G _ _ 5 _ _ from ?_)
  refine z_callVi ok [.int i1] (m_X1_hasBackend _ ok.p h_b1) cv_X10_73 h_b1 rfl (by decide) rfl (Nat.le_of_ble_eq_true rfl) rfl dX10_backend_5 (fun r5 m5 => (show zG P G _ _ 8 _ _ from ?_))
  refine z_if_eq ok 27 dX10_backend_8 (by decide) ?_ (show zG P G _ _ 11 _ _ from ?_)
  · refine z_iconst ok (-1 : Int32) dX10_backend_27 (by decide) (show zG P G _ _ 28 _ _ from ?_)
    exact z_iret ok dX10_backend_28
  · refine z_aload_n ok 0 dX10_backend_11 rfl (show zG P G _ _ 12 _ _ from ?_)
    refine z_getR ok fd_180 h_a0 (Or.inl rfl) tf_X10_10 dX10_backend_12 (fun b12 h_b12 => (show zG P G _ _ 15 _ _ from ?_))
    refine z_getRn ok fd_20 h_b12 (Or.inl rfl) tf_X10_76 dX10_backend_15 (fun b15 h_b15 => (show zG P G _ _ 18 _ _ from ?_))
    refine z_iload_n ok 1 dX10_backend_18 rfl (show zG P G _ _ 19 _ _ from ?_)
    refine z_aald ok ek_13 h_b15 dX10_backend_19 (fun b19 h_b19 => (show zG P G _ _ 20 _ _ from ?_))
    refine z_iload_n ok 2 dX10_backend_20 rfl (show zG P G _ _ 21 _ _ from ?_)
    refine z_callVi ok [.int i2] (m_X0_property _ ok.p h_b19) cv_X10_178 h_b19 rfl (by decide) rfl (Nat.le_of_ble_eq_true rfl) rfl dX10_backend_21 (fun r21 m21 => (show zG P G _ _ 24 _ _ from ?_))
    refine z_goto ok 28 dX10_backend_24 (by decide) ?_
    exact z_iret ok dX10_backend_28
set_option maxRecDepth 100000 in
set_option maxHeartbeats 4000000 in
theorem m_X10_service (l : Launch) {P : zSt} (hP : zOKP P) {a0 : Nat} {i1 : Int32} {i2 : Int32} (h_a0 : zT P 9 a0) : zMet l P yX10_service cX10_service 3 2 48 (some .int) [.ref a0, .int i1, .int i2] (fun m => f_X10_service P a0 i1 i2 m) := by
  refine zMet.of hP (by decide +kernel) RX10 rfl [(0, .ref a0), (1, .int i1), (2, .int i2)] (fun h => h) (Nat.le_of_ble_eq_true rfl) (fun G m ok => ?_)
  show zG P G (f_X10_service P a0 i1 i2 m) m 0 _ []
  unfold f_X10_service
  refine z_iload_n ok 1 dX10_service_0 rfl (show zG P G _ _ 1 _ _ from ?_)
  refine z_callSi ok [.int i1] (m_X10_isService _ ok.p) cv_X10_51 rfl (by decide) rfl (Nat.le_of_ble_eq_true rfl) rfl dX10_service_1 (fun r1 m1 => (show zG P G _ _ 4 _ _ from ?_))
  refine z_if_eq ok 19 dX10_service_4 (by decide) ?_ (show zG P G _ _ 7 _ _ from ?_)
  · refine z_bipush ok (-2 : Int32) dX10_service_19 (by decide) (show zG P G _ _ 21 _ _ from ?_)
    exact z_iret ok dX10_service_21
  · refine z_aload_n ok 0 dX10_service_7 rfl (show zG P G _ _ 8 _ _ from ?_)
    refine z_getR ok fd_180 h_a0 (Or.inl rfl) tf_X10_10 dX10_service_8 (fun b8 h_b8 => (show zG P G _ _ 11 _ _ from ?_))
    refine z_iload_n ok 1 dX10_service_11 rfl (show zG P G _ _ 12 _ _ from ?_)
    refine z_iload_n ok 2 dX10_service_12 rfl (show zG P G _ _ 13 _ _ from ?_)
    refine z_callVi ok [.int i1, .int i2] (m_X1_serviceProperty _ ok.p h_b8) cv_X10_181 h_b8 rfl (by decide) rfl (Nat.le_of_ble_eq_true rfl) rfl dX10_service_13 (fun r13 m13 => (show zG P G _ _ 16 _ _ from ?_))
    refine z_goto ok 21 dX10_service_16 (by decide) ?_
    exact z_iret ok dX10_service_21
set_option maxRecDepth 100000 in
set_option maxHeartbeats 4000000 in
theorem t_X10_remembered_b14 {P : zSt} {G : zC} (ok : zOK P G RX10 cX10_remembered 3 2 42 (some .int))   {m : zM}  : zG P G (f_X10_remembered_b14 P  m) m 14 [] [] := by
  unfold f_X10_remembered_b14
  refine z_bipush ok (-2 : Int32) dX10_remembered_14 (by decide) (show zG P G _ _ 16 _ _ from ?_)
  exact z_iret ok dX10_remembered_16
set_option maxRecDepth 100000 in
set_option maxHeartbeats 4000000 in
theorem m_X10_remembered (l : Launch) {P : zSt} (hP : zOKP P) {a0 : Nat} {i1 : Int32} {i2 : Int32} (h_a0 : zT P 9 a0) : zMet l P yX10_remembered cX10_remembered 3 2 42 (some .int) [.ref a0, .int i1, .int i2] (fun m => f_X10_remembered P a0 i1 i2 m) := by
  refine zMet.of hP (by decide +kernel) RX10 rfl [(0, .ref a0), (1, .int i1), (2, .int i2)] (fun h => h) (Nat.le_of_ble_eq_true rfl) (fun G m ok => ?_)
  show zG P G (f_X10_remembered P a0 i1 i2 m) m 0 _ []
  unfold f_X10_remembered
  refine z_iload_n ok 1 dX10_remembered_0 rfl (show zG P G _ _ 1 _ _ from ?_)
  refine z_callSi ok [.int i1] (m_X10_isService _ ok.p) cv_X10_51 rfl (by decide) rfl (Nat.le_of_ble_eq_true rfl) rfl dX10_remembered_1 (fun r1 m1 => (show zG P G _ _ 4 _ _ from ?_))
  refine z_if_eq ok 14 dX10_remembered_4 (by decide) ?_ (show zG P G _ _ 7 _ _ from ?_)
  · exact z_sub [] [] rfl (t_X10_remembered_b14 ok)
  · refine z_iload_n ok 2 dX10_remembered_7 rfl (show zG P G _ _ 8 _ _ from ?_)
    refine z_callSi ok [.int i2] (m_X10_isHeader _ ok.p) cv_X10_184 rfl (by decide) rfl (Nat.le_of_ble_eq_true rfl) rfl dX10_remembered_8 (fun r8 m8 => (show zG P G _ _ 11 _ _ from ?_))
    refine z_if_ne ok 17 dX10_remembered_11 (by decide) ?_ (show zG P G _ _ 14 _ _ from ?_)
    · refine z_aload_n ok 0 dX10_remembered_17 rfl (show zG P G _ _ 18 _ _ from ?_)
      refine z_getR ok fd_180 h_a0 (Or.inl rfl) tf_X10_10 dX10_remembered_18 (fun b18 h_b18 => (show zG P G _ _ 21 _ _ from ?_))
      refine z_getRn ok fd_22 h_b18 (Or.inl rfl) tf_X10_88 dX10_remembered_21 (fun b21 h_b21 => (show zG P G _ _ 24 _ _ from ?_))
      refine z_iload_n ok 1 dX10_remembered_24 rfl (show zG P G _ _ 25 _ _ from ?_)
      refine z_aald ok ek_15 h_b21 dX10_remembered_25 (fun b25 h_b25 => (show zG P G _ _ 26 _ _ from ?_))
      refine z_getRn ok fd_109 h_b25 (Or.inl rfl) tf_X10_187 dX10_remembered_26 (fun b26 h_b26 => (show zG P G _ _ 29 _ _ from ?_))
      refine z_iload_n ok 2 dX10_remembered_29 rfl (show zG P G _ _ 30 _ _ from ?_)
      refine z_iald ok h_b26 dX10_remembered_30 (show zG P G _ _ 31 _ _ from ?_)
      exact z_iret ok dX10_remembered_31
    · exact z_sub [] [] rfl (t_X10_remembered_b14 ok)
set_option maxRecDepth 100000 in
set_option maxHeartbeats 4000000 in
theorem t_X10_target_b33 {P : zSt} {G : zC} (ok : zOK P G RX10 cX10_target 4 2 43 (some .int))   {m : zM}  : zG P G (f_X10_target_b33 P  m) m 33 [] [] := by
  unfold f_X10_target_b33
  refine z_iconst ok (-1 : Int32) dX10_target_33 (by decide) (show zG P G _ _ 34 _ _ from ?_)
  exact z_iret ok dX10_target_34
set_option maxRecDepth 100000 in
set_option maxHeartbeats 4000000 in
theorem m_X10_target (l : Launch) {P : zSt} (hP : zOKP P) {a0 : Nat} {i1 : Int32} {i2 : Int32} {i3 : Int32} (h_a0 : zT P 9 a0) : zMet l P yX10_target cX10_target 4 2 43 (some .int) [.ref a0, .int i1, .int i2, .int i3] (fun m => f_X10_target P a0 i1 i2 i3 m) := by
  refine zMet.of hP (by decide +kernel) RX10 rfl [(0, .ref a0), (1, .int i1), (2, .int i2), (3, .int i3)] (fun h => h) (Nat.le_of_ble_eq_true rfl) (fun G m ok => ?_)
  show zG P G (f_X10_target P a0 i1 i2 i3 m) m 0 _ []
  unfold f_X10_target
  refine z_aload_n ok 0 dX10_target_0 rfl (show zG P G _ _ 1 _ _ from ?_)
  refine z_getR ok fd_180 h_a0 (Or.inl rfl) tf_X10_10 dX10_target_1 (fun b1 h_b1 => (show zG P G _ _ 4 _ _ from ?_))
  refine z_iload_n ok 1 dX10_target_4 rfl (show zG P G _ _ 5 _ _ from ?_)
  refine z_callVi ok [.int i1] (m_X1_hasRule _ ok.p h_b1) cv_X10_137 h_b1 rfl (by decide) rfl (Nat.le_of_ble_eq_true rfl) rfl dX10_target_5 (fun r5 m5 => (show zG P G _ _ 8 _ _ from ?_))
  refine z_if_eq ok 33 dX10_target_8 (by decide) ?_ (show zG P G _ _ 11 _ _ from ?_)
  · exact z_sub [] [] rfl (t_X10_target_b33 ok)
  · refine z_iload_n ok 2 dX10_target_11 rfl (show zG P G _ _ 12 _ _ from ?_)
    refine z_iconst ok (0 : Int32) dX10_target_12 (by decide) (show zG P G _ _ 13 _ _ from ?_)
    refine z_aload_n ok 0 dX10_target_13 rfl (show zG P G _ _ 14 _ _ from ?_)
    refine z_getR ok fd_180 h_a0 (Or.inl rfl) tf_X10_10 dX10_target_14 (fun b14 h_b14 => (show zG P G _ _ 17 _ _ from ?_))
    refine z_getRn ok fd_23 h_b14 (Or.inl rfl) tf_X10_191 dX10_target_17 (fun b17 h_b17 => (show zG P G _ _ 20 _ _ from ?_))
    refine z_iload_n ok 1 dX10_target_20 rfl (show zG P G _ _ 21 _ _ from ?_)
    refine z_aald ok ek_14 h_b17 dX10_target_21 (fun b21 h_b21 => (show zG P G _ _ 22 _ _ from ?_))
    refine z_getn ok fd_64 h_b21 (Or.inl rfl) tf_X10_195 dX10_target_22 (show zG P G _ _ 25 _ _ from ?_)
    refine z_iconst ok (1 : Int32) dX10_target_25 (by decide) (show zG P G _ _ 26 _ _ from ?_)
    refine z_isub ok dX10_target_26 (show zG P G _ _ 27 _ _ from ?_)
    refine z_callSi ok [.int i2, .int (0 : Int32), .int ((zf m5 64 b21) - (1 : Int32))] (m_X10_isWithin _ ok.p) cv_X10_58 rfl (by decide) rfl (Nat.le_of_ble_eq_true rfl) rfl dX10_target_27 (fun r27 m27 => (show zG P G _ _ 30 _ _ from ?_))
    refine z_if_ne ok 35 dX10_target_30 (by decide) ?_ (show zG P G _ _ 33 _ _ from ?_)
    · refine z_aload_n ok 0 dX10_target_35 rfl (show zG P G _ _ 36 _ _ from ?_)
      refine z_getR ok fd_180 h_a0 (Or.inl rfl) tf_X10_10 dX10_target_36 (fun b36 h_b36 => (show zG P G _ _ 39 _ _ from ?_))
      refine z_getRn ok fd_23 h_b36 (Or.inl rfl) tf_X10_191 dX10_target_39 (fun b39 h_b39 => (show zG P G _ _ 42 _ _ from ?_))
      refine z_iload_n ok 1 dX10_target_42 rfl (show zG P G _ _ 43 _ _ from ?_)
      refine z_aald ok ek_14 h_b39 dX10_target_43 (fun b43 h_b43 => (show zG P G _ _ 44 _ _ from ?_))
      refine z_getRn ok fd_63 h_b43 (Or.inl rfl) tf_X10_200 dX10_target_44 (fun b44 h_b44 => (show zG P G _ _ 47 _ _ from ?_))
      refine z_iload_n ok 2 dX10_target_47 rfl (show zG P G _ _ 48 _ _ from ?_)
      refine z_aald ok ek_16 h_b44 dX10_target_48 (fun b48 h_b48 => (show zG P G _ _ 49 _ _ from ?_))
      refine z_iload_n ok 3 dX10_target_49 rfl (show zG P G _ _ 50 _ _ from ?_)
      refine z_callVi ok [.int i3] (m_X6_property _ ok.p h_b48) cv_X10_204 h_b48 rfl (by decide) rfl (Nat.le_of_ble_eq_true rfl) rfl dX10_target_50 (fun r50 m50 => (show zG P G _ _ 53 _ _ from ?_))
      exact z_iret ok dX10_target_53
    · exact z_sub [] [] rfl (t_X10_target_b33 ok)
set_option maxRecDepth 100000 in
set_option maxHeartbeats 4000000 in
theorem m_X10_trace (l : Launch) {P : zSt} (hP : zOKP P) {a0 : Nat} {i1 : Int32} {i2 : Int32} (h_a0 : zT P 9 a0) : zMet l P yX10_trace cX10_trace 3 1 22 (some .int) [.ref a0, .int i1, .int i2] (fun m => f_X10_trace P a0 i1 i2 m) := by
  refine zMet.of hP (by decide +kernel) RX10 rfl [(0, .ref a0), (1, .int i1), (2, .int i2)] (fun h => h) (Nat.le_of_ble_eq_true rfl) (fun G m ok => ?_)
  show zG P G (f_X10_trace P a0 i1 i2 m) m 0 _ []
  unfold f_X10_trace
  refine z_iload_n ok 1 dX10_trace_0 rfl (show zG P G _ _ 1 _ _ from ?_)
  refine z_iconst ok (0 : Int32) dX10_trace_1 (by decide) (show zG P G _ _ 2 _ _ from ?_)
  refine z_aload_n ok 0 dX10_trace_2 rfl (show zG P G _ _ 3 _ _ from ?_)
  refine z_getR ok fd_180 h_a0 (Or.inl rfl) tf_X10_10 dX10_trace_3 (fun b3 h_b3 => (show zG P G _ _ 6 _ _ from ?_))
  refine z_getRn ok fd_35 h_b3 (Or.inl rfl) tf_X10_207 dX10_trace_6 (fun b6 h_b6 => (show zG P G _ _ 9 _ _ from ?_))
  refine z_getn ok fd_161 h_b6 (Or.inl rfl) tf_X10_211 dX10_trace_9 (show zG P G _ _ 12 _ _ from ?_)
  refine z_iconst ok (1 : Int32) dX10_trace_12 (by decide) (show zG P G _ _ 13 _ _ from ?_)
  refine z_isub ok dX10_trace_13 (show zG P G _ _ 14 _ _ from ?_)
  refine z_callSi ok [.int i1, .int (0 : Int32), .int ((zf m 161 b6) - (1 : Int32))] (m_X10_isWithin _ ok.p) cv_X10_58 rfl (by decide) rfl (Nat.le_of_ble_eq_true rfl) rfl dX10_trace_14 (fun r14 m14 => (show zG P G _ _ 17 _ _ from ?_))
  refine z_if_ne ok 22 dX10_trace_17 (by decide) ?_ (show zG P G _ _ 20 _ _ from ?_)
  · refine z_iload_n ok 2 dX10_trace_22 rfl (show zG P G _ _ 23 _ _ from ?_)
    refine z_iconst ok (0 : Int32) dX10_trace_23 (by decide) (show zG P G _ _ 24 _ _ from ?_)
    refine z_iconst ok (3 : Int32) dX10_trace_24 (by decide) (show zG P G _ _ 25 _ _ from ?_)
    refine z_callSi ok [.int i2, .int (0 : Int32), .int (3 : Int32)] (m_X10_isWithin _ ok.p) cv_X10_58 rfl (by decide) rfl (Nat.le_of_ble_eq_true rfl) rfl dX10_trace_25 (fun r25 m25 => (show zG P G _ _ 28 _ _ from ?_))
    refine z_if_eq ok 48 dX10_trace_28 (by decide) ?_ (show zG P G _ _ 31 _ _ from ?_)
    · refine z_bipush ok (-2 : Int32) dX10_trace_48 (by decide) (show zG P G _ _ 50 _ _ from ?_)
      exact z_iret ok dX10_trace_50
    · refine z_aload_n ok 0 dX10_trace_31 rfl (show zG P G _ _ 32 _ _ from ?_)
      refine z_getR ok fd_180 h_a0 (Or.inl rfl) tf_X10_10 dX10_trace_32 (fun b32 h_b32 => (show zG P G _ _ 35 _ _ from ?_))
      refine z_getRn ok fd_35 h_b32 (Or.inl rfl) tf_X10_207 dX10_trace_35 (fun b35 h_b35 => (show zG P G _ _ 38 _ _ from ?_))
      refine z_getRn ok fd_160 h_b35 (Or.inl rfl) tf_X10_214 dX10_trace_38 (fun b38 h_b38 => (show zG P G _ _ 41 _ _ from ?_))
      refine z_iload_n ok 1 dX10_trace_41 rfl (show zG P G _ _ 42 _ _ from ?_)
      refine z_aald ok ek_17 h_b38 dX10_trace_42 (fun b42 h_b42 => (show zG P G _ _ 43 _ _ from ?_))
      refine z_iload_n ok 2 dX10_trace_43 rfl (show zG P G _ _ 44 _ _ from ?_)
      refine z_iald ok h_b42 dX10_trace_44 (show zG P G _ _ 45 _ _ from ?_)
      refine z_goto ok 50 dX10_trace_45 (by decide) ?_
      exact z_iret ok dX10_trace_50
  · refine z_iconst ok (-1 : Int32) dX10_trace_20 (by decide) (show zG P G _ _ 21 _ _ from ?_)
    exact z_iret ok dX10_trace_21
set_option maxRecDepth 100000 in
set_option maxHeartbeats 4000000 in
theorem m_X10_count (l : Launch) {P : zSt} (hP : zOKP P) {a0 : Nat} {i1 : Int32} (h_a0 : zT P 9 a0) : zMet l P yX10_count cX10_count 2 1 21 (some .int) [.ref a0, .int i1] (fun m => f_X10_count P a0 i1 m) := by
  refine zMet.of hP (by decide +kernel) RX10 rfl [(0, .ref a0), (1, .int i1)] (fun h => h) (Nat.le_of_ble_eq_true rfl) (fun G m ok => ?_)
  show zG P G (f_X10_count P a0 i1 m) m 0 _ []
  unfold f_X10_count
  refine z_iload_n ok 1 dX10_count_0 rfl (show zG P G _ _ 1 _ _ from ?_)
  refine z_tsw ok 55 [28, 36, 47] dX10_count_1 (by decide) (by decide) (by decide) ⟨?_, ?_, ?_, trivial⟩ ?_
  · refine z_aload_n ok 0 dX10_count_28 rfl (show zG P G _ _ 29 _ _ from ?_)
    refine z_getR ok fd_184 h_a0 (Or.inl rfl) tf_X10_28 dX10_count_29 (fun b29 h_b29 => (show zG P G _ _ 32 _ _ from ?_))
    refine z_getn ok fd_45 h_b29 (Or.inl rfl) tf_X10_218 dX10_count_32 (show zG P G _ _ 35 _ _ from ?_)
    exact z_iret ok dX10_count_35
  · refine z_aload_n ok 0 dX10_count_36 rfl (show zG P G _ _ 37 _ _ from ?_)
    refine z_getR ok fd_180 h_a0 (Or.inl rfl) tf_X10_10 dX10_count_37 (fun b37 h_b37 => (show zG P G _ _ 40 _ _ from ?_))
    refine z_getRn ok fd_35 h_b37 (Or.inl rfl) tf_X10_207 dX10_count_40 (fun b40 h_b40 => (show zG P G _ _ 43 _ _ from ?_))
    refine z_getn ok fd_161 h_b40 (Or.inl rfl) tf_X10_211 dX10_count_43 (show zG P G _ _ 46 _ _ from ?_)
    exact z_iret ok dX10_count_46
  · refine z_aload_n ok 0 dX10_count_47 rfl (show zG P G _ _ 48 _ _ from ?_)
    refine z_getR ok fd_185 h_a0 (Or.inl rfl) tf_X10_35 dX10_count_48 (fun b48 h_b48 => (show zG P G _ _ 51 _ _ from ?_))
    refine z_getn ok fd_141 h_b48 (Or.inl rfl) tf_X10_112 dX10_count_51 (show zG P G _ _ 54 _ _ from ?_)
    exact z_iret ok dX10_count_54
  · refine z_aload_n ok 0 dX10_count_55 rfl (show zG P G _ _ 56 _ _ from ?_)
    refine z_getR ok fd_180 h_a0 (Or.inl rfl) tf_X10_10 dX10_count_56 (fun b56 h_b56 => (show zG P G _ _ 59 _ _ from ?_))
    refine z_iload_n ok 1 dX10_count_59 rfl (show zG P G _ _ 60 _ _ from ?_)
    refine z_callVi ok [.int i1] (m_X1_property _ ok.p h_b56) cv_X10_219 h_b56 rfl (by decide) rfl (Nat.le_of_ble_eq_true rfl) rfl dX10_count_60 (fun r60 m60 => (show zG P G _ _ 63 _ _ from ?_))
    exact z_iret ok dX10_count_63
set_option maxRecDepth 100000 in
set_option maxHeartbeats 4000000 in
theorem m_X10_print (l : Launch) {P : zSt} (hP : zOKP P) {a0 : Nat} {i1 : Int32} (h_a0 : zT P 9 a0) : zMet l P yX10_print cX10_print 2 3 65 (some .int) [.ref a0, .int i1] (fun m => f_X10_print P a0 i1 m) := by
  refine zMet.of hP (by decide +kernel) RX10 rfl [(0, .ref a0), (1, .int i1)] (fun h => h) (Nat.le_of_ble_eq_true rfl) (fun G m ok => ?_)
  show zG P G (f_X10_print P a0 i1 m) m 0 _ []
  unfold f_X10_print
  refine z_aload_n ok 0 dX10_print_0 rfl (show zG P G _ _ 1 _ _ from ?_)
  refine z_getR ok fd_180 h_a0 (Or.inl rfl) tf_X10_10 dX10_print_1 (fun b1 h_b1 => (show zG P G _ _ 4 _ _ from ?_))
  refine z_iload_n ok 1 dX10_print_4 rfl (show zG P G _ _ 5 _ _ from ?_)
  refine z_callVi ok [.int i1] (m_X1_hasRule _ ok.p h_b1) cv_X10_137 h_b1 rfl (by decide) rfl (Nat.le_of_ble_eq_true rfl) rfl dX10_print_5 (fun r5 m5 => (show zG P G _ _ 8 _ _ from ?_))
  refine z_if_ne ok 13 dX10_print_8 (by decide) ?_ (show zG P G _ _ 11 _ _ from ?_)
  · refine z_aload_n ok 0 dX10_print_13 rfl (show zG P G _ _ 14 _ _ from ?_)
    refine z_getR ok fd_180 h_a0 (Or.inl rfl) tf_X10_10 dX10_print_14 (fun b14 h_b14 => (show zG P G _ _ 17 _ _ from ?_))
    refine z_getRn ok fd_23 h_b14 (Or.inl rfl) tf_X10_191 dX10_print_17 (fun b17 h_b17 => (show zG P G _ _ 20 _ _ from ?_))
    refine z_iload_n ok 1 dX10_print_20 rfl (show zG P G _ _ 21 _ _ from ?_)
    refine z_aald ok ek_14 h_b17 dX10_print_21 (fun b21 h_b21 => (show zG P G _ _ 22 _ _ from ?_))
    refine z_aload_n ok 0 dX10_print_22 rfl (show zG P G _ _ 23 _ _ from ?_)
    refine z_getR ok fd_186 h_a0 (Or.inl rfl) tf_X10_39 dX10_print_23 (fun b23 h_b23 => (show zG P G _ _ 26 _ _ from ?_))
    refine z_callVv ok [.ref b23] (m_X3_printTo _ ok.p h_b21 h_b23) cv_X10_220 h_b21 rfl (by decide) rfl (Nat.le_of_ble_eq_true rfl) rfl dX10_print_26 (fun _ m26 => (show zG P G _ _ 29 _ _ from ?_))
    refine z_aload_n ok 0 dX10_print_29 rfl (show zG P G _ _ 30 _ _ from ?_)
    refine z_getR ok fd_186 h_a0 (Or.inl rfl) tf_X10_39 dX10_print_30 (fun b30 h_b30 => (show zG P G _ _ 33 _ _ from ?_))
    refine z_getn ok fd_141 h_b30 (Or.inl rfl) tf_X10_112 dX10_print_33 (show zG P G _ _ 36 _ _ from ?_)
    exact z_iret ok dX10_print_36
  · refine z_iconst ok (-1 : Int32) dX10_print_11 (by decide) (show zG P G _ _ 12 _ _ from ?_)
    exact z_iret ok dX10_print_12
set_option maxRecDepth 100000 in
set_option maxHeartbeats 4000000 in
theorem m_X10_printed (l : Launch) {P : zSt} (hP : zOKP P) {a0 : Nat} {i1 : Int32} (h_a0 : zT P 9 a0) : zMet l P yX10_printed cX10_printed 2 2 43 (some .int) [.ref a0, .int i1] (fun m => f_X10_printed P a0 i1 m) := by
  refine zMet.of hP (by decide +kernel) RX10 rfl [(0, .ref a0), (1, .int i1)] (fun h => h) (Nat.le_of_ble_eq_true rfl) (fun G m ok => ?_)
  show zG P G (f_X10_printed P a0 i1 m) m 0 _ []
  unfold f_X10_printed
  refine z_aload_n ok 0 dX10_printed_0 rfl (show zG P G _ _ 1 _ _ from ?_)
  refine z_getR ok fd_186 h_a0 (Or.inl rfl) tf_X10_39 dX10_printed_1 (fun b1 h_b1 => (show zG P G _ _ 4 _ _ from ?_))
  refine z_iload_n ok 1 dX10_printed_4 rfl (show zG P G _ _ 5 _ _ from ?_)
  refine z_callVi ok [.int i1] (m_X7_signAt _ ok.p h_b1) cv_X10_223 h_b1 rfl (by decide) rfl (Nat.le_of_ble_eq_true rfl) rfl dX10_printed_5 (fun r5 m5 => (show zG P G _ _ 8 _ _ from ?_))
  exact z_iret ok dX10_printed_8
set_option maxRecDepth 100000 in
set_option maxHeartbeats 4000000 in
theorem m_X10_mark (l : Launch) {P : zSt} (hP : zOKP P) {a0 : Nat} (h_a0 : zT P 9 a0) : zMet l P yX10_mark cX10_mark 1 4 87 (some .int) [.ref a0] (fun m => f_X10_mark P a0 m) := by
  refine zMet.of hP (by decide +kernel) RX10 rfl [(0, .ref a0)] (fun h => h) (Nat.le_of_ble_eq_true rfl) (fun G m ok => ?_)
  show zG P G (f_X10_mark P a0 m) m 0 _ []
  unfold f_X10_mark
  refine z_aload_n ok 0 dX10_mark_0 rfl (show zG P G _ _ 1 _ _ from ?_)
  refine z_getR ok fd_181 h_a0 (Or.inl rfl) tf_X10_16 dX10_mark_1 (fun b1 h_b1 => (show zG P G _ _ 4 _ _ from ?_))
  refine z_aload_n ok 0 dX10_mark_4 rfl (show zG P G _ _ 5 _ _ from ?_)
  refine z_getR ok fd_180 h_a0 (Or.inl rfl) tf_X10_10 dX10_mark_5 (fun b5 h_b5 => (show zG P G _ _ 8 _ _ from ?_))
  refine z_callVv ok [.ref b5] (m_X1_copyFrom _ ok.p h_b1 h_b5) cv_X10_165 h_b1 rfl (by decide) rfl (Nat.le_of_ble_eq_true rfl) rfl dX10_mark_8 (fun _ m8 => (show zG P G _ _ 11 _ _ from ?_))
  refine z_aload_n ok 0 dX10_mark_11 rfl (show zG P G _ _ 12 _ _ from ?_)
  refine z_getR ok fd_184 h_a0 (Or.inl rfl) tf_X10_28 dX10_mark_12 (fun b12 h_b12 => (show zG P G _ _ 15 _ _ from ?_))
  refine z_callVv ok [] (m_X2_start _ ok.p h_b12) cv_X10_226 h_b12 rfl (by decide) rfl (Nat.le_of_ble_eq_true rfl) rfl dX10_mark_15 (fun _ m15 => (show zG P G _ _ 18 _ _ from ?_))
  refine z_aload_n ok 0 dX10_mark_18 rfl (show zG P G _ _ 19 _ _ from ?_)
  refine z_getR ok fd_180 h_a0 (Or.inl rfl) tf_X10_10 dX10_mark_19 (fun b19 h_b19 => (show zG P G _ _ 22 _ _ from ?_))
  refine z_getn ok fd_21 h_b19 (Or.inl rfl) tf_X10_62 dX10_mark_22 (show zG P G _ _ 25 _ _ from ?_)
  exact z_iret ok dX10_mark_25
set_option maxRecDepth 100000 in
set_option maxHeartbeats 4000000 in
theorem t_X10_playAgain_b99 {P : zSt} {G : zC} (ok : zOK P G RX10 cX10_playAgain 3 6 141 none) (rec_21 : Nat → Int32 → zM → Option (Int32 × zM)) (hr_21 : ∀ (a0 : Nat) (x2 : Int32) (m : zM), zT P 9 a0 → zG P G (rec_21 a0 x2 m) m 21 [(0, .ref a0), (2, .int x2)] []) {a0 : Nat} {x2 : Int32} {m : zM} (h_a0 : zT P 9 a0) : zG P G (f_X10_playAgain_b99 P rec_21 a0 x2 m) m 99 [(0, .ref a0), (2, .int x2)] [] := by
  unfold f_X10_playAgain_b99
  refine z_iinc ok (fun v99 => [(2, .int v99), (0, .ref a0)]) 1 dX10_playAgain_99 rfl (by decide) (by decide) (fun _ => rfl) (fun v99 => (show zG P G _ _ 102 _ _ from ?_))
  refine z_goto ok 21 dX10_playAgain_102 (by decide) ?_
  exact z_sub [1, 0] [(0, .ref a0), (2, .int v99)] rfl (hr_21 _ _ _ h_a0)
set_option maxRecDepth 100000 in
set_option maxHeartbeats 4000000 in
theorem t_X10_playAgain_b21 {P : zSt} {G : zC} (ok : zOK P G RX10 cX10_playAgain 3 6 141 none)  : ∀ (n : Nat) (a0 : Nat) (x2 : Int32) (m : zM) (h_a0 : zT P 9 a0), zG P G (f_X10_playAgain_b21 P n a0 x2 m) m 21 [(0, .ref a0), (2, .int x2)] [] := by
  intro n
  induction n with
  | zero =>
    intros
    exact zG_none
  | succ n ih =>
    intro a0 x2 m h_a0
    unfold f_X10_playAgain_b21
    have hr_21 := ih
    refine z_iload_n ok 1 dX10_playAgain_21 rfl (show zG P G _ _ 22 _ _ from ?_)
    refine z_aload_n ok 0 dX10_playAgain_22 rfl (show zG P G _ _ 23 _ _ from ?_)
    refine z_getR ok fd_184 h_a0 (Or.inl rfl) tf_X10_28 dX10_playAgain_23 (fun b23 h_b23 => (show zG P G _ _ 26 _ _ from ?_))
    refine z_getn ok fd_45 h_b23 (Or.inl rfl) tf_X10_218 dX10_playAgain_26 (show zG P G _ _ 29 _ _ from ?_)
    refine z_icmp_ge ok 105 dX10_playAgain_29 (by decide) ?_ (show zG P G _ _ 32 _ _ from ?_)
    · exact z_vret ok dX10_playAgain_105
    · refine z_aload_n ok 0 dX10_playAgain_32 rfl (show zG P G _ _ 33 _ _ from ?_)
      refine z_getR ok fd_184 h_a0 (Or.inl rfl) tf_X10_28 dX10_playAgain_33 (fun b33 h_b33 => (show zG P G _ _ 36 _ _ from ?_))
      refine z_getRn ok fd_40 h_b33 (Or.inl rfl) tf_X10_255 dX10_playAgain_36 (fun b36 h_b36 => (show zG P G _ _ 39 _ _ from ?_))
      refine z_iload_n ok 1 dX10_playAgain_39 rfl (show zG P G _ _ 40 _ _ from ?_)
      refine z_iald ok h_b36 dX10_playAgain_40 (show zG P G _ _ 41 _ _ from ?_)
      refine z_bipush ok (-2 : Int32) dX10_playAgain_41 (by decide) (show zG P G _ _ 43 _ _ from ?_)
      refine z_icmp_ne ok 56 dX10_playAgain_43 (by decide) ?_ (show zG P G _ _ 46 _ _ from ?_)
      · refine z_aload_n ok 0 dX10_playAgain_56 rfl (show zG P G _ _ 57 _ _ from ?_)
        refine z_getR ok fd_184 h_a0 (Or.inl rfl) tf_X10_28 dX10_playAgain_57 (fun b57 h_b57 => (show zG P G _ _ 60 _ _ from ?_))
        refine z_getRn ok fd_44 h_b57 (Or.inl rfl) tf_X10_257 dX10_playAgain_60 (fun b60 h_b60 => (show zG P G _ _ 63 _ _ from ?_))
        refine z_iload_n ok 1 dX10_playAgain_63 rfl (show zG P G _ _ 64 _ _ from ?_)
        refine z_aload_n ok 0 dX10_playAgain_64 rfl (show zG P G _ _ 65 _ _ from ?_)
        refine z_getR ok fd_183 h_a0 (Or.inl rfl) tf_X10_22 dX10_playAgain_65 (fun b65 h_b65 => (show zG P G _ _ 68 _ _ from ?_))
        refine z_aload_n ok 0 dX10_playAgain_68 rfl (show zG P G _ _ 69 _ _ from ?_)
        refine z_getR ok fd_184 h_a0 (Or.inl rfl) tf_X10_28 dX10_playAgain_69 (fun b69 h_b69 => (show zG P G _ _ 72 _ _ from ?_))
        refine z_getRn ok fd_40 h_b69 (Or.inl rfl) tf_X10_255 dX10_playAgain_72 (fun b72 h_b72 => (show zG P G _ _ 75 _ _ from ?_))
        refine z_iload_n ok 1 dX10_playAgain_75 rfl (show zG P G _ _ 76 _ _ from ?_)
        refine z_iald ok h_b72 dX10_playAgain_76 (show zG P G _ _ 77 _ _ from ?_)
        refine z_aload_n ok 0 dX10_playAgain_77 rfl (show zG P G _ _ 78 _ _ from ?_)
        refine z_getR ok fd_184 h_a0 (Or.inl rfl) tf_X10_28 dX10_playAgain_78 (fun b78 h_b78 => (show zG P G _ _ 81 _ _ from ?_))
        refine z_getRn ok fd_41 h_b78 (Or.inl rfl) tf_X10_260 dX10_playAgain_81 (fun b81 h_b81 => (show zG P G _ _ 84 _ _ from ?_))
        refine z_iload_n ok 1 dX10_playAgain_84 rfl (show zG P G _ _ 85 _ _ from ?_)
        refine z_iald ok h_b81 dX10_playAgain_85 (show zG P G _ _ 86 _ _ from ?_)
        refine z_aload_n ok 0 dX10_playAgain_86 rfl (show zG P G _ _ 87 _ _ from ?_)
        refine z_getR ok fd_184 h_a0 (Or.inl rfl) tf_X10_28 dX10_playAgain_87 (fun b87 h_b87 => (show zG P G _ _ 90 _ _ from ?_))
        refine z_getRn ok fd_42 h_b87 (Or.inl rfl) tf_X10_263 dX10_playAgain_90 (fun b90 h_b90 => (show zG P G _ _ 93 _ _ from ?_))
        refine z_iload_n ok 1 dX10_playAgain_93 rfl (show zG P G _ _ 94 _ _ from ?_)
        refine z_iald ok h_b90 dX10_playAgain_94 (show zG P G _ _ 95 _ _ from ?_)
        refine z_callVi ok [.int (za m b72 x2.toNatClampNeg), .int (za m b81 x2.toNatClampNeg), .int (za m b90 x2.toNatClampNeg)] (m_X1_answer _ ok.p h_b65) cv_X10_158 h_b65 rfl (by decide) rfl (Nat.le_of_ble_eq_true rfl) rfl dX10_playAgain_95 (fun r95 m95 => (show zG P G _ _ 98 _ _ from ?_))
        refine z_iast ok h_b60 dX10_playAgain_98 (fun m98 => (show zG P G _ _ 99 _ _ from ?_))
        exact z_sub [0, 1] [(0, .ref a0), (2, .int x2)] rfl (t_X10_playAgain_b99 ok (f_X10_playAgain_b21 P n) hr_21 h_a0)
      · refine z_aload_n ok 0 dX10_playAgain_46 rfl (show zG P G _ _ 47 _ _ from ?_)
        refine z_getR ok fd_183 h_a0 (Or.inl rfl) tf_X10_22 dX10_playAgain_47 (fun b47 h_b47 => (show zG P G _ _ 50 _ _ from ?_))
        refine z_callVv ok [] (m_X1_passTick _ ok.p h_b47) cv_X10_169 h_b47 rfl (by decide) rfl (Nat.le_of_ble_eq_true rfl) rfl dX10_playAgain_50 (fun _ m50 => (show zG P G _ _ 53 _ _ from ?_))
        refine z_goto ok 99 dX10_playAgain_53 (by decide) ?_
        exact z_sub [0, 1] [(0, .ref a0), (2, .int x2)] rfl (t_X10_playAgain_b99 ok (f_X10_playAgain_b21 P n) hr_21 h_a0)
set_option maxRecDepth 100000 in
set_option maxHeartbeats 4000000 in
theorem m_X10_playAgain (l : Launch) {P : zSt} (hP : zOKP P) {a0 : Nat} {i1 : Int32} (h_a0 : zT P 9 a0) : zMet l P yX10_playAgain cX10_playAgain 3 6 141 none [.ref a0, .int i1] (fun m => f_X10_playAgain P a0 i1 m) := by
  refine zMet.of hP (by decide +kernel) RX10 rfl [(0, .ref a0), (1, .int i1)] (fun h => h) (Nat.le_of_ble_eq_true rfl) (fun G m ok => ?_)
  show zG P G (f_X10_playAgain P a0 i1 m) m 0 _ []
  unfold f_X10_playAgain
  refine z_aload_n ok 0 dX10_playAgain_0 rfl (show zG P G _ _ 1 _ _ from ?_)
  refine z_getR ok fd_183 h_a0 (Or.inl rfl) tf_X10_22 dX10_playAgain_1 (fun b1 h_b1 => (show zG P G _ _ 4 _ _ from ?_))
  refine z_aload_n ok 0 dX10_playAgain_4 rfl (show zG P G _ _ 5 _ _ from ?_)
  refine z_getR ok fd_181 h_a0 (Or.inl rfl) tf_X10_16 dX10_playAgain_5 (fun b5 h_b5 => (show zG P G _ _ 8 _ _ from ?_))
  refine z_callVv ok [.ref b5] (m_X1_copyFrom _ ok.p h_b1 h_b5) cv_X10_165 h_b1 rfl (by decide) rfl (Nat.le_of_ble_eq_true rfl) rfl dX10_playAgain_8 (fun _ m8 => (show zG P G _ _ 11 _ _ from ?_))
  refine z_aload_n ok 0 dX10_playAgain_11 rfl (show zG P G _ _ 12 _ _ from ?_)
  refine z_getR ok fd_183 h_a0 (Or.inl rfl) tf_X10_22 dX10_playAgain_12 (fun b12 h_b12 => (show zG P G _ _ 15 _ _ from ?_))
  refine z_iload_n ok 1 dX10_playAgain_15 rfl (show zG P G _ _ 16 _ _ from ?_)
  refine z_callVv ok [.int i1] (m_X1_impose _ ok.p h_b12) cv_X10_252 h_b12 rfl (by decide) rfl (Nat.le_of_ble_eq_true rfl) rfl dX10_playAgain_16 (fun _ m16 => (show zG P G _ _ 19 _ _ from ?_))
  refine z_iconst ok (0 : Int32) dX10_playAgain_19 (by decide) (show zG P G _ _ 20 _ _ from ?_)
  refine z_istore_n0 ok [(2, .int (0 : Int32)), (0, .ref a0), (1, .int i1)] dX10_playAgain_20 (by decide) rfl (show zG P G _ _ 21 _ _ from ?_)
  exact z_sub [1, 0] [(0, .ref a0), (2, .int (0 : Int32))] rfl (t_X10_playAgain_b21 ok zfuel _ _ _ h_a0)
set_option maxRecDepth 100000 in
set_option maxHeartbeats 4000000 in
theorem m_X10_playError (l : Launch) {P : zSt} (hP : zOKP P) {a0 : Nat} {i1 : Int32} (h_a0 : zT P 9 a0) : zMet l P yX10_playError cX10_playError 2 1 22 (some .int) [.ref a0, .int i1] (fun m => f_X10_playError P a0 i1 m) := by
  refine zMet.of hP (by decide +kernel) RX10 rfl [(0, .ref a0), (1, .int i1)] (fun h => h) (Nat.le_of_ble_eq_true rfl) (fun G m ok => ?_)
  show zG P G (f_X10_playError P a0 i1 m) m 0 _ []
  unfold f_X10_playError
  refine z_iload_n ok 1 dX10_playError_0 rfl (show zG P G _ _ 1 _ _ from ?_)
  refine z_iconst ok (0 : Int32) dX10_playError_1 (by decide) (show zG P G _ _ 2 _ _ from ?_)
  refine z_iconst ok (4 : Int32) dX10_playError_2 (by decide) (show zG P G _ _ 3 _ _ from ?_)
  refine z_callSi ok [.int i1, .int (0 : Int32), .int (4 : Int32)] (m_X10_isWithin _ ok.p) cv_X10_58 rfl (by decide) rfl (Nat.le_of_ble_eq_true rfl) rfl dX10_playError_3 (fun r3 m3 => (show zG P G _ _ 6 _ _ from ?_))
  refine z_if_ne ok 12 dX10_playError_6 (by decide) ?_ (show zG P G _ _ 9 _ _ from ?_)
  · refine z_aload_n ok 0 dX10_playError_12 rfl (show zG P G _ _ 13 _ _ from ?_)
    refine z_getR ok fd_184 h_a0 (Or.inl rfl) tf_X10_28 dX10_playError_13 (fun b13 h_b13 => (show zG P G _ _ 16 _ _ from ?_))
    refine z_getn ok fd_46 h_b13 (Or.inl rfl) tf_X10_249 dX10_playError_16 (show zG P G _ _ 19 _ _ from ?_)
    refine z_if_eq ok 26 dX10_playError_19 (by decide) ?_ (show zG P G _ _ 22 _ _ from ?_)
    · refine z_iconst ok (-1 : Int32) dX10_playError_26 (by decide) (show zG P G _ _ 27 _ _ from ?_)
      exact z_iret ok dX10_playError_27
    · refine z_iconst ok (0 : Int32) dX10_playError_22 (by decide) (show zG P G _ _ 23 _ _ from ?_)
      refine z_goto ok 27 dX10_playError_23 (by decide) ?_
      exact z_iret ok dX10_playError_27
  · refine z_bipush ok (-2 : Int32) dX10_playError_9 (by decide) (show zG P G _ _ 11 _ _ from ?_)
    exact z_iret ok dX10_playError_11
set_option maxRecDepth 100000 in
set_option maxHeartbeats 4000000 in
theorem m_X10_play (l : Launch) {P : zSt} (hP : zOKP P) {a0 : Nat} {i1 : Int32} (h_a0 : zT P 9 a0) : zMet l P yX10_play cX10_play 3 7 163 (some .int) [.ref a0, .int i1] (fun m => f_X10_play P a0 i1 m) := by
  refine zMet.of hP (by decide +kernel) RX10 rfl [(0, .ref a0), (1, .int i1)] (fun h => h) (Nat.le_of_ble_eq_true rfl) (fun G m ok => ?_)
  show zG P G (f_X10_play P a0 i1 m) m 0 _ []
  unfold f_X10_play
  refine z_aload_n ok 0 dX10_play_0 rfl (show zG P G _ _ 1 _ _ from ?_)
  refine z_iload_n ok 1 dX10_play_1 rfl (show zG P G _ _ 2 _ _ from ?_)
  refine z_callVi ok [.int i1] (m_X10_playError _ ok.p h_a0) cv_X10_229 h_a0 rfl (by decide) rfl (Nat.le_of_ble_eq_true rfl) rfl dX10_play_2 (fun r2 m2 => (show zG P G _ _ 5 _ _ from ?_))
  refine z_istore_n0 ok [(2, .int r2), (0, .ref a0), (1, .int i1)] dX10_play_5 (by decide) rfl (show zG P G _ _ 6 _ _ from ?_)
  refine z_iload_n ok 0 dX10_play_6 rfl (show zG P G _ _ 7 _ _ from ?_)
  refine z_if_eq ok 12 dX10_play_7 (by decide) ?_ (show zG P G _ _ 10 _ _ from ?_)
  · refine z_aload_n ok 1 dX10_play_12 rfl (show zG P G _ _ 13 _ _ from ?_)
    refine z_iload_n ok 2 dX10_play_13 rfl (show zG P G _ _ 14 _ _ from ?_)
    refine z_callVv ok [.int i1] (m_X10_playAgain _ ok.p h_a0) cv_X10_232 h_a0 rfl (by decide) rfl (Nat.le_of_ble_eq_true rfl) rfl dX10_play_14 (fun _ m14 => (show zG P G _ _ 17 _ _ from ?_))
    refine z_aload_n ok 1 dX10_play_17 rfl (show zG P G _ _ 18 _ _ from ?_)
    refine z_getR ok fd_184 h_a0 (Or.inl rfl) tf_X10_28 dX10_play_18 (fun b18 h_b18 => (show zG P G _ _ 21 _ _ from ?_))
    refine z_callVi ok [] (m_X2_changedAnswers _ ok.p h_b18) cv_X10_235 h_b18 rfl (by decide) rfl (Nat.le_of_ble_eq_true rfl) rfl dX10_play_21 (fun r21 m21 => (show zG P G _ _ 24 _ _ from ?_))
    exact z_iret ok dX10_play_24
  · refine z_iload_n ok 0 dX10_play_10 rfl (show zG P G _ _ 11 _ _ from ?_)
    exact z_iret ok dX10_play_11
set_option maxRecDepth 100000 in
set_option maxHeartbeats 4000000 in
theorem m_X10_answeredIf (l : Launch) {P : zSt} (hP : zOKP P) {a0 : Nat} {i1 : Int32} (h_a0 : zT P 9 a0) : zMet l P yX10_answeredIf cX10_answeredIf 3 7 163 (some .int) [.ref a0, .int i1] (fun m => f_X10_answeredIf P a0 i1 m) := by
  refine zMet.of hP (by decide +kernel) RX10 rfl [(0, .ref a0), (1, .int i1)] (fun h => h) (Nat.le_of_ble_eq_true rfl) (fun G m ok => ?_)
  show zG P G (f_X10_answeredIf P a0 i1 m) m 0 _ []
  unfold f_X10_answeredIf
  refine z_aload_n ok 0 dX10_answeredIf_0 rfl (show zG P G _ _ 1 _ _ from ?_)
  refine z_iload_n ok 1 dX10_answeredIf_1 rfl (show zG P G _ _ 2 _ _ from ?_)
  refine z_callVi ok [.int i1] (m_X10_playError _ ok.p h_a0) cv_X10_229 h_a0 rfl (by decide) rfl (Nat.le_of_ble_eq_true rfl) rfl dX10_answeredIf_2 (fun r2 m2 => (show zG P G _ _ 5 _ _ from ?_))
  refine z_istore_n0 ok [(2, .int r2), (0, .ref a0), (1, .int i1)] dX10_answeredIf_5 (by decide) rfl (show zG P G _ _ 6 _ _ from ?_)
  refine z_iload_n ok 0 dX10_answeredIf_6 rfl (show zG P G _ _ 7 _ _ from ?_)
  refine z_if_eq ok 12 dX10_answeredIf_7 (by decide) ?_ (show zG P G _ _ 10 _ _ from ?_)
  · refine z_aload_n ok 1 dX10_answeredIf_12 rfl (show zG P G _ _ 13 _ _ from ?_)
    refine z_iload_n ok 2 dX10_answeredIf_13 rfl (show zG P G _ _ 14 _ _ from ?_)
    refine z_callVv ok [.int i1] (m_X10_playAgain _ ok.p h_a0) cv_X10_232 h_a0 rfl (by decide) rfl (Nat.le_of_ble_eq_true rfl) rfl dX10_answeredIf_14 (fun _ m14 => (show zG P G _ _ 17 _ _ from ?_))
    refine z_aload_n ok 1 dX10_answeredIf_17 rfl (show zG P G _ _ 18 _ _ from ?_)
    refine z_getR ok fd_184 h_a0 (Or.inl rfl) tf_X10_28 dX10_answeredIf_18 (fun b18 h_b18 => (show zG P G _ _ 21 _ _ from ?_))
    refine z_callVi ok [] (m_X2_answersByBackends _ ok.p h_b18) cv_X10_238 h_b18 rfl (by decide) rfl (Nat.le_of_ble_eq_true rfl) rfl dX10_answeredIf_21 (fun r21 m21 => (show zG P G _ _ 24 _ _ from ?_))
    exact z_iret ok dX10_answeredIf_24
  · refine z_iload_n ok 0 dX10_answeredIf_10 rfl (show zG P G _ _ 11 _ _ from ?_)
    exact z_iret ok dX10_answeredIf_11
set_option maxRecDepth 100000 in
set_option maxHeartbeats 4000000 in
theorem m_X10_save (l : Launch) {P : zSt} (hP : zOKP P) {a0 : Nat} (h_a0 : zT P 9 a0) : zMet l P yX10_save cX10_save 1 4 87 (some .int) [.ref a0] (fun m => f_X10_save P a0 m) := by
  refine zMet.of hP (by decide +kernel) RX10 rfl [(0, .ref a0)] (fun h => h) (Nat.le_of_ble_eq_true rfl) (fun G m ok => ?_)
  show zG P G (f_X10_save P a0 m) m 0 _ []
  unfold f_X10_save
  refine z_aload_n ok 0 dX10_save_0 rfl (show zG P G _ _ 1 _ _ from ?_)
  refine z_getR ok fd_182 h_a0 (Or.inl rfl) tf_X10_19 dX10_save_1 (fun b1 h_b1 => (show zG P G _ _ 4 _ _ from ?_))
  refine z_aload_n ok 0 dX10_save_4 rfl (show zG P G _ _ 5 _ _ from ?_)
  refine z_getR ok fd_180 h_a0 (Or.inl rfl) tf_X10_10 dX10_save_5 (fun b5 h_b5 => (show zG P G _ _ 8 _ _ from ?_))
  refine z_callVv ok [.ref b5] (m_X1_copyFrom _ ok.p h_b1 h_b5) cv_X10_165 h_b1 rfl (by decide) rfl (Nat.le_of_ble_eq_true rfl) rfl dX10_save_8 (fun _ m8 => (show zG P G _ _ 11 _ _ from ?_))
  refine z_aload_n ok 0 dX10_save_11 rfl (show zG P G _ _ 12 _ _ from ?_)
  refine z_iconst ok (1 : Int32) dX10_save_12 (by decide) (show zG P G _ _ 13 _ _ from ?_)
  refine z_putZ ok fd_188 h_a0 (Or.inl rfl) tf_X10_241 dX10_save_13 (fun m13 => (show zG P G _ _ 16 _ _ from ?_))
  refine z_aload_n ok 0 dX10_save_16 rfl (show zG P G _ _ 17 _ _ from ?_)
  refine z_getR ok fd_180 h_a0 (Or.inl rfl) tf_X10_10 dX10_save_17 (fun b17 h_b17 => (show zG P G _ _ 20 _ _ from ?_))
  refine z_getn ok fd_21 h_b17 (Or.inl rfl) tf_X10_62 dX10_save_20 (show zG P G _ _ 23 _ _ from ?_)
  exact z_iret ok dX10_save_23
set_option maxRecDepth 100000 in
set_option maxHeartbeats 4000000 in
theorem m_X10_restore (l : Launch) {P : zSt} (hP : zOKP P) {a0 : Nat} (h_a0 : zT P 9 a0) : zMet l P yX10_restore cX10_restore 1 4 87 (some .int) [.ref a0] (fun m => f_X10_restore P a0 m) := by
  refine zMet.of hP (by decide +kernel) RX10 rfl [(0, .ref a0)] (fun h => h) (Nat.le_of_ble_eq_true rfl) (fun G m ok => ?_)
  show zG P G (f_X10_restore P a0 m) m 0 _ []
  unfold f_X10_restore
  refine z_aload_n ok 0 dX10_restore_0 rfl (show zG P G _ _ 1 _ _ from ?_)
  refine z_get ok fd_188 h_a0 (Or.inl rfl) tf_X10_241 dX10_restore_1 (show zG P G _ _ 4 _ _ from ?_)
  refine z_if_ne ok 9 dX10_restore_4 (by decide) ?_ (show zG P G _ _ 7 _ _ from ?_)
  · refine z_aload_n ok 0 dX10_restore_9 rfl (show zG P G _ _ 10 _ _ from ?_)
    refine z_getR ok fd_184 h_a0 (Or.inl rfl) tf_X10_28 dX10_restore_10 (fun b10 h_b10 => (show zG P G _ _ 13 _ _ from ?_))
    refine z_callVv ok [] (m_X2_stop _ ok.p h_b10) cv_X10_66 h_b10 rfl (by decide) rfl (Nat.le_of_ble_eq_true rfl) rfl dX10_restore_13 (fun _ m13 => (show zG P G _ _ 16 _ _ from ?_))
    refine z_aload_n ok 0 dX10_restore_16 rfl (show zG P G _ _ 17 _ _ from ?_)
    refine z_getR ok fd_180 h_a0 (Or.inl rfl) tf_X10_10 dX10_restore_17 (fun b17 h_b17 => (show zG P G _ _ 20 _ _ from ?_))
    refine z_aload_n ok 0 dX10_restore_20 rfl (show zG P G _ _ 21 _ _ from ?_)
    refine z_getR ok fd_182 h_a0 (Or.inl rfl) tf_X10_19 dX10_restore_21 (fun b21 h_b21 => (show zG P G _ _ 24 _ _ from ?_))
    refine z_callVv ok [.ref b21] (m_X1_copyFrom _ ok.p h_b17 h_b21) cv_X10_165 h_b17 rfl (by decide) rfl (Nat.le_of_ble_eq_true rfl) rfl dX10_restore_24 (fun _ m24 => (show zG P G _ _ 27 _ _ from ?_))
    refine z_aload_n ok 0 dX10_restore_27 rfl (show zG P G _ _ 28 _ _ from ?_)
    refine z_getR ok fd_180 h_a0 (Or.inl rfl) tf_X10_10 dX10_restore_28 (fun b28 h_b28 => (show zG P G _ _ 31 _ _ from ?_))
    refine z_getRn ok fd_35 h_b28 (Or.inl rfl) tf_X10_207 dX10_restore_31 (fun b31 h_b31 => (show zG P G _ _ 34 _ _ from ?_))
    refine z_iconst ok (0 : Int32) dX10_restore_34 (by decide) (show zG P G _ _ 35 _ _ from ?_)
    refine z_putn ok fd_161 h_b31 (Or.inl rfl) tf_X10_211 dX10_restore_35 (fun m35 => (show zG P G _ _ 38 _ _ from ?_))
    refine z_aload_n ok 0 dX10_restore_38 rfl (show zG P G _ _ 39 _ _ from ?_)
    refine z_getR ok fd_180 h_a0 (Or.inl rfl) tf_X10_10 dX10_restore_39 (fun b39 h_b39 => (show zG P G _ _ 42 _ _ from ?_))
    refine z_getn ok fd_21 h_b39 (Or.inl rfl) tf_X10_62 dX10_restore_42 (show zG P G _ _ 45 _ _ from ?_)
    exact z_iret ok dX10_restore_45
  · refine z_iconst ok (-1 : Int32) dX10_restore_7 (by decide) (show zG P G _ _ 8 _ _ from ?_)
    exact z_iret ok dX10_restore_8

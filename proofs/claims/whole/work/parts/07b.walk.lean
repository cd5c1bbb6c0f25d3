set_option maxRecDepth 100000 in
set_option maxHeartbeats 4000000 in
theorem t_X1_pickLeastUsed_b49 {P : zSt} {G : zC} (ok : zOK P G RX1 cX1_pickLeastUsed 3 1 21 (some .int)) (rec_4 : Nat → Int32 → Int32 → zM → Option (Int32 × zM)) (hr_4 : ∀ (a0 : Nat) (x1 : Int32) (x2 : Int32) (m : zM), zT P 1 a0 → zG P G (rec_4 a0 x1 x2 m) m 4 [(0, .ref a0), (1, .int x1), (2, .int x2)] []) {a0 : Nat} {x1 : Int32} {x2 : Int32} {m : zM} (h_a0 : zT P 1 a0) : zG P G (f_X1_pickLeastUsed_b49 P rec_4 a0 x1 x2 m) m 49 [(0, .ref a0), (1, .int x1), (2, .int x2)] [] := by
  unfold f_X1_pickLeastUsed_b49
  refine z_iinc ok (fun v49 => [(2, .int v49), (0, .ref a0), (1, .int x1)]) 2 dX1_pickLeastUsed_49 rfl (by decide) (by decide) (fun _ => rfl) (fun v49 => (show zG P G _ _ 52 _ _ from ?_))
  refine z_goto ok 4 dX1_pickLeastUsed_52 (by decide) ?_
  exact z_sub [1, 2, 0] [(0, .ref a0), (1, .int x1), (2, .int v49)] rfl (hr_4 _ _ _ _ h_a0)
set_option maxRecDepth 100000 in
set_option maxHeartbeats 4000000 in
theorem t_X1_pickLeastUsed_b47 {P : zSt} {G : zC} (ok : zOK P G RX1 cX1_pickLeastUsed 3 1 21 (some .int)) (rec_4 : Nat → Int32 → Int32 → zM → Option (Int32 × zM)) (hr_4 : ∀ (a0 : Nat) (x1 : Int32) (x2 : Int32) (m : zM), zT P 1 a0 → zG P G (rec_4 a0 x1 x2 m) m 4 [(0, .ref a0), (1, .int x1), (2, .int x2)] []) {a0 : Nat} {x2 : Int32} {m : zM} (h_a0 : zT P 1 a0) : zG P G (f_X1_pickLeastUsed_b47 P rec_4 a0 x2 m) m 47 [(0, .ref a0), (2, .int x2)] [] := by
  unfold f_X1_pickLeastUsed_b47
  refine z_iload_n ok 1 dX1_pickLeastUsed_47 rfl (show zG P G _ _ 48 _ _ from ?_)
  refine z_istore_n0 ok [(1, .int x2), (0, .ref a0), (2, .int x2)] dX1_pickLeastUsed_48 (by decide) rfl (show zG P G _ _ 49 _ _ from ?_)
  exact z_sub [1, 0, 2] [(0, .ref a0), (1, .int x2), (2, .int x2)] rfl (t_X1_pickLeastUsed_b49 ok rec_4 hr_4 h_a0)
set_option maxRecDepth 100000 in
set_option maxHeartbeats 4000000 in
theorem t_X1_pickLeastUsed_b4 {P : zSt} {G : zC} (ok : zOK P G RX1 cX1_pickLeastUsed 3 1 21 (some .int))  : ∀ (n : Nat) (a0 : Nat) (x1 : Int32) (x2 : Int32) (m : zM) (h_a0 : zT P 1 a0), zG P G (f_X1_pickLeastUsed_b4 P n a0 x1 x2 m) m 4 [(0, .ref a0), (1, .int x1), (2, .int x2)] [] := by
  intro n
  induction n with
  | zero =>
    intros
    exact zG_none
  | succ n ih =>
    intro a0 x1 x2 m h_a0
    unfold f_X1_pickLeastUsed_b4
    have hr_4 := ih
    refine z_iload_n ok 2 dX1_pickLeastUsed_4 rfl (show zG P G _ _ 5 _ _ from ?_)
    refine z_aload_n ok 0 dX1_pickLeastUsed_5 rfl (show zG P G _ _ 6 _ _ from ?_)
    refine z_get ok fd_21 h_a0 (Or.inl rfl) tf_X1_43 dX1_pickLeastUsed_6 (show zG P G _ _ 9 _ _ from ?_)
    refine z_icmp_ge ok 55 dX1_pickLeastUsed_9 (by decide) ?_ (show zG P G _ _ 12 _ _ from ?_)
    · refine z_iload_n ok 1 dX1_pickLeastUsed_55 rfl (show zG P G _ _ 56 _ _ from ?_)
      exact z_iret ok dX1_pickLeastUsed_56
    · refine z_aload_n ok 0 dX1_pickLeastUsed_12 rfl (show zG P G _ _ 13 _ _ from ?_)
      refine z_getR ok fd_20 h_a0 (Or.inl rfl) tf_X1_11 dX1_pickLeastUsed_13 (fun b13 h_b13 => (show zG P G _ _ 16 _ _ from ?_))
      refine z_iload_n ok 2 dX1_pickLeastUsed_16 rfl (show zG P G _ _ 17 _ _ from ?_)
      refine z_aald ok ek_13 h_b13 dX1_pickLeastUsed_17 (fun b17 h_b17 => (show zG P G _ _ 18 _ _ from ?_))
      refine z_get ok fd_2 h_b17 (Or.inr ts_156) tf_X1_191 dX1_pickLeastUsed_18 (show zG P G _ _ 21 _ _ from ?_)
      refine z_if_eq ok 49 dX1_pickLeastUsed_21 (by decide) ?_ (show zG P G _ _ 24 _ _ from ?_)
      · exact z_sub [0, 1, 2] [(0, .ref a0), (1, .int x1), (2, .int x2)] rfl (t_X1_pickLeastUsed_b49 ok (f_X1_pickLeastUsed_b4 P n) hr_4 h_a0)
      · refine z_iload_n ok 1 dX1_pickLeastUsed_24 rfl (show zG P G _ _ 25 _ _ from ?_)
        refine z_iconst ok (-1 : Int32) dX1_pickLeastUsed_25 (by decide) (show zG P G _ _ 26 _ _ from ?_)
        refine z_icmp_eq ok 47 dX1_pickLeastUsed_26 (by decide) ?_ (show zG P G _ _ 29 _ _ from ?_)
        · exact z_sub [0, 2] [(0, .ref a0), (2, .int x2)] rfl (t_X1_pickLeastUsed_b47 ok (f_X1_pickLeastUsed_b4 P n) hr_4 h_a0)
        · refine z_aload_n ok 0 dX1_pickLeastUsed_29 rfl (show zG P G _ _ 30 _ _ from ?_)
          refine z_getR ok fd_20 h_a0 (Or.inl rfl) tf_X1_11 dX1_pickLeastUsed_30 (fun b30 h_b30 => (show zG P G _ _ 33 _ _ from ?_))
          refine z_iload_n ok 2 dX1_pickLeastUsed_33 rfl (show zG P G _ _ 34 _ _ from ?_)
          refine z_aald ok ek_13 h_b30 dX1_pickLeastUsed_34 (fun b34 h_b34 => (show zG P G _ _ 35 _ _ from ?_))
          refine z_aload_n ok 0 dX1_pickLeastUsed_35 rfl (show zG P G _ _ 36 _ _ from ?_)
          refine z_getR ok fd_20 h_a0 (Or.inl rfl) tf_X1_11 dX1_pickLeastUsed_36 (fun b36 h_b36 => (show zG P G _ _ 39 _ _ from ?_))
          refine z_iload_n ok 1 dX1_pickLeastUsed_39 rfl (show zG P G _ _ 40 _ _ from ?_)
          refine z_aald ok ek_13 h_b36 dX1_pickLeastUsed_40 (fun b40 h_b40 => (show zG P G _ _ 41 _ _ from ?_))
          refine z_callVi ok [.ref b40] (m_X0_isLessUsedThan _ ok.p h_b34 h_b40) cv_X1_217 h_b34 rfl (by decide) rfl (Nat.le_of_ble_eq_true rfl) rfl dX1_pickLeastUsed_41 (fun r41 m41 => (show zG P G _ _ 44 _ _ from ?_))
          refine z_if_eq ok 49 dX1_pickLeastUsed_44 (by decide) ?_ (show zG P G _ _ 47 _ _ from ?_)
          · exact z_sub [0, 1, 2] [(0, .ref a0), (1, .int x1), (2, .int x2)] rfl (t_X1_pickLeastUsed_b49 ok (f_X1_pickLeastUsed_b4 P n) hr_4 h_a0)
          · exact z_sub [0, 2] [(0, .ref a0), (2, .int x2)] rfl (t_X1_pickLeastUsed_b47 ok (f_X1_pickLeastUsed_b4 P n) hr_4 h_a0)
set_option maxRecDepth 100000 in
set_option maxHeartbeats 4000000 in
theorem m_X1_pickLeastUsed (l : Launch) {P : zSt} (hP : zOKP P) {a0 : Nat} (h_a0 : zT P 1 a0) : zMet l P yX1_pickLeastUsed cX1_pickLeastUsed 3 1 21 (some .int) [.ref a0] (fun m => f_X1_pickLeastUsed P a0 m) := by
  refine zMet.of hP (by decide +kernel) RX1 rfl [(0, .ref a0)] (fun h => h) (Nat.le_of_ble_eq_true rfl) (fun G m ok => ?_)
  show zG P G (f_X1_pickLeastUsed P a0 m) m 0 _ []
  unfold f_X1_pickLeastUsed
  refine z_iconst ok (-1 : Int32) dX1_pickLeastUsed_0 (by decide) (show zG P G _ _ 1 _ _ from ?_)
  refine z_istore_n0 ok [(1, .int (-1 : Int32)), (0, .ref a0)] dX1_pickLeastUsed_1 (by decide) rfl (show zG P G _ _ 2 _ _ from ?_)
  refine z_iconst ok (0 : Int32) dX1_pickLeastUsed_2 (by decide) (show zG P G _ _ 3 _ _ from ?_)
  refine z_istore_n0 ok [(2, .int (0 : Int32)), (1, .int (-1 : Int32)), (0, .ref a0)] dX1_pickLeastUsed_3 (by decide) rfl (show zG P G _ _ 4 _ _ from ?_)
  exact z_sub [2, 1, 0] [(0, .ref a0), (1, .int (-1 : Int32)), (2, .int (0 : Int32))] rfl (t_X1_pickLeastUsed_b4 ok zfuel _ _ _ _ h_a0)
set_option maxRecDepth 100000 in
set_option maxHeartbeats 4000000 in
theorem t_X9_chooseByWeights_13_b79 {P : zSt} {G : zC} (ok : zOK P G RX9 cX9_chooseByWeights 6 0 0 (some .int)) (rec_7 : Nat → Int32 → Int32 → Int32 → Int32 → zM → Option (Int32 × zM)) (hr_7 : ∀ (a0 : Nat) (x1 : Int32) (x2 : Int32) (x3 : Int32) (x4 : Int32) (m : zM), zT P 13 a0 → zG P G (rec_7 a0 x1 x2 x3 x4 m) m 7 [(0, .ref a0), (1, .int x1), (2, .int x2), (3, .int x3), (4, .int x4)] []) {a0 : Nat} {x1 : Int32} {x2 : Int32} {x3 : Int32} {x4 : Int32} {m : zM} (h_a0 : zT P 13 a0) : zG P G (f_X9_chooseByWeights_13_b79 P rec_7 a0 x1 x2 x3 x4 m) m 79 [(0, .ref a0), (1, .int x1), (2, .int x2), (3, .int x3), (4, .int x4)] [] := by
  unfold f_X9_chooseByWeights_13_b79
  refine z_iinc ok (fun v79 => [(4, .int v79), (0, .ref a0), (1, .int x1), (2, .int x2), (3, .int x3)]) 4 dX9_chooseByWeights_79 rfl (by decide) (by decide) (fun _ => rfl) (fun v79 => (show zG P G _ _ 82 _ _ from ?_))
  refine z_goto ok 7 dX9_chooseByWeights_82 (by decide) ?_
  exact z_sub [1, 2, 3, 4, 0] [(0, .ref a0), (1, .int x1), (2, .int x2), (3, .int x3), (4, .int v79)] rfl (hr_7 _ _ _ _ _ _ h_a0)
set_option maxRecDepth 100000 in
set_option maxHeartbeats 4000000 in
theorem t_X9_chooseByWeights_13_b76 {P : zSt} {G : zC} (ok : zOK P G RX9 cX9_chooseByWeights 6 0 0 (some .int)) (rec_7 : Nat → Int32 → Int32 → Int32 → Int32 → zM → Option (Int32 × zM)) (hr_7 : ∀ (a0 : Nat) (x1 : Int32) (x2 : Int32) (x3 : Int32) (x4 : Int32) (m : zM), zT P 13 a0 → zG P G (rec_7 a0 x1 x2 x3 x4 m) m 7 [(0, .ref a0), (1, .int x1), (2, .int x2), (3, .int x3), (4, .int x4)] []) {a0 : Nat} {x1 : Int32} {x3 : Int32} {x4 : Int32} {m : zM} (h_a0 : zT P 13 a0) : zG P G (f_X9_chooseByWeights_13_b76 P rec_7 a0 x1 x3 x4 m) m 76 [(0, .ref a0), (1, .int x1), (3, .int x3), (4, .int x4)] [] := by
  unfold f_X9_chooseByWeights_13_b76
  refine z_iload ok 3 dX9_chooseByWeights_76 rfl (show zG P G _ _ 78 _ _ from ?_)
  refine z_istore_n0 ok [(2, .int x4), (0, .ref a0), (1, .int x1), (3, .int x3), (4, .int x4)] dX9_chooseByWeights_78 (by decide) rfl (show zG P G _ _ 79 _ _ from ?_)
  exact z_sub [1, 2, 0, 3, 4] [(0, .ref a0), (1, .int x1), (2, .int x4), (3, .int x3), (4, .int x4)] rfl (t_X9_chooseByWeights_13_b79 ok rec_7 hr_7 h_a0)
set_option maxRecDepth 100000 in
set_option maxHeartbeats 4000000 in
theorem t_X9_chooseByWeights_13_b102 {P : zSt} {G : zC} (ok : zOK P G RX9 cX9_chooseByWeights 6 0 0 (some .int))  {x2 : Int32} {m : zM}  : zG P G (f_X9_chooseByWeights_13_b102 P x2 m) m 102 [(2, .int x2)] [] := by
  unfold f_X9_chooseByWeights_13_b102
  refine z_iload_n ok 0 dX9_chooseByWeights_102 rfl (show zG P G _ _ 103 _ _ from ?_)
  exact z_iret ok dX9_chooseByWeights_103
set_option maxRecDepth 100000 in
set_option maxHeartbeats 4000000 in
theorem t_X9_chooseByWeights_13_b85 {P : zSt} {G : zC} (ok : zOK P G RX9 cX9_chooseByWeights 6 0 0 (some .int))  {a0 : Nat} {x2 : Int32} {x3 : Int32} {m : zM} (h_a0 : zT P 13 a0) : zG P G (f_X9_chooseByWeights_13_b85 P a0 x2 x3 m) m 85 [(0, .ref a0), (2, .int x2), (3, .int x3)] [] := by
  unfold f_X9_chooseByWeights_13_b85
  refine z_iload_n ok 1 dX9_chooseByWeights_85 rfl (show zG P G _ _ 86 _ _ from ?_)
  refine z_iconst ok (-1 : Int32) dX9_chooseByWeights_86 (by decide) (show zG P G _ _ 87 _ _ from ?_)
  refine z_icmp_eq ok 102 dX9_chooseByWeights_87 (by decide) ?_ (show zG P G _ _ 90 _ _ from ?_)
  · exact z_sub [1] [(2, .int x2)] rfl (t_X9_chooseByWeights_13_b102 ok)
  · refine z_aload_n ok 0 dX9_chooseByWeights_90 rfl (show zG P G _ _ 91 _ _ from ?_)
    refine z_iload_n ok 1 dX9_chooseByWeights_91 rfl (show zG P G _ _ 92 _ _ from ?_)
    refine z_aald ok ek_13 h_a0 dX9_chooseByWeights_92 (fun b92 h_b92 => (show zG P G _ _ 93 _ _ from ?_))
    refine z_dup ok dX9_chooseByWeights_93 rfl (show zG P G _ _ 94 _ _ from ?_)
    refine z_get ok fd_1 h_b92 (Or.inl rfl) tf_X9_15 dX9_chooseByWeights_94 (show zG P G _ _ 97 _ _ from ?_)
    refine z_iload_n ok 2 dX9_chooseByWeights_97 rfl (show zG P G _ _ 98 _ _ from ?_)
    refine z_isub ok dX9_chooseByWeights_98 (show zG P G _ _ 99 _ _ from ?_)
    refine z_put ok fd_1 h_b92 (Or.inl rfl) tf_X9_15 dX9_chooseByWeights_99 (fun m99 => (show zG P G _ _ 102 _ _ from ?_))
    exact z_sub [1] [(2, .int x2)] rfl (t_X9_chooseByWeights_13_b102 ok)
set_option maxRecDepth 100000 in
set_option maxHeartbeats 4000000 in
theorem t_X9_chooseByWeights_13_b7 {P : zSt} {G : zC} (ok : zOK P G RX9 cX9_chooseByWeights 6 0 0 (some .int))  : ∀ (n : Nat) (a0 : Nat) (x1 : Int32) (x2 : Int32) (x3 : Int32) (x4 : Int32) (m : zM) (h_a0 : zT P 13 a0), zG P G (f_X9_chooseByWeights_13_b7 P n a0 x1 x2 x3 x4 m) m 7 [(0, .ref a0), (1, .int x1), (2, .int x2), (3, .int x3), (4, .int x4)] [] := by
  intro n
  induction n with
  | zero =>
    intros
    exact zG_none
  | succ n ih =>
    intro a0 x1 x2 x3 x4 m h_a0
    unfold f_X9_chooseByWeights_13_b7
    have hr_7 := ih
    refine z_iload ok 4 dX9_chooseByWeights_7 rfl (show zG P G _ _ 9 _ _ from ?_)
    refine z_iload_n ok 1 dX9_chooseByWeights_9 rfl (show zG P G _ _ 10 _ _ from ?_)
    refine z_icmp_ge ok 85 dX9_chooseByWeights_10 (by decide) ?_ (show zG P G _ _ 13 _ _ from ?_)
    · exact z_sub [0, 2, 3] [(0, .ref a0), (2, .int x2), (3, .int x3)] rfl (t_X9_chooseByWeights_13_b85 ok h_a0)
    · refine z_iload ok 4 dX9_chooseByWeights_13 rfl (show zG P G _ _ 15 _ _ from ?_)
      refine z_aload_n ok 0 dX9_chooseByWeights_15 rfl (show zG P G _ _ 16 _ _ from ?_)
      refine z_alen ok ek_13 h_a0 dX9_chooseByWeights_16 (show zG P G _ _ 17 _ _ from ?_)
      refine z_icmp_ge ok 85 dX9_chooseByWeights_17 (by decide) ?_ (show zG P G _ _ 20 _ _ from ?_)
      · exact z_sub [0, 2, 3] [(0, .ref a0), (2, .int x2), (3, .int x3)] rfl (t_X9_chooseByWeights_13_b85 ok h_a0)
      · refine z_aload_n ok 0 dX9_chooseByWeights_20 rfl (show zG P G _ _ 21 _ _ from ?_)
        refine z_iload ok 4 dX9_chooseByWeights_21 rfl (show zG P G _ _ 23 _ _ from ?_)
        refine z_aald ok ek_13 h_a0 dX9_chooseByWeights_23 (fun b23 h_b23 => (show zG P G _ _ 24 _ _ from ?_))
        refine z_astore ok [(5, .ref b23), (0, .ref a0), (1, .int x1), (2, .int x2), (3, .int x3), (4, .int x4)] dX9_chooseByWeights_24 (by decide) rfl (show zG P G _ _ 26 _ _ from ?_)
        refine z_aload ok 0 dX9_chooseByWeights_26 rfl (show zG P G _ _ 28 _ _ from ?_)
        refine z_get ok fd_2 h_b23 (Or.inl rfl) tf_X9_9 dX9_chooseByWeights_28 (show zG P G _ _ 31 _ _ from ?_)
        refine z_if_eq ok 79 dX9_chooseByWeights_31 (by decide) ?_ (show zG P G _ _ 34 _ _ from ?_)
        · exact z_sub [1, 2, 3, 4, 5] [(0, .ref a0), (1, .int x1), (2, .int x2), (3, .int x3), (4, .int x4)] rfl (t_X9_chooseByWeights_13_b79 ok (f_X9_chooseByWeights_13_b7 P n) hr_7 h_a0)
        · refine z_aload ok 0 dX9_chooseByWeights_34 rfl (show zG P G _ _ 36 _ _ from ?_)
          refine z_dup ok dX9_chooseByWeights_36 rfl (show zG P G _ _ 37 _ _ from ?_)
          refine z_get ok fd_1 h_b23 (Or.inl rfl) tf_X9_15 dX9_chooseByWeights_37 (show zG P G _ _ 40 _ _ from ?_)
          refine z_aload ok 0 dX9_chooseByWeights_40 rfl (show zG P G _ _ 42 _ _ from ?_)
          refine z_get ok fd_0 h_b23 (Or.inl rfl) tf_X9_19 dX9_chooseByWeights_42 (show zG P G _ _ 45 _ _ from ?_)
          refine z_iadd ok dX9_chooseByWeights_45 (show zG P G _ _ 46 _ _ from ?_)
          refine z_put ok fd_1 h_b23 (Or.inl rfl) tf_X9_15 dX9_chooseByWeights_46 (fun m46 => (show zG P G _ _ 49 _ _ from ?_))
          refine z_iload_n ok 4 dX9_chooseByWeights_49 rfl (show zG P G _ _ 50 _ _ from ?_)
          refine z_aload ok 0 dX9_chooseByWeights_50 rfl (show zG P G _ _ 52 _ _ from ?_)
          refine z_get ok fd_0 h_b23 (Or.inl rfl) tf_X9_19 dX9_chooseByWeights_52 (show zG P G _ _ 55 _ _ from ?_)
          refine z_iadd ok dX9_chooseByWeights_55 (show zG P G _ _ 56 _ _ from ?_)
          refine z_istore_n ok (fun v56 => [(3, .int v56), (5, .ref b23), (0, .ref a0), (1, .int x1), (2, .int x2), (4, .int x4)]) dX9_chooseByWeights_56 (by decide) (fun _ => rfl) (fun v56 => (show zG P G _ _ 57 _ _ from ?_))
          refine z_iload_n ok 4 dX9_chooseByWeights_57 rfl (show zG P G _ _ 58 _ _ from ?_)
          refine z_iconst ok (-1 : Int32) dX9_chooseByWeights_58 (by decide) (show zG P G _ _ 59 _ _ from ?_)
          refine z_icmp_eq ok 76 dX9_chooseByWeights_59 (by decide) ?_ (show zG P G _ _ 62 _ _ from ?_)
          · exact z_sub [2, 3, 0, 5] [(0, .ref a0), (1, .int x1), (3, .int v56), (4, .int x4)] rfl (t_X9_chooseByWeights_13_b76 ok (f_X9_chooseByWeights_13_b7 P n) hr_7 h_a0)
          · refine z_aload ok 1 dX9_chooseByWeights_62 rfl (show zG P G _ _ 64 _ _ from ?_)
            refine z_get ok fd_1 h_b23 (Or.inl rfl) tf_X9_15 dX9_chooseByWeights_64 (show zG P G _ _ 67 _ _ from ?_)
            refine z_aload_n ok 2 dX9_chooseByWeights_67 rfl (show zG P G _ _ 68 _ _ from ?_)
            refine z_iload_n ok 4 dX9_chooseByWeights_68 rfl (show zG P G _ _ 69 _ _ from ?_)
            refine z_aald ok ek_13 h_a0 dX9_chooseByWeights_69 (fun b69 h_b69 => (show zG P G _ _ 70 _ _ from ?_))
            refine z_get ok fd_1 h_b69 (Or.inl rfl) tf_X9_15 dX9_chooseByWeights_70 (show zG P G _ _ 73 _ _ from ?_)
            refine z_icmp_le ok 79 dX9_chooseByWeights_73 (by decide) ?_ (show zG P G _ _ 76 _ _ from ?_)
            · exact z_sub [2, 3, 4, 0, 5] [(0, .ref a0), (1, .int x1), (2, .int x2), (3, .int v56), (4, .int x4)] rfl (t_X9_chooseByWeights_13_b79 ok (f_X9_chooseByWeights_13_b7 P n) hr_7 h_a0)
            · exact z_sub [2, 3, 0, 5] [(0, .ref a0), (1, .int x1), (3, .int v56), (4, .int x4)] rfl (t_X9_chooseByWeights_13_b76 ok (f_X9_chooseByWeights_13_b7 P n) hr_7 h_a0)
set_option maxRecDepth 100000 in
set_option maxHeartbeats 4000000 in
theorem m_X9_chooseByWeights_13 (l : Launch) {P : zSt} (hP : zOKP P) {a0 : Nat} {i1 : Int32} (h_a0 : zT P 13 a0) : zMet l P yX9_chooseByWeights cX9_chooseByWeights 6 0 0 (some .int) [.ref a0, .int i1] (fun m => f_X9_chooseByWeights_13 P a0 i1 m) := by
  refine zMet.of hP (by decide +kernel) RX9 rfl [(0, .ref a0), (1, .int i1)] (fun h => h) (Nat.le_of_ble_eq_true rfl) (fun G m ok => ?_)
  show zG P G (f_X9_chooseByWeights_13 P a0 i1 m) m 0 _ []
  unfold f_X9_chooseByWeights_13
  refine z_iconst ok (-1 : Int32) dX9_chooseByWeights_0 (by decide) (show zG P G _ _ 1 _ _ from ?_)
  refine z_istore_n0 ok [(2, .int (-1 : Int32)), (0, .ref a0), (1, .int i1)] dX9_chooseByWeights_1 (by decide) rfl (show zG P G _ _ 2 _ _ from ?_)
  refine z_iconst ok (0 : Int32) dX9_chooseByWeights_2 (by decide) (show zG P G _ _ 3 _ _ from ?_)
  refine z_istore_n0 ok [(3, .int (0 : Int32)), (2, .int (-1 : Int32)), (0, .ref a0), (1, .int i1)] dX9_chooseByWeights_3 (by decide) rfl (show zG P G _ _ 4 _ _ from ?_)
  refine z_iconst ok (0 : Int32) dX9_chooseByWeights_4 (by decide) (show zG P G _ _ 5 _ _ from ?_)
  refine z_istore0 ok [(4, .int (0 : Int32)), (3, .int (0 : Int32)), (2, .int (-1 : Int32)), (0, .ref a0), (1, .int i1)] dX9_chooseByWeights_5 (by decide) rfl (show zG P G _ _ 7 _ _ from ?_)
  exact z_sub [3, 4, 2, 1, 0] [(0, .ref a0), (1, .int i1), (2, .int (-1 : Int32)), (3, .int (0 : Int32)), (4, .int (0 : Int32))] rfl (t_X9_chooseByWeights_13_b7 ok zfuel _ _ _ _ _ _ h_a0)
set_option maxRecDepth 100000 in
set_option maxHeartbeats 4000000 in
theorem t_X1_pickSticky_b46 {P : zSt} {G : zC} (ok : zOK P G RX1 cX1_pickSticky 4 2 43 (some .int))  {x3 : Int32} {m : zM}  : zG P G (f_X1_pickSticky_b46 P x3 m) m 46 [(3, .int x3)] [] := by
  unfold f_X1_pickSticky_b46
  refine z_iload_n ok 0 dX1_pickSticky_46 rfl (show zG P G _ _ 47 _ _ from ?_)
  exact z_iret ok dX1_pickSticky_47
set_option maxRecDepth 100000 in
set_option maxHeartbeats 4000000 in
theorem t_X1_pickSticky_b27 {P : zSt} {G : zC} (ok : zOK P G RX1 cX1_pickSticky 4 2 43 (some .int))  {a0 : Nat} {a1 : Nat} {x2 : Int32} {m : zM} (h_a0 : zT P 1 a0) (h_a1 : zT P 5 a1) : zG P G (f_X1_pickSticky_b27 P a0 a1 x2 m) m 27 [(0, .ref a0), (1, .ref a1), (2, .int x2)] [] := by
  unfold f_X1_pickSticky_b27
  refine z_aload_n ok 0 dX1_pickSticky_27 rfl (show zG P G _ _ 28 _ _ from ?_)
  refine z_getR ok fd_20 h_a0 (Or.inl rfl) tf_X1_11 dX1_pickSticky_28 (fun b28 h_b28 => (show zG P G _ _ 31 _ _ from ?_))
  refine z_aload_n ok 0 dX1_pickSticky_31 rfl (show zG P G _ _ 32 _ _ from ?_)
  refine z_get ok fd_21 h_a0 (Or.inl rfl) tf_X1_43 dX1_pickSticky_32 (show zG P G _ _ 35 _ _ from ?_)
  refine z_callSi ok [.ref b28, .int (zf m 21 a0)] (m_X9_chooseByWeights_13 _ ok.p h_b28) cv_X1_155 rfl (by decide) rfl (Nat.le_of_ble_eq_true rfl) rfl dX1_pickSticky_35 (fun r35 m35 => (show zG P G _ _ 38 _ _ from ?_))
  refine z_istore_n0 ok [(3, .int r35), (0, .ref a0), (1, .ref a1), (2, .int x2)] dX1_pickSticky_38 (by decide) rfl (show zG P G _ _ 39 _ _ from ?_)
  refine z_aload_n ok 2 dX1_pickSticky_39 rfl (show zG P G _ _ 40 _ _ from ?_)
  refine z_getRn ok fd_109 h_a1 (Or.inl rfl) tf_X1_221 dX1_pickSticky_40 (fun b40 h_b40 => (show zG P G _ _ 43 _ _ from ?_))
  refine z_iload_n ok 3 dX1_pickSticky_43 rfl (show zG P G _ _ 44 _ _ from ?_)
  refine z_iload_n ok 0 dX1_pickSticky_44 rfl (show zG P G _ _ 45 _ _ from ?_)
  refine z_iast ok h_b40 dX1_pickSticky_45 (fun m45 => (show zG P G _ _ 46 _ _ from ?_))
  exact z_sub [0] [(3, .int r35)] rfl (t_X1_pickSticky_b46 ok)
set_option maxRecDepth 100000 in
set_option maxHeartbeats 4000000 in
theorem m_X1_pickSticky (l : Launch) {P : zSt} (hP : zOKP P) {a0 : Nat} {a1 : Nat} {i2 : Int32} (h_a0 : zT P 1 a0) (h_a1 : zT P 5 a1) : zMet l P yX1_pickSticky cX1_pickSticky 4 2 43 (some .int) [.ref a0, .ref a1, .int i2] (fun m => f_X1_pickSticky P a0 a1 i2 m) := by
  refine zMet.of hP (by decide +kernel) RX1 rfl [(0, .ref a0), (1, .ref a1), (2, .int i2)] (fun h => h) (Nat.le_of_ble_eq_true rfl) (fun G m ok => ?_)
  show zG P G (f_X1_pickSticky P a0 a1 i2 m) m 0 _ []
  unfold f_X1_pickSticky
  refine z_aload_n ok 1 dX1_pickSticky_0 rfl (show zG P G _ _ 1 _ _ from ?_)
  refine z_getRn ok fd_109 h_a1 (Or.inl rfl) tf_X1_221 dX1_pickSticky_1 (fun b1 h_b1 => (show zG P G _ _ 4 _ _ from ?_))
  refine z_iload_n ok 2 dX1_pickSticky_4 rfl (show zG P G _ _ 5 _ _ from ?_)
  refine z_iald ok h_b1 dX1_pickSticky_5 (show zG P G _ _ 6 _ _ from ?_)
  refine z_istore_n ok (fun v6 => [(3, .int v6), (0, .ref a0), (1, .ref a1), (2, .int i2)]) dX1_pickSticky_6 (by decide) (fun _ => rfl) (fun v6 => (show zG P G _ _ 7 _ _ from ?_))
  refine z_aload_n ok 1 dX1_pickSticky_7 rfl (show zG P G _ _ 8 _ _ from ?_)
  refine z_iload_n ok 0 dX1_pickSticky_8 rfl (show zG P G _ _ 9 _ _ from ?_)
  refine z_callVi ok [.int v6] (m_X1_hasBackend _ ok.p h_a0) cv_X1_225 h_a0 rfl (by decide) rfl (Nat.le_of_ble_eq_true rfl) rfl dX1_pickSticky_9 (fun r9 m9 => (show zG P G _ _ 12 _ _ from ?_))
  refine z_if_eq ok 27 dX1_pickSticky_12 (by decide) ?_ (show zG P G _ _ 15 _ _ from ?_)
  · exact z_sub [1, 2, 3] [(0, .ref a0), (1, .ref a1), (2, .int i2)] rfl (t_X1_pickSticky_b27 ok h_a0 h_a1)
  · refine z_aload_n ok 1 dX1_pickSticky_15 rfl (show zG P G _ _ 16 _ _ from ?_)
    refine z_getR ok fd_20 h_a0 (Or.inl rfl) tf_X1_11 dX1_pickSticky_16 (fun b16 h_b16 => (show zG P G _ _ 19 _ _ from ?_))
    refine z_iload_n ok 0 dX1_pickSticky_19 rfl (show zG P G _ _ 20 _ _ from ?_)
    refine z_aald ok ek_13 h_b16 dX1_pickSticky_20 (fun b20 h_b20 => (show zG P G _ _ 21 _ _ from ?_))
    refine z_get ok fd_2 h_b20 (Or.inr ts_156) tf_X1_191 dX1_pickSticky_21 (show zG P G _ _ 24 _ _ from ?_)
    refine z_if_ne ok 46 dX1_pickSticky_24 (by decide) ?_ (show zG P G _ _ 27 _ _ from ?_)
    · exact z_sub [0] [(3, .int v6)] rfl (t_X1_pickSticky_b46 ok)
    · exact z_sub [1, 2, 3] [(0, .ref a0), (1, .ref a1), (2, .int i2)] rfl (t_X1_pickSticky_b27 ok h_a0 h_a1)
set_option maxRecDepth 100000 in
set_option maxHeartbeats 4000000 in
theorem m_X1_pick (l : Launch) {P : zSt} (hP : zOKP P) {a0 : Nat} {i1 : Int32} {i2 : Int32} {i3 : Int32} (h_a0 : zT P 1 a0) : zMet l P yX1_pick cX1_pick 4 3 66 (some .int) [.ref a0, .int i1, .int i2, .int i3] (fun m => f_X1_pick P a0 i1 i2 i3 m) := by
  refine zMet.of hP (by decide +kernel) RX1 rfl [(0, .ref a0), (1, .int i1), (2, .int i2), (3, .int i3)] (fun h => h) (Nat.le_of_ble_eq_true rfl) (fun G m ok => ?_)
  show zG P G (f_X1_pick P a0 i1 i2 i3 m) m 0 _ []
  unfold f_X1_pick
  refine z_aload_n ok 0 dX1_pick_0 rfl (show zG P G _ _ 1 _ _ from ?_)
  refine z_iload_n ok 1 dX1_pick_1 rfl (show zG P G _ _ 2 _ _ from ?_)
  refine z_iload_n ok 3 dX1_pick_2 rfl (show zG P G _ _ 3 _ _ from ?_)
  refine z_callVv ok [.int i1, .int i3] (m_X1_narrow _ ok.p h_a0) cv_X1_192 h_a0 rfl (by decide) rfl (Nat.le_of_ble_eq_true rfl) rfl dX1_pick_3 (fun _ m3 => (show zG P G _ _ 6 _ _ from ?_))
  refine z_aload_n ok 0 dX1_pick_6 rfl (show zG P G _ _ 7 _ _ from ?_)
  refine z_getR ok fd_22 h_a0 (Or.inl rfl) tf_X1_19 dX1_pick_7 (fun b7 h_b7 => (show zG P G _ _ 10 _ _ from ?_))
  refine z_iload_n ok 1 dX1_pick_10 rfl (show zG P G _ _ 11 _ _ from ?_)
  refine z_aald ok ek_15 h_b7 dX1_pick_11 (fun b11 h_b11 => (show zG P G _ _ 12 _ _ from ?_))
  refine z_getn ok fd_100 h_b11 (Or.inl rfl) tf_X1_111 dX1_pick_12 (show zG P G _ _ 15 _ _ from ?_)
  refine z_lsw2 ok 40 45 57 dX1_pick_15 (by decide) (by decide) (by decide) (by decide) (by decide) (by decide) ?_ ?_ ?_
  · refine z_aload_n ok 0 dX1_pick_40 rfl (show zG P G _ _ 41 _ _ from ?_)
    refine z_callVi ok [] (m_X1_pickLeastUsed _ ok.p h_a0) cv_X1_196 h_a0 rfl (by decide) rfl (Nat.le_of_ble_eq_true rfl) rfl dX1_pick_41 (fun r41 m41 => (show zG P G _ _ 44 _ _ from ?_))
    exact z_iret ok dX1_pick_44
  · refine z_aload_n ok 0 dX1_pick_45 rfl (show zG P G _ _ 46 _ _ from ?_)
    refine z_aload_n ok 0 dX1_pick_46 rfl (show zG P G _ _ 47 _ _ from ?_)
    refine z_getR ok fd_22 h_a0 (Or.inl rfl) tf_X1_19 dX1_pick_47 (fun b47 h_b47 => (show zG P G _ _ 50 _ _ from ?_))
    refine z_iload_n ok 1 dX1_pick_50 rfl (show zG P G _ _ 51 _ _ from ?_)
    refine z_aald ok ek_15 h_b47 dX1_pick_51 (fun b51 h_b51 => (show zG P G _ _ 52 _ _ from ?_))
    refine z_iload_n ok 2 dX1_pick_52 rfl (show zG P G _ _ 53 _ _ from ?_)
    refine z_callVi ok [.ref b51, .int i2] (m_X1_pickSticky _ ok.p h_a0 h_b51) cv_X1_200 h_a0 rfl (by decide) rfl (Nat.le_of_ble_eq_true rfl) rfl dX1_pick_53 (fun r53 m53 => (show zG P G _ _ 56 _ _ from ?_))
    exact z_iret ok dX1_pick_56
  · refine z_aload_n ok 0 dX1_pick_57 rfl (show zG P G _ _ 58 _ _ from ?_)
    refine z_getR ok fd_20 h_a0 (Or.inl rfl) tf_X1_11 dX1_pick_58 (fun b58 h_b58 => (show zG P G _ _ 61 _ _ from ?_))
    refine z_aload_n ok 0 dX1_pick_61 rfl (show zG P G _ _ 62 _ _ from ?_)
    refine z_get ok fd_21 h_a0 (Or.inl rfl) tf_X1_43 dX1_pick_62 (show zG P G _ _ 65 _ _ from ?_)
    refine z_callSi ok [.ref b58, .int (zf m3 21 a0)] (m_X9_chooseByWeights_13 _ ok.p h_b58) cv_X1_155 rfl (by decide) rfl (Nat.le_of_ble_eq_true rfl) rfl dX1_pick_65 (fun r65 m65 => (show zG P G _ _ 68 _ _ from ?_))
    exact z_iret ok dX1_pick_68
set_option maxRecDepth 100000 in
set_option maxHeartbeats 4000000 in
theorem m_X5_earnTokens (l : Launch) {P : zSt} (hP : zOKP P) {a0 : Nat} (h_a0 : zT P 5 a0) : zMet l P yX5_earnTokens cX5_earnTokens 1 1 21 none [.ref a0] (fun m => f_X5_earnTokens P a0 m) := by
  refine zMet.of hP (by decide +kernel) RX5 rfl [(0, .ref a0)] (fun h => h) (Nat.le_of_ble_eq_true rfl) (fun G m ok => ?_)
  show zG P G (f_X5_earnTokens P a0 m) m 0 _ []
  unfold f_X5_earnTokens
  refine z_aload_n ok 0 dX5_earnTokens_0 rfl (show zG P G _ _ 1 _ _ from ?_)
  refine z_sipush ok (1000 : Int32) dX5_earnTokens_1 (by decide) (show zG P G _ _ 4 _ _ from ?_)
  refine z_aload_n ok 0 dX5_earnTokens_4 rfl (show zG P G _ _ 5 _ _ from ?_)
  refine z_get ok fd_105 h_a0 (Or.inl rfl) tf_X5_27 dX5_earnTokens_5 (show zG P G _ _ 8 _ _ from ?_)
  refine z_aload_n ok 0 dX5_earnTokens_8 rfl (show zG P G _ _ 9 _ _ from ?_)
  refine z_get ok fd_104 h_a0 (Or.inl rfl) tf_X5_24 dX5_earnTokens_9 (show zG P G _ _ 12 _ _ from ?_)
  refine z_iadd ok dX5_earnTokens_12 (show zG P G _ _ 13 _ _ from ?_)
  refine z_min ok tm_676 tms_min tmi tmc_min ⟨by decide, Nat.le_of_ble_eq_true rfl⟩ dX5_earnTokens_13 (show zG P G _ _ 16 _ _ from ?_)
  refine z_put ok fd_105 h_a0 (Or.inl rfl) tf_X5_27 dX5_earnTokens_16 (fun m16 => (show zG P G _ _ 19 _ _ from ?_))
  exact z_vret ok dX5_earnTokens_19
set_option maxRecDepth 100000 in
set_option maxHeartbeats 4000000 in
theorem t_X1_serve_b161 {P : zSt} {G : zC} (ok : zOK P G RX1 cX1_serve 8 4 89 (some .int)) (rec_63 : Nat → Int32 → Int32 → Int32 → Int32 → Int32 → Int32 → zM → Option (Int32 × zM)) (hr_63 : ∀ (a0 : Nat) (x1 : Int32) (x2 : Int32) (x3 : Int32) (x4 : Int32) (x5 : Int32) (x6 : Int32) (m : zM), zT P 1 a0 → zG P G (rec_63 a0 x1 x2 x3 x4 x5 x6 m) m 63 [(0, .ref a0), (1, .int x1), (2, .int x2), (3, .int x3), (4, .int x4), (5, .int x5), (6, .int x6)] []) {a0 : Nat} {x1 : Int32} {x2 : Int32} {x3 : Int32} {x4 : Int32} {x6 : Int32} {s0 : Int32} {m : zM} (h_a0 : zT P 1 a0) : zG P G (f_X1_serve_b161 P rec_63 a0 x1 x2 x3 x4 x6 s0 m) m 161 [(0, .ref a0), (1, .int x1), (2, .int x2), (3, .int x3), (4, .int x4), (6, .int x6)] [.int s0] := by
  unfold f_X1_serve_b161
  refine z_istore0 ok [(5, .int s0), (0, .ref a0), (1, .int x1), (2, .int x2), (3, .int x3), (4, .int x4), (6, .int x6)] dX1_serve_161 (by decide) rfl (show zG P G _ _ 163 _ _ from ?_)
  refine z_iinc ok (fun v163 => [(6, .int v163), (5, .int s0), (0, .ref a0), (1, .int x1), (2, .int x2), (3, .int x3), (4, .int x4)]) 6 dX1_serve_163 rfl (by decide) (by decide) (fun _ => rfl) (fun v163 => (show zG P G _ _ 166 _ _ from ?_))
  refine z_goto ok 63 dX1_serve_166 (by decide) ?_
  exact z_sub [2, 3, 4, 5, 6, 1, 0] [(0, .ref a0), (1, .int x1), (2, .int x2), (3, .int x3), (4, .int x4), (5, .int s0), (6, .int v163)] rfl (hr_63 _ _ _ _ _ _ _ _ h_a0)
set_option maxRecDepth 100000 in
set_option maxHeartbeats 4000000 in
theorem t_X1_serve_b160 {P : zSt} {G : zC} (ok : zOK P G RX1 cX1_serve 8 4 89 (some .int)) (rec_63 : Nat → Int32 → Int32 → Int32 → Int32 → Int32 → Int32 → zM → Option (Int32 × zM)) (hr_63 : ∀ (a0 : Nat) (x1 : Int32) (x2 : Int32) (x3 : Int32) (x4 : Int32) (x5 : Int32) (x6 : Int32) (m : zM), zT P 1 a0 → zG P G (rec_63 a0 x1 x2 x3 x4 x5 x6 m) m 63 [(0, .ref a0), (1, .int x1), (2, .int x2), (3, .int x3), (4, .int x4), (5, .int x5), (6, .int x6)] []) {a0 : Nat} {x1 : Int32} {x2 : Int32} {x3 : Int32} {x4 : Int32} {x6 : Int32} {m : zM} (h_a0 : zT P 1 a0) : zG P G (f_X1_serve_b160 P rec_63 a0 x1 x2 x3 x4 x6 m) m 160 [(0, .ref a0), (1, .int x1), (2, .int x2), (3, .int x3), (4, .int x4), (6, .int x6)] [] := by
  unfold f_X1_serve_b160
  refine z_iconst ok (0 : Int32) dX1_serve_160 (by decide) (show zG P G _ _ 161 _ _ from ?_)
  exact z_sub [0, 1, 2, 3, 4, 5] [(0, .ref a0), (1, .int x1), (2, .int x2), (3, .int x3), (4, .int x4), (6, .int x6)] rfl (t_X1_serve_b161 ok rec_63 hr_63 h_a0)
set_option maxRecDepth 100000 in
set_option maxHeartbeats 4000000 in
theorem t_X1_serve_b95 {P : zSt} {G : zC} (ok : zOK P G RX1 cX1_serve 8 4 89 (some .int)) (rec_63 : Nat → Int32 → Int32 → Int32 → Int32 → Int32 → Int32 → zM → Option (Int32 × zM)) (hr_63 : ∀ (a0 : Nat) (x1 : Int32) (x2 : Int32) (x3 : Int32) (x4 : Int32) (x5 : Int32) (x6 : Int32) (m : zM), zT P 1 a0 → zG P G (rec_63 a0 x1 x2 x3 x4 x5 x6 m) m 63 [(0, .ref a0), (1, .int x1), (2, .int x2), (3, .int x3), (4, .int x4), (5, .int x5), (6, .int x6)] []) {a0 : Nat} {x1 : Int32} {x2 : Int32} {x3 : Int32} {x4 : Int32} {x6 : Int32} {m : zM} (h_a0 : zT P 1 a0) : zG P G (f_X1_serve_b95 P rec_63 a0 x1 x2 x3 x4 x6 m) m 95 [(0, .ref a0), (1, .int x1), (2, .int x2), (3, .int x3), (4, .int x4), (6, .int x6)] [] := by
  unfold f_X1_serve_b95
  refine z_aload_n ok 0 dX1_serve_95 rfl (show zG P G _ _ 96 _ _ from ?_)
  refine z_iload_n ok 1 dX1_serve_96 rfl (show zG P G _ _ 97 _ _ from ?_)
  refine z_iload_n ok 3 dX1_serve_97 rfl (show zG P G _ _ 98 _ _ from ?_)
  refine z_iload ok 4 dX1_serve_98 rfl (show zG P G _ _ 100 _ _ from ?_)
  refine z_callVi ok [.int x1, .int x3, .int x4] (m_X1_pick _ ok.p h_a0) cv_X1_182 h_a0 rfl (by decide) rfl (Nat.le_of_ble_eq_true rfl) rfl dX1_serve_100 (fun r100 m100 => (show zG P G _ _ 103 _ _ from ?_))
  refine z_istore0 ok [(7, .int r100), (0, .ref a0), (1, .int x1), (2, .int x2), (3, .int x3), (4, .int x4), (6, .int x6)] dX1_serve_103 (by decide) rfl (show zG P G _ _ 105 _ _ from ?_)
  refine z_aload_n ok 1 dX1_serve_105 rfl (show zG P G _ _ 106 _ _ from ?_)
  refine z_iload ok 0 dX1_serve_106 rfl (show zG P G _ _ 108 _ _ from ?_)
  refine z_iload ok 5 dX1_serve_108 rfl (show zG P G _ _ 110 _ _ from ?_)
  refine z_callVi ok [.int r100, .int x4] (m_X1_attempt _ ok.p h_a0) cv_X1_186 h_a0 rfl (by decide) rfl (Nat.le_of_ble_eq_true rfl) rfl dX1_serve_110 (fun r110 m110 => (show zG P G _ _ 113 _ _ from ?_))
  refine z_if_eq ok 134 dX1_serve_113 (by decide) ?_ (show zG P G _ _ 116 _ _ from ?_)
  · refine z_aload_n ok 1 dX1_serve_134 rfl (show zG P G _ _ 135 _ _ from ?_)
    refine z_iload_n ok 2 dX1_serve_135 rfl (show zG P G _ _ 136 _ _ from ?_)
    refine z_callVi ok [.int x1] (m_X1_gatherCandidates _ ok.p h_a0) cv_X1_176 h_a0 rfl (by decide) rfl (Nat.le_of_ble_eq_true rfl) rfl dX1_serve_136 (fun r136 m136 => (show zG P G _ _ 139 _ _ from ?_))
    refine z_if_eq ok 160 dX1_serve_139 (by decide) ?_ (show zG P G _ _ 142 _ _ from ?_)
    · exact z_sub [1, 2, 3, 4, 5, 6] [(0, .ref a0), (1, .int x1), (2, .int x2), (3, .int x3), (4, .int x4), (6, .int x6)] rfl (t_X1_serve_b160 ok rec_63 hr_63 h_a0)
    · refine z_aload_n ok 1 dX1_serve_142 rfl (show zG P G _ _ 143 _ _ from ?_)
      refine z_getR ok fd_22 h_a0 (Or.inl rfl) tf_X1_19 dX1_serve_143 (fun b143 h_b143 => (show zG P G _ _ 146 _ _ from ?_))
      refine z_iload_n ok 2 dX1_serve_146 rfl (show zG P G _ _ 147 _ _ from ?_)
      refine z_aald ok ek_15 h_b143 dX1_serve_147 (fun b147 h_b147 => (show zG P G _ _ 148 _ _ from ?_))
      refine z_getn ok fd_105 h_b147 (Or.inl rfl) tf_X1_179 dX1_serve_148 (show zG P G _ _ 151 _ _ from ?_)
      refine z_bipush ok (100 : Int32) dX1_serve_151 (by decide) (show zG P G _ _ 153 _ _ from ?_)
      refine z_icmp_lt ok 160 dX1_serve_153 (by decide) ?_ (show zG P G _ _ 156 _ _ from ?_)
      · exact z_sub [1, 2, 3, 4, 5, 6] [(0, .ref a0), (1, .int x1), (2, .int x2), (3, .int x3), (4, .int x4), (6, .int x6)] rfl (t_X1_serve_b160 ok rec_63 hr_63 h_a0)
      · refine z_iconst ok (1 : Int32) dX1_serve_156 (by decide) (show zG P G _ _ 157 _ _ from ?_)
        refine z_goto ok 161 dX1_serve_157 (by decide) ?_
        exact z_sub [1, 2, 3, 4, 5, 6] [(0, .ref a0), (1, .int x1), (2, .int x2), (3, .int x3), (4, .int x4), (6, .int x6)] rfl (t_X1_serve_b161 ok rec_63 hr_63 h_a0)
  · refine z_aload_n ok 1 dX1_serve_116 rfl (show zG P G _ _ 117 _ _ from ?_)
    refine z_getR ok fd_22 h_a0 (Or.inl rfl) tf_X1_19 dX1_serve_117 (fun b117 h_b117 => (show zG P G _ _ 120 _ _ from ?_))
    refine z_iload_n ok 2 dX1_serve_120 rfl (show zG P G _ _ 121 _ _ from ?_)
    refine z_aald ok ek_15 h_b117 dX1_serve_121 (fun b121 h_b121 => (show zG P G _ _ 122 _ _ from ?_))
    refine z_dup ok dX1_serve_122 rfl (show zG P G _ _ 123 _ _ from ?_)
    refine z_getn ok fd_107 h_b121 (Or.inl rfl) tf_X1_190 dX1_serve_123 (show zG P G _ _ 126 _ _ from ?_)
    refine z_iconst ok (1 : Int32) dX1_serve_126 (by decide) (show zG P G _ _ 127 _ _ from ?_)
    refine z_iadd ok dX1_serve_127 (show zG P G _ _ 128 _ _ from ?_)
    refine z_putn ok fd_107 h_b121 (Or.inl rfl) tf_X1_190 dX1_serve_128 (fun m128 => (show zG P G _ _ 131 _ _ from ?_))
    refine z_iload ok 0 dX1_serve_131 rfl (show zG P G _ _ 133 _ _ from ?_)
    exact z_iret ok dX1_serve_133
set_option maxRecDepth 100000 in
set_option maxHeartbeats 4000000 in
theorem t_X1_serve_b169 {P : zSt} {G : zC} (ok : zOK P G RX1 cX1_serve 8 4 89 (some .int))   {m : zM}  : zG P G (f_X1_serve_b169 P  m) m 169 [] [] := by
  unfold f_X1_serve_b169
  refine z_bipush ok (-6 : Int32) dX1_serve_169 (by decide) (show zG P G _ _ 171 _ _ from ?_)
  exact z_iret ok dX1_serve_171
set_option maxRecDepth 100000 in
set_option maxHeartbeats 4000000 in
theorem t_X1_serve_b63 {P : zSt} {G : zC} (ok : zOK P G RX1 cX1_serve 8 4 89 (some .int))  : ∀ (n : Nat) (a0 : Nat) (x1 : Int32) (x2 : Int32) (x3 : Int32) (x4 : Int32) (x5 : Int32) (x6 : Int32) (m : zM) (h_a0 : zT P 1 a0), zG P G (f_X1_serve_b63 P n a0 x1 x2 x3 x4 x5 x6 m) m 63 [(0, .ref a0), (1, .int x1), (2, .int x2), (3, .int x3), (4, .int x4), (5, .int x5), (6, .int x6)] [] := by
  intro n
  induction n with
  | zero =>
    intros
    exact zG_none
  | succ n ih =>
    intro a0 x1 x2 x3 x4 x5 x6 m h_a0
    unfold f_X1_serve_b63
    have hr_63 := ih
    refine z_iload ok 6 dX1_serve_63 rfl (show zG P G _ _ 65 _ _ from ?_)
    refine z_iload_n ok 2 dX1_serve_65 rfl (show zG P G _ _ 66 _ _ from ?_)
    refine z_icmp_ge ok 169 dX1_serve_66 (by decide) ?_ (show zG P G _ _ 69 _ _ from ?_)
    · exact z_sub [] [] rfl (t_X1_serve_b169 ok)
    · refine z_iload ok 5 dX1_serve_69 rfl (show zG P G _ _ 71 _ _ from ?_)
      refine z_if_eq ok 169 dX1_serve_71 (by decide) ?_ (show zG P G _ _ 74 _ _ from ?_)
      · exact z_sub [] [] rfl (t_X1_serve_b169 ok)
      · refine z_iload ok 6 dX1_serve_74 rfl (show zG P G _ _ 76 _ _ from ?_)
        refine z_if_le ok 95 dX1_serve_76 (by decide) ?_ (show zG P G _ _ 79 _ _ from ?_)
        · exact z_sub [0, 1, 2, 3, 4, 6] [(0, .ref a0), (1, .int x1), (2, .int x2), (3, .int x3), (4, .int x4), (6, .int x6)] rfl (t_X1_serve_b95 ok (f_X1_serve_b63 P n) hr_63 h_a0)
        · refine z_aload_n ok 0 dX1_serve_79 rfl (show zG P G _ _ 80 _ _ from ?_)
          refine z_getR ok fd_22 h_a0 (Or.inl rfl) tf_X1_19 dX1_serve_80 (fun b80 h_b80 => (show zG P G _ _ 83 _ _ from ?_))
          refine z_iload_n ok 1 dX1_serve_83 rfl (show zG P G _ _ 84 _ _ from ?_)
          refine z_aald ok ek_15 h_b80 dX1_serve_84 (fun b84 h_b84 => (show zG P G _ _ 85 _ _ from ?_))
          refine z_dup ok dX1_serve_85 rfl (show zG P G _ _ 86 _ _ from ?_)
          refine z_getn ok fd_105 h_b84 (Or.inl rfl) tf_X1_179 dX1_serve_86 (show zG P G _ _ 89 _ _ from ?_)
          refine z_bipush ok (100 : Int32) dX1_serve_89 (by decide) (show zG P G _ _ 91 _ _ from ?_)
          refine z_isub ok dX1_serve_91 (show zG P G _ _ 92 _ _ from ?_)
          refine z_putn ok fd_105 h_b84 (Or.inl rfl) tf_X1_179 dX1_serve_92 (fun m92 => (show zG P G _ _ 95 _ _ from ?_))
          exact z_sub [0, 1, 2, 3, 4, 6] [(0, .ref a0), (1, .int x1), (2, .int x2), (3, .int x3), (4, .int x4), (6, .int x6)] rfl (t_X1_serve_b95 ok (f_X1_serve_b63 P n) hr_63 h_a0)
set_option maxRecDepth 100000 in
set_option maxHeartbeats 4000000 in
theorem t_X1_serve_b27 {P : zSt} {G : zC} (ok : zOK P G RX1 cX1_serve 8 4 89 (some .int))  : ∀ (n : Nat) (a0 : Nat) (x1 : Int32) (x2 : Int32) (x3 : Int32) (x4 : Int32) (x5 : Int32) (m : zM) (h_a0 : zT P 1 a0), zG P G (f_X1_serve_b27 P n a0 x1 x2 x3 x4 x5 m) m 27 [(0, .ref a0), (1, .int x1), (2, .int x2), (3, .int x3), (4, .int x4), (5, .int x5)] [] := by
  intro n
  induction n with
  | zero =>
    intros
    exact zG_none
  | succ n ih =>
    intro a0 x1 x2 x3 x4 x5 m h_a0
    unfold f_X1_serve_b27
    have hr_27 := ih
    refine z_iload ok 5 dX1_serve_27 rfl (show zG P G _ _ 29 _ _ from ?_)
    refine z_aload_n ok 0 dX1_serve_29 rfl (show zG P G _ _ 30 _ _ from ?_)
    refine z_get ok fd_21 h_a0 (Or.inl rfl) tf_X1_43 dX1_serve_30 (show zG P G _ _ 33 _ _ from ?_)
    refine z_icmp_ge ok 53 dX1_serve_33 (by decide) ?_ (show zG P G _ _ 36 _ _ from ?_)
    · refine z_aload_n ok 0 dX1_serve_53 rfl (show zG P G _ _ 54 _ _ from ?_)
      refine z_iload_n ok 1 dX1_serve_54 rfl (show zG P G _ _ 55 _ _ from ?_)
      refine z_callVi ok [.int x1] (m_X1_gatherCandidates _ ok.p h_a0) cv_X1_176 h_a0 rfl (by decide) rfl (Nat.le_of_ble_eq_true rfl) rfl dX1_serve_55 (fun r55 m55 => (show zG P G _ _ 58 _ _ from ?_))
      refine z_istore0 ok [(5, .int r55), (0, .ref a0), (1, .int x1), (2, .int x2), (3, .int x3), (4, .int x4)] dX1_serve_58 (by decide) rfl (show zG P G _ _ 60 _ _ from ?_)
      refine z_iconst ok (0 : Int32) dX1_serve_60 (by decide) (show zG P G _ _ 61 _ _ from ?_)
      refine z_istore0 ok [(6, .int (0 : Int32)), (5, .int r55), (0, .ref a0), (1, .int x1), (2, .int x2), (3, .int x3), (4, .int x4)] dX1_serve_61 (by decide) rfl (show zG P G _ _ 63 _ _ from ?_)
      exact z_sub [2, 3, 4, 5, 6, 1, 0] [(0, .ref a0), (1, .int x1), (2, .int x2), (3, .int x3), (4, .int x4), (5, .int r55), (6, .int (0 : Int32))] rfl (t_X1_serve_b63 ok zfuel _ _ _ _ _ _ _ _ h_a0)
    · refine z_aload_n ok 0 dX1_serve_36 rfl (show zG P G _ _ 37 _ _ from ?_)
      refine z_getR ok fd_20 h_a0 (Or.inl rfl) tf_X1_11 dX1_serve_37 (fun b37 h_b37 => (show zG P G _ _ 40 _ _ from ?_))
      refine z_iload ok 5 dX1_serve_40 rfl (show zG P G _ _ 42 _ _ from ?_)
      refine z_aald ok ek_13 h_b37 dX1_serve_42 (fun b42 h_b42 => (show zG P G _ _ 43 _ _ from ?_))
      refine z_iconst ok (0 : Int32) dX1_serve_43 (by decide) (show zG P G _ _ 44 _ _ from ?_)
      refine z_putZn ok fd_13 h_b42 (Or.inl rfl) tf_X1_173 dX1_serve_44 (fun m44 => (show zG P G _ _ 47 _ _ from ?_))
      refine z_iinc ok (fun v47 => [(5, .int v47), (0, .ref a0), (1, .int x1), (2, .int x2), (3, .int x3), (4, .int x4)]) 5 dX1_serve_47 rfl (by decide) (by decide) (fun _ => rfl) (fun v47 => (show zG P G _ _ 50 _ _ from ?_))
      refine z_goto ok 27 dX1_serve_50 (by decide) ?_
      exact z_sub [1, 2, 3, 4, 5, 0] [(0, .ref a0), (1, .int x1), (2, .int x2), (3, .int x3), (4, .int x4), (5, .int v47)] rfl (hr_27 _ _ _ _ _ _ _ h_a0)
set_option maxRecDepth 100000 in
set_option maxHeartbeats 4000000 in
theorem m_X1_serve (l : Launch) {P : zSt} (hP : zOKP P) {a0 : Nat} {i1 : Int32} {i2 : Int32} {i3 : Int32} {i4 : Int32} (h_a0 : zT P 1 a0) : zMet l P yX1_serve cX1_serve 8 4 89 (some .int) [.ref a0, .int i1, .int i2, .int i3, .int i4] (fun m => f_X1_serve P a0 i1 i2 i3 i4 m) := by
  refine zMet.of hP (by decide +kernel) RX1 rfl [(0, .ref a0), (1, .int i1), (2, .int i2), (3, .int i3), (4, .int i4)] (fun h => h) (Nat.le_of_ble_eq_true rfl) (fun G m ok => ?_)
  show zG P G (f_X1_serve P a0 i1 i2 i3 i4 m) m 0 _ []
  unfold f_X1_serve
  refine z_aload_n ok 0 dX1_serve_0 rfl (show zG P G _ _ 1 _ _ from ?_)
  refine z_getR ok fd_22 h_a0 (Or.inl rfl) tf_X1_19 dX1_serve_1 (fun b1 h_b1 => (show zG P G _ _ 4 _ _ from ?_))
  refine z_iload_n ok 1 dX1_serve_4 rfl (show zG P G _ _ 5 _ _ from ?_)
  refine z_aald ok ek_15 h_b1 dX1_serve_5 (fun b5 h_b5 => (show zG P G _ _ 6 _ _ from ?_))
  refine z_dup ok dX1_serve_6 rfl (show zG P G _ _ 7 _ _ from ?_)
  refine z_getn ok fd_106 h_b5 (Or.inl rfl) tf_X1_167 dX1_serve_7 (show zG P G _ _ 10 _ _ from ?_)
  refine z_iconst ok (1 : Int32) dX1_serve_10 (by decide) (show zG P G _ _ 11 _ _ from ?_)
  refine z_iadd ok dX1_serve_11 (show zG P G _ _ 12 _ _ from ?_)
  refine z_putn ok fd_106 h_b5 (Or.inl rfl) tf_X1_167 dX1_serve_12 (fun m12 => (show zG P G _ _ 15 _ _ from ?_))
  refine z_aload_n ok 0 dX1_serve_15 rfl (show zG P G _ _ 16 _ _ from ?_)
  refine z_getR ok fd_22 h_a0 (Or.inl rfl) tf_X1_19 dX1_serve_16 (fun b16 h_b16 => (show zG P G _ _ 19 _ _ from ?_))
  refine z_iload_n ok 1 dX1_serve_19 rfl (show zG P G _ _ 20 _ _ from ?_)
  refine z_aald ok ek_15 h_b16 dX1_serve_20 (fun b20 h_b20 => (show zG P G _ _ 21 _ _ from ?_))
  refine z_callVv ok [] (m_X5_earnTokens _ ok.p h_b20) cv_X1_170 h_b20 rfl (by decide) rfl (Nat.le_of_ble_eq_true rfl) rfl dX1_serve_21 (fun _ m21 => (show zG P G _ _ 24 _ _ from ?_))
  refine z_iconst ok (0 : Int32) dX1_serve_24 (by decide) (show zG P G _ _ 25 _ _ from ?_)
  refine z_istore0 ok [(5, .int (0 : Int32)), (0, .ref a0), (1, .int i1), (2, .int i2), (3, .int i3), (4, .int i4)] dX1_serve_25 (by decide) rfl (show zG P G _ _ 27 _ _ from ?_)
  exact z_sub [1, 2, 3, 4, 5, 0] [(0, .ref a0), (1, .int i1), (2, .int i2), (3, .int i3), (4, .int i4), (5, .int (0 : Int32))] rfl (t_X1_serve_b27 ok zfuel _ _ _ _ _ _ _ h_a0)
set_option maxRecDepth 100000 in
set_option maxHeartbeats 4000000 in
theorem m_X1_tally (l : Launch) {P : zSt} (hP : zOKP P) {a0 : Nat} {i1 : Int32} (h_a0 : zT P 1 a0) : zMet l P yX1_tally cX1_tally 2 0 0 none [.ref a0, .int i1] (fun m => f_X1_tally P a0 i1 m) := by
  refine zMet.of hP (by decide +kernel) RX1 rfl [(0, .ref a0), (1, .int i1)] (fun h => h) (Nat.le_of_ble_eq_true rfl) (fun G m ok => ?_)
  show zG P G (f_X1_tally P a0 i1 m) m 0 _ []
  unfold f_X1_tally
  refine z_aload_n ok 0 dX1_tally_0 rfl (show zG P G _ _ 1 _ _ from ?_)
  refine z_dup ok dX1_tally_1 rfl (show zG P G _ _ 2 _ _ from ?_)
  refine z_get ok fd_27 h_a0 (Or.inl rfl) tf_X1_62 dX1_tally_2 (show zG P G _ _ 5 _ _ from ?_)
  refine z_iconst ok (1 : Int32) dX1_tally_5 (by decide) (show zG P G _ _ 6 _ _ from ?_)
  refine z_iadd ok dX1_tally_6 (show zG P G _ _ 7 _ _ from ?_)
  refine z_put ok fd_27 h_a0 (Or.inl rfl) tf_X1_62 dX1_tally_7 (fun m7 => (show zG P G _ _ 10 _ _ from ?_))
  refine z_iload_n ok 1 dX1_tally_10 rfl (show zG P G _ _ 11 _ _ from ?_)
  refine z_tsw ok 75 [62, 49, 36] dX1_tally_11 (by decide) (by decide) (by decide) ⟨?_, ?_, ?_, trivial⟩ ?_
  · refine z_aload_n ok 0 dX1_tally_62 rfl (show zG P G _ _ 63 _ _ from ?_)
    refine z_dup ok dX1_tally_63 rfl (show zG P G _ _ 64 _ _ from ?_)
    refine z_get ok fd_31 h_a0 (Or.inl rfl) tf_X1_74 dX1_tally_64 (show zG P G _ _ 67 _ _ from ?_)
    refine z_iconst ok (1 : Int32) dX1_tally_67 (by decide) (show zG P G _ _ 68 _ _ from ?_)
    refine z_iadd ok dX1_tally_68 (show zG P G _ _ 69 _ _ from ?_)
    refine z_put ok fd_31 h_a0 (Or.inl rfl) tf_X1_74 dX1_tally_69 (fun m69 => (show zG P G _ _ 72 _ _ from ?_))
    refine z_goto ok 85 dX1_tally_72 (by decide) ?_
    exact z_vret ok dX1_tally_85
  · refine z_aload_n ok 0 dX1_tally_49 rfl (show zG P G _ _ 50 _ _ from ?_)
    refine z_dup ok dX1_tally_50 rfl (show zG P G _ _ 51 _ _ from ?_)
    refine z_get ok fd_30 h_a0 (Or.inl rfl) tf_X1_71 dX1_tally_51 (show zG P G _ _ 54 _ _ from ?_)
    refine z_iconst ok (1 : Int32) dX1_tally_54 (by decide) (show zG P G _ _ 55 _ _ from ?_)
    refine z_iadd ok dX1_tally_55 (show zG P G _ _ 56 _ _ from ?_)
    refine z_put ok fd_30 h_a0 (Or.inl rfl) tf_X1_71 dX1_tally_56 (fun m56 => (show zG P G _ _ 59 _ _ from ?_))
    refine z_goto ok 85 dX1_tally_59 (by decide) ?_
    exact z_vret ok dX1_tally_85
  · refine z_aload_n ok 0 dX1_tally_36 rfl (show zG P G _ _ 37 _ _ from ?_)
    refine z_dup ok dX1_tally_37 rfl (show zG P G _ _ 38 _ _ from ?_)
    refine z_get ok fd_29 h_a0 (Or.inl rfl) tf_X1_68 dX1_tally_38 (show zG P G _ _ 41 _ _ from ?_)
    refine z_iconst ok (1 : Int32) dX1_tally_41 (by decide) (show zG P G _ _ 42 _ _ from ?_)
    refine z_iadd ok dX1_tally_42 (show zG P G _ _ 43 _ _ from ?_)
    refine z_put ok fd_29 h_a0 (Or.inl rfl) tf_X1_68 dX1_tally_43 (fun m43 => (show zG P G _ _ 46 _ _ from ?_))
    refine z_goto ok 85 dX1_tally_46 (by decide) ?_
    exact z_vret ok dX1_tally_85
  · refine z_aload_n ok 0 dX1_tally_75 rfl (show zG P G _ _ 76 _ _ from ?_)
    refine z_dup ok dX1_tally_76 rfl (show zG P G _ _ 77 _ _ from ?_)
    refine z_get ok fd_28 h_a0 (Or.inl rfl) tf_X1_65 dX1_tally_77 (show zG P G _ _ 80 _ _ from ?_)
    refine z_iconst ok (1 : Int32) dX1_tally_80 (by decide) (show zG P G _ _ 81 _ _ from ?_)
    refine z_iadd ok dX1_tally_81 (show zG P G _ _ 82 _ _ from ?_)
    refine z_put ok fd_28 h_a0 (Or.inl rfl) tf_X1_65 dX1_tally_82 (fun m82 => (show zG P G _ _ 85 _ _ from ?_))
    exact z_vret ok dX1_tally_85
set_option maxRecDepth 100000 in
set_option maxHeartbeats 4000000 in
theorem t_X1_answer_b75 {P : zSt} {G : zC} (ok : zOK P G RX1 cX1_answer 6 5 116 (some .int))  {a0 : Nat} {x4 : Int32} {m : zM} (h_a0 : zT P 1 a0) : zG P G (f_X1_answer_b75 P a0 x4 m) m 75 [(0, .ref a0), (4, .int x4)] [] := by
  unfold f_X1_answer_b75
  refine z_aload_n ok 0 dX1_answer_75 rfl (show zG P G _ _ 76 _ _ from ?_)
  refine z_iload ok 1 dX1_answer_76 rfl (show zG P G _ _ 78 _ _ from ?_)
  refine z_callVv ok [.int x4] (m_X1_tally _ ok.p h_a0) cv_X1_133 h_a0 rfl (by decide) rfl (Nat.le_of_ble_eq_true rfl) rfl dX1_answer_78 (fun _ m78 => (show zG P G _ _ 81 _ _ from ?_))
  refine z_iload ok 1 dX1_answer_81 rfl (show zG P G _ _ 83 _ _ from ?_)
  exact z_iret ok dX1_answer_83
set_option maxRecDepth 100000 in
set_option maxHeartbeats 4000000 in
theorem t_X1_answer_b60 {P : zSt} {G : zC} (ok : zOK P G RX1 cX1_answer 6 5 116 (some .int))  {a0 : Nat} {x1 : Int32} {s0 : Int32} {m : zM} (h_a0 : zT P 1 a0) : zG P G (f_X1_answer_b60 P a0 x1 s0 m) m 60 [(0, .ref a0), (1, .int x1)] [.int s0] := by
  unfold f_X1_answer_b60
  refine z_istore0 ok [(4, .int s0), (0, .ref a0), (1, .int x1)] dX1_answer_60 (by decide) rfl (show zG P G _ _ 62 _ _ from ?_)
  refine z_aload_n ok 1 dX1_answer_62 rfl (show zG P G _ _ 63 _ _ from ?_)
  refine z_aload_n ok 1 dX1_answer_63 rfl (show zG P G _ _ 64 _ _ from ?_)
  refine z_getR ok fd_23 h_a0 (Or.inl rfl) tf_X1_25 dX1_answer_64 (fun b64 h_b64 => (show zG P G _ _ 67 _ _ from ?_))
  refine z_iload_n ok 2 dX1_answer_67 rfl (show zG P G _ _ 68 _ _ from ?_)
  refine z_aald ok ek_14 h_b64 dX1_answer_68 (fun b68 h_b68 => (show zG P G _ _ 69 _ _ from ?_))
  refine z_getn ok fd_66 h_b68 (Or.inl rfl) tf_X1_101 dX1_answer_69 (show zG P G _ _ 72 _ _ from ?_)
  refine z_callVv ok [.int (zf m 66 b68)] (m_X1_mirror _ ok.p h_a0) cv_X1_129 h_a0 rfl (by decide) rfl (Nat.le_of_ble_eq_true rfl) rfl dX1_answer_72 (fun _ m72 => (show zG P G _ _ 75 _ _ from ?_))
  exact z_sub [1, 0] [(0, .ref a0), (4, .int s0)] rfl (t_X1_answer_b75 ok h_a0)
set_option maxRecDepth 100000 in
set_option maxHeartbeats 4000000 in
theorem m_X1_answer (l : Launch) {P : zSt} (hP : zOKP P) {a0 : Nat} {i1 : Int32} {i2 : Int32} {i3 : Int32} (h_a0 : zT P 1 a0) : zMet l P yX1_answer cX1_answer 6 5 116 (some .int) [.ref a0, .int i1, .int i2, .int i3] (fun m => f_X1_answer P a0 i1 i2 i3 m) := by
  refine zMet.of hP (by decide +kernel) RX1 rfl [(0, .ref a0), (1, .int i1), (2, .int i2), (3, .int i3)] (fun h => h) (Nat.le_of_ble_eq_true rfl) (fun G m ok => ?_)
  show zG P G (f_X1_answer P a0 i1 i2 i3 m) m 0 _ []
  unfold f_X1_answer
  refine z_aload_n ok 0 dX1_answer_0 rfl (show zG P G _ _ 1 _ _ from ?_)
  refine z_getR ok fd_35 h_a0 (Or.inl rfl) tf_X1_36 dX1_answer_1 (fun b1 h_b1 => (show zG P G _ _ 4 _ _ from ?_))
  refine z_iconst ok (0 : Int32) dX1_answer_4 (by decide) (show zG P G _ _ 5 _ _ from ?_)
  refine z_putn ok fd_161 h_b1 (Or.inl rfl) tf_X1_114 dX1_answer_5 (fun m5 => (show zG P G _ _ 8 _ _ from ?_))
  refine z_bipush ok (-4 : Int32) dX1_answer_8 (by decide) (show zG P G _ _ 10 _ _ from ?_)
  refine z_istore0 ok [(4, .int (-4 : Int32)), (0, .ref a0), (1, .int i1), (2, .int i2), (3, .int i3)] dX1_answer_10 (by decide) rfl (show zG P G _ _ 12 _ _ from ?_)
  refine z_aload_n ok 1 dX1_answer_12 rfl (show zG P G _ _ 13 _ _ from ?_)
  refine z_iload_n ok 2 dX1_answer_13 rfl (show zG P G _ _ 14 _ _ from ?_)
  refine z_callVi ok [.int i1] (m_X1_hasRule _ ok.p h_a0) cv_X1_117 h_a0 rfl (by decide) rfl (Nat.le_of_ble_eq_true rfl) rfl dX1_answer_14 (fun r14 m14 => (show zG P G _ _ 17 _ _ from ?_))
  refine z_if_eq ok 75 dX1_answer_17 (by decide) ?_ (show zG P G _ _ 20 _ _ from ?_)
  · exact z_sub [1, 0] [(0, .ref a0), (4, .int (-4 : Int32))] rfl (t_X1_answer_b75 ok h_a0)
  · refine z_aload_n ok 1 dX1_answer_20 rfl (show zG P G _ _ 21 _ _ from ?_)
    refine z_aload_n ok 1 dX1_answer_21 rfl (show zG P G _ _ 22 _ _ from ?_)
    refine z_getR ok fd_23 h_a0 (Or.inl rfl) tf_X1_25 dX1_answer_22 (fun b22 h_b22 => (show zG P G _ _ 25 _ _ from ?_))
    refine z_iload_n ok 2 dX1_answer_25 rfl (show zG P G _ _ 26 _ _ from ?_)
    refine z_aald ok ek_14 h_b22 dX1_answer_26 (fun b26 h_b26 => (show zG P G _ _ 27 _ _ from ?_))
    refine z_callVi ok [.ref b26] (m_X1_chooseService _ ok.p h_a0 h_b26) cv_X1_121 h_a0 rfl (by decide) rfl (Nat.le_of_ble_eq_true rfl) rfl dX1_answer_27 (fun r27 m27 => (show zG P G _ _ 30 _ _ from ?_))
    refine z_istore0 ok [(5, .int r27), (4, .int (-4 : Int32)), (0, .ref a0), (1, .int i1), (2, .int i2), (3, .int i3)] dX1_answer_30 (by decide) rfl (show zG P G _ _ 32 _ _ from ?_)
    refine z_iload ok 0 dX1_answer_32 rfl (show zG P G _ _ 34 _ _ from ?_)
    refine z_iconst ok (-1 : Int32) dX1_answer_34 (by decide) (show zG P G _ _ 35 _ _ from ?_)
    refine z_icmp_ne ok 43 dX1_answer_35 (by decide) ?_ (show zG P G _ _ 38 _ _ from ?_)
    · refine z_aload_n ok 2 dX1_answer_43 rfl (show zG P G _ _ 44 _ _ from ?_)
      refine z_iload ok 0 dX1_answer_44 rfl (show zG P G _ _ 46 _ _ from ?_)
      refine z_aload_n ok 2 dX1_answer_46 rfl (show zG P G _ _ 47 _ _ from ?_)
      refine z_getR ok fd_23 h_a0 (Or.inl rfl) tf_X1_25 dX1_answer_47 (fun b47 h_b47 => (show zG P G _ _ 50 _ _ from ?_))
      refine z_iload_n ok 3 dX1_answer_50 rfl (show zG P G _ _ 51 _ _ from ?_)
      refine z_aald ok ek_14 h_b47 dX1_answer_51 (fun b51 h_b51 => (show zG P G _ _ 52 _ _ from ?_))
      refine z_getn ok fd_65 h_b51 (Or.inl rfl) tf_X1_104 dX1_answer_52 (show zG P G _ _ 55 _ _ from ?_)
      refine z_iload_n ok 4 dX1_answer_55 rfl (show zG P G _ _ 56 _ _ from ?_)
      refine z_iload_n ok 5 dX1_answer_56 rfl (show zG P G _ _ 57 _ _ from ?_)
      refine z_callVi ok [.int r27, .int (zf m27 65 b51), .int i2, .int i3] (m_X1_serve _ ok.p h_a0) cv_X1_125 h_a0 rfl (by decide) rfl (Nat.le_of_ble_eq_true rfl) rfl dX1_answer_57 (fun r57 m57 => (show zG P G _ _ 60 _ _ from ?_))
      exact z_sub [2, 3] [(0, .ref a0), (1, .int i1)] rfl (t_X1_answer_b60 ok h_a0)
    · refine z_bipush ok (-5 : Int32) dX1_answer_38 (by decide) (show zG P G _ _ 40 _ _ from ?_)
      refine z_goto ok 60 dX1_answer_40 (by decide) ?_
      exact z_sub [2, 3] [(0, .ref a0), (1, .int i1)] rfl (t_X1_answer_b60 ok h_a0)
set_option maxRecDepth 100000 in
set_option maxHeartbeats 4000000 in
theorem m_X1_serviceProperty (l : Launch) {P : zSt} (hP : zOKP P) {a0 : Nat} {i1 : Int32} {i2 : Int32} (h_a0 : zT P 1 a0) : zMet l P yX1_serviceProperty cX1_serviceProperty 4 1 25 (some .int) [.ref a0, .int i1, .int i2] (fun m => f_X1_serviceProperty P a0 i1 i2 m) := by
  refine zMet.of hP (by decide +kernel) RX1 rfl [(0, .ref a0), (1, .int i1), (2, .int i2)] (fun h => h) (Nat.le_of_ble_eq_true rfl) (fun G m ok => ?_)
  show zG P G (f_X1_serviceProperty P a0 i1 i2 m) m 0 _ []
  unfold f_X1_serviceProperty
  refine z_aload_n ok 0 dX1_serviceProperty_0 rfl (show zG P G _ _ 1 _ _ from ?_)
  refine z_getR ok fd_22 h_a0 (Or.inl rfl) tf_X1_19 dX1_serviceProperty_1 (fun b1 h_b1 => (show zG P G _ _ 4 _ _ from ?_))
  refine z_iload_n ok 1 dX1_serviceProperty_4 rfl (show zG P G _ _ 5 _ _ from ?_)
  refine z_aald ok ek_15 h_b1 dX1_serviceProperty_5 (fun b5 h_b5 => (show zG P G _ _ 6 _ _ from ?_))
  refine z_astore_n ok [(3, .ref b5), (0, .ref a0), (1, .int i1), (2, .int i2)] dX1_serviceProperty_6 (by decide) rfl (show zG P G _ _ 7 _ _ from ?_)
  refine z_iload_n ok 3 dX1_serviceProperty_7 rfl (show zG P G _ _ 8 _ _ from ?_)
  refine z_tsw ok 151 [76, 81, 86, 91, 96, 101, 106, 113, 120, 125, 130, 137, 144] dX1_serviceProperty_8 (by decide) (by decide) (by decide) ⟨?_, ?_, ?_, ?_, ?_, ?_, ?_, ?_, ?_, ?_, ?_, ?_, ?_, trivial⟩ ?_
  · refine z_aload_n ok 0 dX1_serviceProperty_76 rfl (show zG P G _ _ 77 _ _ from ?_)
    refine z_getn ok fd_100 h_b5 (Or.inl rfl) tf_X1_111 dX1_serviceProperty_77 (show zG P G _ _ 80 _ _ from ?_)
    exact z_iret ok dX1_serviceProperty_80
  · refine z_aload_n ok 0 dX1_serviceProperty_81 rfl (show zG P G _ _ 82 _ _ from ?_)
    refine z_getn ok fd_101 h_b5 (Or.inl rfl) tf_X1_108 dX1_serviceProperty_82 (show zG P G _ _ 85 _ _ from ?_)
    exact z_iret ok dX1_serviceProperty_85
  · refine z_aload_n ok 0 dX1_serviceProperty_86 rfl (show zG P G _ _ 87 _ _ from ?_)
    refine z_getn ok fd_102 h_b5 (Or.inl rfl) tf_X1_235 dX1_serviceProperty_87 (show zG P G _ _ 90 _ _ from ?_)
    exact z_iret ok dX1_serviceProperty_90
  · refine z_aload_n ok 0 dX1_serviceProperty_91 rfl (show zG P G _ _ 92 _ _ from ?_)
    refine z_getn ok fd_103 h_b5 (Or.inl rfl) tf_X1_252 dX1_serviceProperty_92 (show zG P G _ _ 95 _ _ from ?_)
    exact z_iret ok dX1_serviceProperty_95
  · refine z_aload_n ok 0 dX1_serviceProperty_96 rfl (show zG P G _ _ 97 _ _ from ?_)
    refine z_getn ok fd_104 h_b5 (Or.inl rfl) tf_X1_259 dX1_serviceProperty_97 (show zG P G _ _ 100 _ _ from ?_)
    exact z_iret ok dX1_serviceProperty_100
  · refine z_aload_n ok 0 dX1_serviceProperty_101 rfl (show zG P G _ _ 102 _ _ from ?_)
    refine z_getn ok fd_105 h_b5 (Or.inl rfl) tf_X1_179 dX1_serviceProperty_102 (show zG P G _ _ 105 _ _ from ?_)
    exact z_iret ok dX1_serviceProperty_105
  · refine z_aload_n ok 1 dX1_serviceProperty_106 rfl (show zG P G _ _ 107 _ _ from ?_)
    refine z_iload_n ok 2 dX1_serviceProperty_107 rfl (show zG P G _ _ 108 _ _ from ?_)
    refine z_iconst ok (0 : Int32) dX1_serviceProperty_108 (by decide) (show zG P G _ _ 109 _ _ from ?_)
    refine z_callVi ok [.int i1, .int (0 : Int32)] (m_X1_countMembers _ ok.p h_a0) cv_X1_248 h_a0 rfl (by decide) rfl (Nat.le_of_ble_eq_true rfl) rfl dX1_serviceProperty_109 (fun r109 m109 => (show zG P G _ _ 112 _ _ from ?_))
    exact z_iret ok dX1_serviceProperty_112
  · refine z_aload_n ok 1 dX1_serviceProperty_113 rfl (show zG P G _ _ 114 _ _ from ?_)
    refine z_iload_n ok 2 dX1_serviceProperty_114 rfl (show zG P G _ _ 115 _ _ from ?_)
    refine z_iconst ok (1 : Int32) dX1_serviceProperty_115 (by decide) (show zG P G _ _ 116 _ _ from ?_)
    refine z_callVi ok [.int i1, .int (1 : Int32)] (m_X1_countMembers _ ok.p h_a0) cv_X1_248 h_a0 rfl (by decide) rfl (Nat.le_of_ble_eq_true rfl) rfl dX1_serviceProperty_116 (fun r116 m116 => (show zG P G _ _ 119 _ _ from ?_))
    exact z_iret ok dX1_serviceProperty_119
  · refine z_aload_n ok 0 dX1_serviceProperty_120 rfl (show zG P G _ _ 121 _ _ from ?_)
    refine z_getn ok fd_106 h_b5 (Or.inl rfl) tf_X1_167 dX1_serviceProperty_121 (show zG P G _ _ 124 _ _ from ?_)
    exact z_iret ok dX1_serviceProperty_124
  · refine z_aload_n ok 0 dX1_serviceProperty_125 rfl (show zG P G _ _ 126 _ _ from ?_)
    refine z_getn ok fd_107 h_b5 (Or.inl rfl) tf_X1_190 dX1_serviceProperty_126 (show zG P G _ _ 129 _ _ from ?_)
    exact z_iret ok dX1_serviceProperty_129
  · refine z_aload_n ok 0 dX1_serviceProperty_130 rfl (show zG P G _ _ 131 _ _ from ?_)
    refine z_getRn ok fd_108 h_b5 (Or.inl rfl) tf_X1_262 dX1_serviceProperty_131 (fun b131 h_b131 => (show zG P G _ _ 134 _ _ from ?_))
    refine z_iconst ok (0 : Int32) dX1_serviceProperty_134 (by decide) (show zG P G _ _ 135 _ _ from ?_)
    refine z_iald ok h_b131 dX1_serviceProperty_135 (show zG P G _ _ 136 _ _ from ?_)
    exact z_iret ok dX1_serviceProperty_136
  · refine z_aload_n ok 0 dX1_serviceProperty_137 rfl (show zG P G _ _ 138 _ _ from ?_)
    refine z_getRn ok fd_108 h_b5 (Or.inl rfl) tf_X1_262 dX1_serviceProperty_138 (fun b138 h_b138 => (show zG P G _ _ 141 _ _ from ?_))
    refine z_iconst ok (1 : Int32) dX1_serviceProperty_141 (by decide) (show zG P G _ _ 142 _ _ from ?_)
    refine z_iald ok h_b138 dX1_serviceProperty_142 (show zG P G _ _ 143 _ _ from ?_)
    exact z_iret ok dX1_serviceProperty_143
  · refine z_aload_n ok 0 dX1_serviceProperty_144 rfl (show zG P G _ _ 145 _ _ from ?_)
    refine z_getRn ok fd_108 h_b5 (Or.inl rfl) tf_X1_262 dX1_serviceProperty_145 (fun b145 h_b145 => (show zG P G _ _ 148 _ _ from ?_))
    refine z_iconst ok (2 : Int32) dX1_serviceProperty_148 (by decide) (show zG P G _ _ 149 _ _ from ?_)
    refine z_iald ok h_b145 dX1_serviceProperty_149 (show zG P G _ _ 150 _ _ from ?_)
    exact z_iret ok dX1_serviceProperty_150
  · refine z_bipush ok (-2 : Int32) dX1_serviceProperty_151 (by decide) (show zG P G _ _ 153 _ _ from ?_)
    exact z_iret ok dX1_serviceProperty_153
set_option maxRecDepth 100000 in
set_option maxHeartbeats 4000000 in
theorem m_X1_property (l : Launch) {P : zSt} (hP : zOKP P) {a0 : Nat} {i1 : Int32} (h_a0 : zT P 1 a0) : zMet l P yX1_property cX1_property 2 0 0 (some .int) [.ref a0, .int i1] (fun m => f_X1_property P a0 i1 m) := by
  refine zMet.of hP (by decide +kernel) RX1 rfl [(0, .ref a0), (1, .int i1)] (fun h => h) (Nat.le_of_ble_eq_true rfl) (fun G m ok => ?_)
  show zG P G (f_X1_property P a0 i1 m) m 0 _ []
  unfold f_X1_property
  refine z_iload_n ok 1 dX1_property_0 rfl (show zG P G _ _ 1 _ _ from ?_)
  refine z_tsw ok 115 [60, 65, 70, 75, 80, 85, 90, 95, 100, 105, 110] dX1_property_1 (by decide) (by decide) (by decide) ⟨?_, ?_, ?_, ?_, ?_, ?_, ?_, ?_, ?_, ?_, ?_, trivial⟩ ?_
  · refine z_aload_n ok 0 dX1_property_60 rfl (show zG P G _ _ 61 _ _ from ?_)
    refine z_get ok fd_21 h_a0 (Or.inl rfl) tf_X1_43 dX1_property_61 (show zG P G _ _ 64 _ _ from ?_)
    exact z_iret ok dX1_property_64
  · refine z_aload_n ok 0 dX1_property_65 rfl (show zG P G _ _ 66 _ _ from ?_)
    refine z_get ok fd_24 h_a0 (Or.inl rfl) tf_X1_53 dX1_property_66 (show zG P G _ _ 69 _ _ from ?_)
    exact z_iret ok dX1_property_69
  · refine z_aload_n ok 0 dX1_property_70 rfl (show zG P G _ _ 71 _ _ from ?_)
    refine z_get ok fd_27 h_a0 (Or.inl rfl) tf_X1_62 dX1_property_71 (show zG P G _ _ 74 _ _ from ?_)
    exact z_iret ok dX1_property_74
  · refine z_aload_n ok 0 dX1_property_75 rfl (show zG P G _ _ 76 _ _ from ?_)
    refine z_get ok fd_28 h_a0 (Or.inl rfl) tf_X1_65 dX1_property_76 (show zG P G _ _ 79 _ _ from ?_)
    exact z_iret ok dX1_property_79
  · refine z_aload_n ok 0 dX1_property_80 rfl (show zG P G _ _ 81 _ _ from ?_)
    refine z_get ok fd_29 h_a0 (Or.inl rfl) tf_X1_68 dX1_property_81 (show zG P G _ _ 84 _ _ from ?_)
    exact z_iret ok dX1_property_84
  · refine z_aload_n ok 0 dX1_property_85 rfl (show zG P G _ _ 86 _ _ from ?_)
    refine z_get ok fd_30 h_a0 (Or.inl rfl) tf_X1_71 dX1_property_86 (show zG P G _ _ 89 _ _ from ?_)
    exact z_iret ok dX1_property_89
  · refine z_aload_n ok 0 dX1_property_90 rfl (show zG P G _ _ 91 _ _ from ?_)
    refine z_get ok fd_31 h_a0 (Or.inl rfl) tf_X1_74 dX1_property_91 (show zG P G _ _ 94 _ _ from ?_)
    exact z_iret ok dX1_property_94
  · refine z_aload_n ok 0 dX1_property_95 rfl (show zG P G _ _ 96 _ _ from ?_)
    refine z_get ok fd_32 h_a0 (Or.inl rfl) tf_X1_77 dX1_property_96 (show zG P G _ _ 99 _ _ from ?_)
    exact z_iret ok dX1_property_99
  · refine z_aload_n ok 0 dX1_property_100 rfl (show zG P G _ _ 101 _ _ from ?_)
    refine z_get ok fd_33 h_a0 (Or.inl rfl) tf_X1_80 dX1_property_101 (show zG P G _ _ 104 _ _ from ?_)
    exact z_iret ok dX1_property_104
  · refine z_aload_n ok 0 dX1_property_105 rfl (show zG P G _ _ 106 _ _ from ?_)
    refine z_get ok fd_34 h_a0 (Or.inl rfl) tf_X1_83 dX1_property_106 (show zG P G _ _ 109 _ _ from ?_)
    exact z_iret ok dX1_property_109
  · refine z_aload_n ok 0 dX1_property_110 rfl (show zG P G _ _ 111 _ _ from ?_)
    refine z_get ok fd_26 h_a0 (Or.inl rfl) tf_X1_59 dX1_property_111 (show zG P G _ _ 114 _ _ from ?_)
    exact z_iret ok dX1_property_114
  · refine z_bipush ok (-2 : Int32) dX1_property_115 (by decide) (show zG P G _ _ 117 _ _ from ?_)
    exact z_iret ok dX1_property_117
set_option maxRecDepth 100000 in
set_option maxHeartbeats 4000000 in
theorem m_X2_start (l : Launch) {P : zSt} (hP : zOKP P) {a0 : Nat} (h_a0 : zT P 2 a0) : zMet l P yX2_start cX2_start 1 0 0 none [.ref a0] (fun m => f_X2_start P a0 m) := by
  refine zMet.of hP (by decide +kernel) RX2 rfl [(0, .ref a0)] (fun h => h) (Nat.le_of_ble_eq_true rfl) (fun G m ok => ?_)
  show zG P G (f_X2_start P a0 m) m 0 _ []
  unfold f_X2_start
  refine z_aload_n ok 0 dX2_start_0 rfl (show zG P G _ _ 1 _ _ from ?_)
  refine z_iconst ok (0 : Int32) dX2_start_1 (by decide) (show zG P G _ _ 2 _ _ from ?_)
  refine z_put ok fd_45 h_a0 (Or.inl rfl) tf_X2_27 dX2_start_2 (fun m2 => (show zG P G _ _ 5 _ _ from ?_))
  refine z_aload_n ok 0 dX2_start_5 rfl (show zG P G _ _ 6 _ _ from ?_)
  refine z_iconst ok (1 : Int32) dX2_start_6 (by decide) (show zG P G _ _ 7 _ _ from ?_)
  refine z_putZ ok fd_46 h_a0 (Or.inl rfl) tf_X2_31 dX2_start_7 (fun m7 => (show zG P G _ _ 10 _ _ from ?_))
  exact z_vret ok dX2_start_10
set_option maxRecDepth 100000 in
set_option maxHeartbeats 4000000 in
theorem m_X2_stop (l : Launch) {P : zSt} (hP : zOKP P) {a0 : Nat} (h_a0 : zT P 2 a0) : zMet l P yX2_stop cX2_stop 1 0 0 none [.ref a0] (fun m => f_X2_stop P a0 m) := by
  refine zMet.of hP (by decide +kernel) RX2 rfl [(0, .ref a0)] (fun h => h) (Nat.le_of_ble_eq_true rfl) (fun G m ok => ?_)
  show zG P G (f_X2_stop P a0 m) m 0 _ []
  unfold f_X2_stop
  refine z_aload_n ok 0 dX2_stop_0 rfl (show zG P G _ _ 1 _ _ from ?_)
  refine z_iconst ok (0 : Int32) dX2_stop_1 (by decide) (show zG P G _ _ 2 _ _ from ?_)
  refine z_put ok fd_45 h_a0 (Or.inl rfl) tf_X2_27 dX2_stop_2 (fun m2 => (show zG P G _ _ 5 _ _ from ?_))
  refine z_aload_n ok 0 dX2_stop_5 rfl (show zG P G _ _ 6 _ _ from ?_)
  refine z_iconst ok (0 : Int32) dX2_stop_6 (by decide) (show zG P G _ _ 7 _ _ from ?_)
  refine z_putZ ok fd_46 h_a0 (Or.inl rfl) tf_X2_31 dX2_stop_7 (fun m7 => (show zG P G _ _ 10 _ _ from ?_))
  exact z_vret ok dX2_stop_10
set_option maxRecDepth 100000 in
set_option maxHeartbeats 4000000 in
theorem t_X2_makesRoomFor_b15 {P : zSt} {G : zC} (ok : zOK P G RX2 cX2_makesRoomFor 2 1 20 (some .boolean))  {a0 : Nat} {m : zM} (h_a0 : zT P 2 a0) : zG P G (f_X2_makesRoomFor_b15 P a0 m) m 15 [(0, .ref a0)] [] := by
  unfold f_X2_makesRoomFor_b15
  refine z_aload_n ok 0 dX2_makesRoomFor_15 rfl (show zG P G _ _ 16 _ _ from ?_)
  refine z_get ok fd_46 h_a0 (Or.inl rfl) tf_X2_31 dX2_makesRoomFor_16 (show zG P G _ _ 19 _ _ from ?_)
  exact z_zret ok dX2_makesRoomFor_19
set_option maxRecDepth 100000 in
set_option maxHeartbeats 4000000 in
theorem m_X2_makesRoomFor (l : Launch) {P : zSt} (hP : zOKP P) {a0 : Nat} {i1 : Int32} (h_a0 : zT P 2 a0) : zMet l P yX2_makesRoomFor cX2_makesRoomFor 2 1 20 (some .boolean) [.ref a0, .int i1] (fun m => f_X2_makesRoomFor P a0 i1 m) := by
  refine zMet.of hP (by decide +kernel) RX2 rfl [(0, .ref a0), (1, .int i1)] (fun h => h) (Nat.le_of_ble_eq_true rfl) (fun G m ok => ?_)
  show zG P G (f_X2_makesRoomFor P a0 i1 m) m 0 _ []
  unfold f_X2_makesRoomFor
  refine z_aload_n ok 0 dX2_makesRoomFor_0 rfl (show zG P G _ _ 1 _ _ from ?_)
  refine z_get ok fd_45 h_a0 (Or.inl rfl) tf_X2_27 dX2_makesRoomFor_1 (show zG P G _ _ 4 _ _ from ?_)
  refine z_iload_n ok 1 dX2_makesRoomFor_4 rfl (show zG P G _ _ 5 _ _ from ?_)
  refine z_iadd ok dX2_makesRoomFor_5 (show zG P G _ _ 6 _ _ from ?_)
  refine z_bipush ok (60 : Int32) dX2_makesRoomFor_6 (by decide) (show zG P G _ _ 8 _ _ from ?_)
  refine z_icmp_le ok 15 dX2_makesRoomFor_8 (by decide) ?_ (show zG P G _ _ 11 _ _ from ?_)
  · exact z_sub [0] [(0, .ref a0)] rfl (t_X2_makesRoomFor_b15 ok h_a0)
  · refine z_aload_n ok 0 dX2_makesRoomFor_11 rfl (show zG P G _ _ 12 _ _ from ?_)
    refine z_callVv ok [] (m_X2_stop _ ok.p h_a0) cv_X2_39 h_a0 rfl (by decide) rfl (Nat.le_of_ble_eq_true rfl) rfl dX2_makesRoomFor_12 (fun _ m12 => (show zG P G _ _ 15 _ _ from ?_))
    exact z_sub [0] [(0, .ref a0)] rfl (t_X2_makesRoomFor_b15 ok h_a0)
set_option maxRecDepth 100000 in
set_option maxHeartbeats 4000000 in
theorem m_X2_addRequest (l : Launch) {P : zSt} (hP : zOKP P) {a0 : Nat} {i1 : Int32} {i2 : Int32} {i3 : Int32} {i4 : Int32} (h_a0 : zT P 2 a0) : zMet l P yX2_addRequest cX2_addRequest 5 2 41 none [.ref a0, .int i1, .int i2, .int i3, .int i4] (fun m => f_X2_addRequest P a0 i1 i2 i3 i4 m) := by
  refine zMet.of hP (by decide +kernel) RX2 rfl [(0, .ref a0), (1, .int i1), (2, .int i2), (3, .int i3), (4, .int i4)] (fun h => h) (Nat.le_of_ble_eq_true rfl) (fun G m ok => ?_)
  show zG P G (f_X2_addRequest P a0 i1 i2 i3 i4 m) m 0 _ []
  unfold f_X2_addRequest
  refine z_aload_n ok 0 dX2_addRequest_0 rfl (show zG P G _ _ 1 _ _ from ?_)
  refine z_iconst ok (1 : Int32) dX2_addRequest_1 (by decide) (show zG P G _ _ 2 _ _ from ?_)
  refine z_callVi ok [.int (1 : Int32)] (m_X2_makesRoomFor _ ok.p h_a0) cv_X2_35 h_a0 rfl (by decide) rfl (Nat.le_of_ble_eq_true rfl) rfl dX2_addRequest_2 (fun r2 m2 => (show zG P G _ _ 5 _ _ from ?_))
  refine z_if_eq ok 59 dX2_addRequest_5 (by decide) ?_ (show zG P G _ _ 8 _ _ from ?_)
  · exact z_vret ok dX2_addRequest_59
  · refine z_aload_n ok 0 dX2_addRequest_8 rfl (show zG P G _ _ 9 _ _ from ?_)
    refine z_getR ok fd_40 h_a0 (Or.inl rfl) tf_X2_9 dX2_addRequest_9 (fun b9 h_b9 => (show zG P G _ _ 12 _ _ from ?_))
    refine z_aload_n ok 0 dX2_addRequest_12 rfl (show zG P G _ _ 13 _ _ from ?_)
    refine z_get ok fd_45 h_a0 (Or.inl rfl) tf_X2_27 dX2_addRequest_13 (show zG P G _ _ 16 _ _ from ?_)
    refine z_iload_n ok 1 dX2_addRequest_16 rfl (show zG P G _ _ 17 _ _ from ?_)
    refine z_iast ok h_b9 dX2_addRequest_17 (fun m17 => (show zG P G _ _ 18 _ _ from ?_))
    refine z_aload_n ok 0 dX2_addRequest_18 rfl (show zG P G _ _ 19 _ _ from ?_)
    refine z_getR ok fd_41 h_a0 (Or.inl rfl) tf_X2_15 dX2_addRequest_19 (fun b19 h_b19 => (show zG P G _ _ 22 _ _ from ?_))
    refine z_aload_n ok 0 dX2_addRequest_22 rfl (show zG P G _ _ 23 _ _ from ?_)
    refine z_get ok fd_45 h_a0 (Or.inl rfl) tf_X2_27 dX2_addRequest_23 (show zG P G _ _ 26 _ _ from ?_)
    refine z_iload_n ok 2 dX2_addRequest_26 rfl (show zG P G _ _ 27 _ _ from ?_)
    refine z_iast ok h_b19 dX2_addRequest_27 (fun m27 => (show zG P G _ _ 28 _ _ from ?_))
    refine z_aload_n ok 0 dX2_addRequest_28 rfl (show zG P G _ _ 29 _ _ from ?_)
    refine z_getR ok fd_42 h_a0 (Or.inl rfl) tf_X2_18 dX2_addRequest_29 (fun b29 h_b29 => (show zG P G _ _ 32 _ _ from ?_))
    refine z_aload_n ok 0 dX2_addRequest_32 rfl (show zG P G _ _ 33 _ _ from ?_)
    refine z_get ok fd_45 h_a0 (Or.inl rfl) tf_X2_27 dX2_addRequest_33 (show zG P G _ _ 36 _ _ from ?_)
    refine z_iload_n ok 3 dX2_addRequest_36 rfl (show zG P G _ _ 37 _ _ from ?_)
    refine z_iast ok h_b29 dX2_addRequest_37 (fun m37 => (show zG P G _ _ 38 _ _ from ?_))
    refine z_aload_n ok 0 dX2_addRequest_38 rfl (show zG P G _ _ 39 _ _ from ?_)
    refine z_getR ok fd_43 h_a0 (Or.inl rfl) tf_X2_21 dX2_addRequest_39 (fun b39 h_b39 => (show zG P G _ _ 42 _ _ from ?_))
    refine z_aload_n ok 0 dX2_addRequest_42 rfl (show zG P G _ _ 43 _ _ from ?_)
    refine z_get ok fd_45 h_a0 (Or.inl rfl) tf_X2_27 dX2_addRequest_43 (show zG P G _ _ 46 _ _ from ?_)
    refine z_iload ok 4 dX2_addRequest_46 rfl (show zG P G _ _ 48 _ _ from ?_)
    refine z_iast ok h_b39 dX2_addRequest_48 (fun m48 => (show zG P G _ _ 49 _ _ from ?_))
    refine z_aload_n ok 0 dX2_addRequest_49 rfl (show zG P G _ _ 50 _ _ from ?_)
    refine z_dup ok dX2_addRequest_50 rfl (show zG P G _ _ 51 _ _ from ?_)
    refine z_get ok fd_45 h_a0 (Or.inl rfl) tf_X2_27 dX2_addRequest_51 (show zG P G _ _ 54 _ _ from ?_)
    refine z_iconst ok (1 : Int32) dX2_addRequest_54 (by decide) (show zG P G _ _ 55 _ _ from ?_)
    refine z_iadd ok dX2_addRequest_55 (show zG P G _ _ 56 _ _ from ?_)
    refine z_put ok fd_45 h_a0 (Or.inl rfl) tf_X2_27 dX2_addRequest_56 (fun m56 => (show zG P G _ _ 59 _ _ from ?_))
    exact z_vret ok dX2_addRequest_59
set_option maxRecDepth 100000 in
set_option maxHeartbeats 4000000 in
theorem t_X2_addTicks_b10 {P : zSt} {G : zC} (ok : zOK P G RX2 cX2_addTicks 3 2 41 none)  : ∀ (n : Nat) (a0 : Nat) (x1 : Int32) (x2 : Int32) (m : zM) (h_a0 : zT P 2 a0), zG P G (f_X2_addTicks_b10 P n a0 x1 x2 m) m 10 [(0, .ref a0), (1, .int x1), (2, .int x2)] [] := by
  intro n
  induction n with
  | zero =>
    intros
    exact zG_none
  | succ n ih =>
    intro a0 x1 x2 m h_a0
    unfold f_X2_addTicks_b10
    have hr_10 := ih
    refine z_iload_n ok 2 dX2_addTicks_10 rfl (show zG P G _ _ 11 _ _ from ?_)
    refine z_iload_n ok 1 dX2_addTicks_11 rfl (show zG P G _ _ 12 _ _ from ?_)
    refine z_icmp_ge ok 42 dX2_addTicks_12 (by decide) ?_ (show zG P G _ _ 15 _ _ from ?_)
    · exact z_vret ok dX2_addTicks_42
    · refine z_aload_n ok 0 dX2_addTicks_15 rfl (show zG P G _ _ 16 _ _ from ?_)
      refine z_getR ok fd_40 h_a0 (Or.inl rfl) tf_X2_9 dX2_addTicks_16 (fun b16 h_b16 => (show zG P G _ _ 19 _ _ from ?_))
      refine z_aload_n ok 0 dX2_addTicks_19 rfl (show zG P G _ _ 20 _ _ from ?_)
      refine z_get ok fd_45 h_a0 (Or.inl rfl) tf_X2_27 dX2_addTicks_20 (show zG P G _ _ 23 _ _ from ?_)
      refine z_bipush ok (-2 : Int32) dX2_addTicks_23 (by decide) (show zG P G _ _ 25 _ _ from ?_)
      refine z_iast ok h_b16 dX2_addTicks_25 (fun m25 => (show zG P G _ _ 26 _ _ from ?_))
      refine z_aload_n ok 0 dX2_addTicks_26 rfl (show zG P G _ _ 27 _ _ from ?_)
      refine z_dup ok dX2_addTicks_27 rfl (show zG P G _ _ 28 _ _ from ?_)
      refine z_get ok fd_45 h_a0 (Or.inl rfl) tf_X2_27 dX2_addTicks_28 (show zG P G _ _ 31 _ _ from ?_)
      refine z_iconst ok (1 : Int32) dX2_addTicks_31 (by decide) (show zG P G _ _ 32 _ _ from ?_)
      refine z_iadd ok dX2_addTicks_32 (show zG P G _ _ 33 _ _ from ?_)
      refine z_put ok fd_45 h_a0 (Or.inl rfl) tf_X2_27 dX2_addTicks_33 (fun m33 => (show zG P G _ _ 36 _ _ from ?_))
      refine z_iinc ok (fun v36 => [(2, .int v36), (0, .ref a0), (1, .int x1)]) 2 dX2_addTicks_36 rfl (by decide) (by decide) (fun _ => rfl) (fun v36 => (show zG P G _ _ 39 _ _ from ?_))
      refine z_goto ok 10 dX2_addTicks_39 (by decide) ?_
      exact z_sub [1, 2, 0] [(0, .ref a0), (1, .int x1), (2, .int v36)] rfl (hr_10 _ _ _ _ h_a0)
set_option maxRecDepth 100000 in
set_option maxHeartbeats 4000000 in
theorem m_X2_addTicks (l : Launch) {P : zSt} (hP : zOKP P) {a0 : Nat} {i1 : Int32} (h_a0 : zT P 2 a0) : zMet l P yX2_addTicks cX2_addTicks 3 2 41 none [.ref a0, .int i1] (fun m => f_X2_addTicks P a0 i1 m) := by
  refine zMet.of hP (by decide +kernel) RX2 rfl [(0, .ref a0), (1, .int i1)] (fun h => h) (Nat.le_of_ble_eq_true rfl) (fun G m ok => ?_)
  show zG P G (f_X2_addTicks P a0 i1 m) m 0 _ []
  unfold f_X2_addTicks
  refine z_aload_n ok 0 dX2_addTicks_0 rfl (show zG P G _ _ 1 _ _ from ?_)
  refine z_iload_n ok 1 dX2_addTicks_1 rfl (show zG P G _ _ 2 _ _ from ?_)
  refine z_callVi ok [.int i1] (m_X2_makesRoomFor _ ok.p h_a0) cv_X2_35 h_a0 rfl (by decide) rfl (Nat.le_of_ble_eq_true rfl) rfl dX2_addTicks_2 (fun r2 m2 => (show zG P G _ _ 5 _ _ from ?_))
  refine z_if_eq ok 42 dX2_addTicks_5 (by decide) ?_ (show zG P G _ _ 8 _ _ from ?_)
  · exact z_vret ok dX2_addTicks_42
  · refine z_iconst ok (0 : Int32) dX2_addTicks_8 (by decide) (show zG P G _ _ 9 _ _ from ?_)
    refine z_istore_n0 ok [(2, .int (0 : Int32)), (0, .ref a0), (1, .int i1)] dX2_addTicks_9 (by decide) rfl (show zG P G _ _ 10 _ _ from ?_)
    exact z_sub [1, 2, 0] [(0, .ref a0), (1, .int i1), (2, .int (0 : Int32))] rfl (t_X2_addTicks_b10 ok zfuel _ _ _ _ h_a0)
set_option maxRecDepth 100000 in
set_option maxHeartbeats 4000000 in
theorem t_X2_changedAnswers_b41 {P : zSt} {G : zC} (ok : zOK P G RX2 cX2_changedAnswers 3 0 0 (some .int)) (rec_4 : Nat → Int32 → Int32 → zM → Option (Int32 × zM)) (hr_4 : ∀ (a0 : Nat) (x1 : Int32) (x2 : Int32) (m : zM), zT P 2 a0 → zG P G (rec_4 a0 x1 x2 m) m 4 [(0, .ref a0), (1, .int x1), (2, .int x2)] []) {a0 : Nat} {x1 : Int32} {x2 : Int32} {m : zM} (h_a0 : zT P 2 a0) : zG P G (f_X2_changedAnswers_b41 P rec_4 a0 x1 x2 m) m 41 [(0, .ref a0), (1, .int x1), (2, .int x2)] [] := by
  unfold f_X2_changedAnswers_b41
  refine z_iinc ok (fun v41 => [(2, .int v41), (0, .ref a0), (1, .int x1)]) 2 dX2_changedAnswers_41 rfl (by decide) (by decide) (fun _ => rfl) (fun v41 => (show zG P G _ _ 44 _ _ from ?_))
  refine z_goto ok 4 dX2_changedAnswers_44 (by decide) ?_
  exact z_sub [1, 2, 0] [(0, .ref a0), (1, .int x1), (2, .int v41)] rfl (hr_4 _ _ _ _ h_a0)
set_option maxRecDepth 100000 in
set_option maxHeartbeats 4000000 in
theorem t_X2_changedAnswers_b4 {P : zSt} {G : zC} (ok : zOK P G RX2 cX2_changedAnswers 3 0 0 (some .int))  : ∀ (n : Nat) (a0 : Nat) (x1 : Int32) (x2 : Int32) (m : zM) (h_a0 : zT P 2 a0), zG P G (f_X2_changedAnswers_b4 P n a0 x1 x2 m) m 4 [(0, .ref a0), (1, .int x1), (2, .int x2)] [] := by
  intro n
  induction n with
  | zero =>
    intros
    exact zG_none
  | succ n ih =>
    intro a0 x1 x2 m h_a0
    unfold f_X2_changedAnswers_b4
    have hr_4 := ih
    refine z_iload_n ok 2 dX2_changedAnswers_4 rfl (show zG P G _ _ 5 _ _ from ?_)
    refine z_aload_n ok 0 dX2_changedAnswers_5 rfl (show zG P G _ _ 6 _ _ from ?_)
    refine z_get ok fd_45 h_a0 (Or.inl rfl) tf_X2_27 dX2_changedAnswers_6 (show zG P G _ _ 9 _ _ from ?_)
    refine z_icmp_ge ok 47 dX2_changedAnswers_9 (by decide) ?_ (show zG P G _ _ 12 _ _ from ?_)
    · refine z_iload_n ok 1 dX2_changedAnswers_47 rfl (show zG P G _ _ 48 _ _ from ?_)
      exact z_iret ok dX2_changedAnswers_48
    · refine z_aload_n ok 0 dX2_changedAnswers_12 rfl (show zG P G _ _ 13 _ _ from ?_)
      refine z_getR ok fd_40 h_a0 (Or.inl rfl) tf_X2_9 dX2_changedAnswers_13 (fun b13 h_b13 => (show zG P G _ _ 16 _ _ from ?_))
      refine z_iload_n ok 2 dX2_changedAnswers_16 rfl (show zG P G _ _ 17 _ _ from ?_)
      refine z_iald ok h_b13 dX2_changedAnswers_17 (show zG P G _ _ 18 _ _ from ?_)
      refine z_bipush ok (-2 : Int32) dX2_changedAnswers_18 (by decide) (show zG P G _ _ 20 _ _ from ?_)
      refine z_icmp_eq ok 41 dX2_changedAnswers_20 (by decide) ?_ (show zG P G _ _ 23 _ _ from ?_)
      · exact z_sub [0, 1, 2] [(0, .ref a0), (1, .int x1), (2, .int x2)] rfl (t_X2_changedAnswers_b41 ok (f_X2_changedAnswers_b4 P n) hr_4 h_a0)
      · refine z_aload_n ok 0 dX2_changedAnswers_23 rfl (show zG P G _ _ 24 _ _ from ?_)
        refine z_getR ok fd_44 h_a0 (Or.inl rfl) tf_X2_24 dX2_changedAnswers_24 (fun b24 h_b24 => (show zG P G _ _ 27 _ _ from ?_))
        refine z_iload_n ok 2 dX2_changedAnswers_27 rfl (show zG P G _ _ 28 _ _ from ?_)
        refine z_iald ok h_b24 dX2_changedAnswers_28 (show zG P G _ _ 29 _ _ from ?_)
        refine z_aload_n ok 0 dX2_changedAnswers_29 rfl (show zG P G _ _ 30 _ _ from ?_)
        refine z_getR ok fd_43 h_a0 (Or.inl rfl) tf_X2_21 dX2_changedAnswers_30 (fun b30 h_b30 => (show zG P G _ _ 33 _ _ from ?_))
        refine z_iload_n ok 2 dX2_changedAnswers_33 rfl (show zG P G _ _ 34 _ _ from ?_)
        refine z_iald ok h_b30 dX2_changedAnswers_34 (show zG P G _ _ 35 _ _ from ?_)
        refine z_icmp_eq ok 41 dX2_changedAnswers_35 (by decide) ?_ (show zG P G _ _ 38 _ _ from ?_)
        · exact z_sub [0, 1, 2] [(0, .ref a0), (1, .int x1), (2, .int x2)] rfl (t_X2_changedAnswers_b41 ok (f_X2_changedAnswers_b4 P n) hr_4 h_a0)
        · refine z_iinc ok (fun v38 => [(1, .int v38), (0, .ref a0), (2, .int x2)]) 1 dX2_changedAnswers_38 rfl (by decide) (by decide) (fun _ => rfl) (fun v38 => (show zG P G _ _ 41 _ _ from ?_))
          exact z_sub [1, 0, 2] [(0, .ref a0), (1, .int v38), (2, .int x2)] rfl (t_X2_changedAnswers_b41 ok (f_X2_changedAnswers_b4 P n) hr_4 h_a0)
set_option maxRecDepth 100000 in
set_option maxHeartbeats 4000000 in
theorem m_X2_changedAnswers (l : Launch) {P : zSt} (hP : zOKP P) {a0 : Nat} (h_a0 : zT P 2 a0) : zMet l P yX2_changedAnswers cX2_changedAnswers 3 0 0 (some .int) [.ref a0] (fun m => f_X2_changedAnswers P a0 m) := by
  refine zMet.of hP (by decide +kernel) RX2 rfl [(0, .ref a0)] (fun h => h) (Nat.le_of_ble_eq_true rfl) (fun G m ok => ?_)
  show zG P G (f_X2_changedAnswers P a0 m) m 0 _ []
  unfold f_X2_changedAnswers
  refine z_iconst ok (0 : Int32) dX2_changedAnswers_0 (by decide) (show zG P G _ _ 1 _ _ from ?_)
  refine z_istore_n0 ok [(1, .int (0 : Int32)), (0, .ref a0)] dX2_changedAnswers_1 (by decide) rfl (show zG P G _ _ 2 _ _ from ?_)
  refine z_iconst ok (0 : Int32) dX2_changedAnswers_2 (by decide) (show zG P G _ _ 3 _ _ from ?_)
  refine z_istore_n0 ok [(2, .int (0 : Int32)), (1, .int (0 : Int32)), (0, .ref a0)] dX2_changedAnswers_3 (by decide) rfl (show zG P G _ _ 4 _ _ from ?_)
  exact z_sub [2, 1, 0] [(0, .ref a0), (1, .int (0 : Int32)), (2, .int (0 : Int32))] rfl (t_X2_changedAnswers_b4 ok zfuel _ _ _ _ h_a0)
set_option maxRecDepth 100000 in
set_option maxHeartbeats 4000000 in
theorem t_X2_answersByBackends_b35 {P : zSt} {G : zC} (ok : zOK P G RX2 cX2_answersByBackends 3 0 0 (some .int)) (rec_4 : Nat → Int32 → Int32 → zM → Option (Int32 × zM)) (hr_4 : ∀ (a0 : Nat) (x1 : Int32) (x2 : Int32) (m : zM), zT P 2 a0 → zG P G (rec_4 a0 x1 x2 m) m 4 [(0, .ref a0), (1, .int x1), (2, .int x2)] []) {a0 : Nat} {x1 : Int32} {x2 : Int32} {m : zM} (h_a0 : zT P 2 a0) : zG P G (f_X2_answersByBackends_b35 P rec_4 a0 x1 x2 m) m 35 [(0, .ref a0), (1, .int x1), (2, .int x2)] [] := by
  unfold f_X2_answersByBackends_b35
  refine z_iinc ok (fun v35 => [(2, .int v35), (0, .ref a0), (1, .int x1)]) 2 dX2_answersByBackends_35 rfl (by decide) (by decide) (fun _ => rfl) (fun v35 => (show zG P G _ _ 38 _ _ from ?_))
  refine z_goto ok 4 dX2_answersByBackends_38 (by decide) ?_
  exact z_sub [1, 2, 0] [(0, .ref a0), (1, .int x1), (2, .int v35)] rfl (hr_4 _ _ _ _ h_a0)
set_option maxRecDepth 100000 in
set_option maxHeartbeats 4000000 in
theorem t_X2_answersByBackends_b4 {P : zSt} {G : zC} (ok : zOK P G RX2 cX2_answersByBackends 3 0 0 (some .int))  : ∀ (n : Nat) (a0 : Nat) (x1 : Int32) (x2 : Int32) (m : zM) (h_a0 : zT P 2 a0), zG P G (f_X2_answersByBackends_b4 P n a0 x1 x2 m) m 4 [(0, .ref a0), (1, .int x1), (2, .int x2)] [] := by
  intro n
  induction n with
  | zero =>
    intros
    exact zG_none
  | succ n ih =>
    intro a0 x1 x2 m h_a0
    unfold f_X2_answersByBackends_b4
    have hr_4 := ih
    refine z_iload_n ok 2 dX2_answersByBackends_4 rfl (show zG P G _ _ 5 _ _ from ?_)
    refine z_aload_n ok 0 dX2_answersByBackends_5 rfl (show zG P G _ _ 6 _ _ from ?_)
    refine z_get ok fd_45 h_a0 (Or.inl rfl) tf_X2_27 dX2_answersByBackends_6 (show zG P G _ _ 9 _ _ from ?_)
    refine z_icmp_ge ok 41 dX2_answersByBackends_9 (by decide) ?_ (show zG P G _ _ 12 _ _ from ?_)
    · refine z_iload_n ok 1 dX2_answersByBackends_41 rfl (show zG P G _ _ 42 _ _ from ?_)
      exact z_iret ok dX2_answersByBackends_42
    · refine z_aload_n ok 0 dX2_answersByBackends_12 rfl (show zG P G _ _ 13 _ _ from ?_)
      refine z_getR ok fd_40 h_a0 (Or.inl rfl) tf_X2_9 dX2_answersByBackends_13 (fun b13 h_b13 => (show zG P G _ _ 16 _ _ from ?_))
      refine z_iload_n ok 2 dX2_answersByBackends_16 rfl (show zG P G _ _ 17 _ _ from ?_)
      refine z_iald ok h_b13 dX2_answersByBackends_17 (show zG P G _ _ 18 _ _ from ?_)
      refine z_bipush ok (-2 : Int32) dX2_answersByBackends_18 (by decide) (show zG P G _ _ 20 _ _ from ?_)
      refine z_icmp_eq ok 35 dX2_answersByBackends_20 (by decide) ?_ (show zG P G _ _ 23 _ _ from ?_)
      · exact z_sub [0, 1, 2] [(0, .ref a0), (1, .int x1), (2, .int x2)] rfl (t_X2_answersByBackends_b35 ok (f_X2_answersByBackends_b4 P n) hr_4 h_a0)
      · refine z_aload_n ok 0 dX2_answersByBackends_23 rfl (show zG P G _ _ 24 _ _ from ?_)
        refine z_getR ok fd_44 h_a0 (Or.inl rfl) tf_X2_24 dX2_answersByBackends_24 (fun b24 h_b24 => (show zG P G _ _ 27 _ _ from ?_))
        refine z_iload_n ok 2 dX2_answersByBackends_27 rfl (show zG P G _ _ 28 _ _ from ?_)
        refine z_iald ok h_b24 dX2_answersByBackends_28 (show zG P G _ _ 29 _ _ from ?_)
        refine z_if_lt ok 35 dX2_answersByBackends_29 (by decide) ?_ (show zG P G _ _ 32 _ _ from ?_)
        · exact z_sub [0, 1, 2] [(0, .ref a0), (1, .int x1), (2, .int x2)] rfl (t_X2_answersByBackends_b35 ok (f_X2_answersByBackends_b4 P n) hr_4 h_a0)
        · refine z_iinc ok (fun v32 => [(1, .int v32), (0, .ref a0), (2, .int x2)]) 1 dX2_answersByBackends_32 rfl (by decide) (by decide) (fun _ => rfl) (fun v32 => (show zG P G _ _ 35 _ _ from ?_))
          exact z_sub [1, 0, 2] [(0, .ref a0), (1, .int v32), (2, .int x2)] rfl (t_X2_answersByBackends_b35 ok (f_X2_answersByBackends_b4 P n) hr_4 h_a0)
set_option maxRecDepth 100000 in
set_option maxHeartbeats 4000000 in
theorem m_X2_answersByBackends (l : Launch) {P : zSt} (hP : zOKP P) {a0 : Nat} (h_a0 : zT P 2 a0) : zMet l P yX2_answersByBackends cX2_answersByBackends 3 0 0 (some .int) [.ref a0] (fun m => f_X2_answersByBackends P a0 m) := by
  refine zMet.of hP (by decide +kernel) RX2 rfl [(0, .ref a0)] (fun h => h) (Nat.le_of_ble_eq_true rfl) (fun G m ok => ?_)
  show zG P G (f_X2_answersByBackends P a0 m) m 0 _ []
  unfold f_X2_answersByBackends
  refine z_iconst ok (0 : Int32) dX2_answersByBackends_0 (by decide) (show zG P G _ _ 1 _ _ from ?_)
  refine z_istore_n0 ok [(1, .int (0 : Int32)), (0, .ref a0)] dX2_answersByBackends_1 (by decide) rfl (show zG P G _ _ 2 _ _ from ?_)
  refine z_iconst ok (0 : Int32) dX2_answersByBackends_2 (by decide) (show zG P G _ _ 3 _ _ from ?_)
  refine z_istore_n0 ok [(2, .int (0 : Int32)), (1, .int (0 : Int32)), (0, .ref a0)] dX2_answersByBackends_3 (by decide) rfl (show zG P G _ _ 4 _ _ from ?_)
  exact z_sub [2, 1, 0] [(0, .ref a0), (1, .int (0 : Int32)), (2, .int (0 : Int32))] rfl (t_X2_answersByBackends_b4 ok zfuel _ _ _ _ h_a0)
set_option maxRecDepth 100000 in
set_option maxHeartbeats 4000000 in
theorem m_X3_begin (l : Launch) {P : zSt} (hP : zOKP P) {a0 : Nat} (h_a0 : zT P 3 a0) : zMet l P yX3_begin cX3_begin 1 1 20 none [.ref a0] (fun m => f_X3_begin P a0 m) := by
  refine zMet.of hP (by decide +kernel) RX3 rfl [(0, .ref a0)] (fun h => h) (Nat.le_of_ble_eq_true rfl) (fun G m ok => ?_)
  show zG P G (f_X3_begin P a0 m) m 0 _ []
  unfold f_X3_begin
  refine z_aload_n ok 0 dX3_begin_0 rfl (show zG P G _ _ 1 _ _ from ?_)
  refine z_getR ok fd_60 h_a0 (Or.inl rfl) tf_X3_12 dX3_begin_1 (fun b1 h_b1 => (show zG P G _ _ 4 _ _ from ?_))
  refine z_callVv ok [] (m_X7_clear _ ok.p h_b1) cv_X3_28 h_b1 rfl (by decide) rfl (Nat.le_of_ble_eq_true rfl) rfl dX3_begin_4 (fun _ m4 => (show zG P G _ _ 7 _ _ from ?_))
  refine z_aload_n ok 0 dX3_begin_7 rfl (show zG P G _ _ 8 _ _ from ?_)
  refine z_iconst ok (0 : Int32) dX3_begin_8 (by decide) (show zG P G _ _ 9 _ _ from ?_)
  refine z_put ok fd_61 h_a0 (Or.inl rfl) tf_X3_31 dX3_begin_9 (fun m9 => (show zG P G _ _ 12 _ _ from ?_))
  refine z_aload_n ok 0 dX3_begin_12 rfl (show zG P G _ _ 13 _ _ from ?_)
  refine z_bipush ok (9 : Int32) dX3_begin_13 (by decide) (show zG P G _ _ 15 _ _ from ?_)
  refine z_put ok fd_62 h_a0 (Or.inl rfl) tf_X3_35 dX3_begin_15 (fun m15 => (show zG P G _ _ 18 _ _ from ?_))
  refine z_aload_n ok 0 dX3_begin_18 rfl (show zG P G _ _ 19 _ _ from ?_)
  refine z_iconst ok (0 : Int32) dX3_begin_19 (by decide) (show zG P G _ _ 20 _ _ from ?_)
  refine z_put ok fd_64 h_a0 (Or.inl rfl) tf_X3_38 dX3_begin_20 (fun m20 => (show zG P G _ _ 23 _ _ from ?_))
  refine z_aload_n ok 0 dX3_begin_23 rfl (show zG P G _ _ 24 _ _ from ?_)
  refine z_iconst ok (1 : Int32) dX3_begin_24 (by decide) (show zG P G _ _ 25 _ _ from ?_)
  refine z_put ok fd_65 h_a0 (Or.inl rfl) tf_X3_41 dX3_begin_25 (fun m25 => (show zG P G _ _ 28 _ _ from ?_))
  refine z_aload_n ok 0 dX3_begin_28 rfl (show zG P G _ _ 29 _ _ from ?_)
  refine z_iconst ok (-1 : Int32) dX3_begin_29 (by decide) (show zG P G _ _ 30 _ _ from ?_)
  refine z_put ok fd_66 h_a0 (Or.inl rfl) tf_X3_44 dX3_begin_30 (fun m30 => (show zG P G _ _ 33 _ _ from ?_))
  exact z_vret ok dX3_begin_33
set_option maxRecDepth 100000 in
set_option maxHeartbeats 4000000 in
theorem t_X3_hasTarget_b2 {P : zSt} {G : zC} (ok : zOK P G RX3 cX3_hasTarget 3 0 0 (some .boolean))  : ∀ (n : Nat) (a0 : Nat) (x1 : Int32) (x2 : Int32) (m : zM) (h_a0 : zT P 3 a0), zG P G (f_X3_hasTarget_b2 P n a0 x1 x2 m) m 2 [(0, .ref a0), (1, .int x1), (2, .int x2)] [] := by
  intro n
  induction n with
  | zero =>
    intros
    exact zG_none
  | succ n ih =>
    intro a0 x1 x2 m h_a0
    unfold f_X3_hasTarget_b2
    have hr_2 := ih
    refine z_iload_n ok 2 dX3_hasTarget_2 rfl (show zG P G _ _ 3 _ _ from ?_)
    refine z_aload_n ok 0 dX3_hasTarget_3 rfl (show zG P G _ _ 4 _ _ from ?_)
    refine z_get ok fd_64 h_a0 (Or.inl rfl) tf_X3_38 dX3_hasTarget_4 (show zG P G _ _ 7 _ _ from ?_)
    refine z_icmp_ge ok 31 dX3_hasTarget_7 (by decide) ?_ (show zG P G _ _ 10 _ _ from ?_)
    · refine z_iconst ok (0 : Int32) dX3_hasTarget_31 (by decide) (show zG P G _ _ 32 _ _ from ?_)
      exact z_zret ok dX3_hasTarget_32
    · refine z_aload_n ok 0 dX3_hasTarget_10 rfl (show zG P G _ _ 11 _ _ from ?_)
      refine z_getR ok fd_63 h_a0 (Or.inl rfl) tf_X3_20 dX3_hasTarget_11 (fun b11 h_b11 => (show zG P G _ _ 14 _ _ from ?_))
      refine z_iload_n ok 2 dX3_hasTarget_14 rfl (show zG P G _ _ 15 _ _ from ?_)
      refine z_aald ok ek_16 h_b11 dX3_hasTarget_15 (fun b15 h_b15 => (show zG P G _ _ 16 _ _ from ?_))
      refine z_getn ok fd_123 h_b15 (Or.inl rfl) tf_X3_63 dX3_hasTarget_16 (show zG P G _ _ 19 _ _ from ?_)
      refine z_iload_n ok 1 dX3_hasTarget_19 rfl (show zG P G _ _ 20 _ _ from ?_)
      refine z_icmp_ne ok 25 dX3_hasTarget_20 (by decide) ?_ (show zG P G _ _ 23 _ _ from ?_)
      · refine z_iinc ok (fun v25 => [(2, .int v25), (0, .ref a0), (1, .int x1)]) 2 dX3_hasTarget_25 rfl (by decide) (by decide) (fun _ => rfl) (fun v25 => (show zG P G _ _ 28 _ _ from ?_))
        refine z_goto ok 2 dX3_hasTarget_28 (by decide) ?_
        exact z_sub [1, 2, 0] [(0, .ref a0), (1, .int x1), (2, .int v25)] rfl (hr_2 _ _ _ _ h_a0)
      · refine z_iconst ok (1 : Int32) dX3_hasTarget_23 (by decide) (show zG P G _ _ 24 _ _ from ?_)
        exact z_zret ok dX3_hasTarget_24
set_option maxRecDepth 100000 in
set_option maxHeartbeats 4000000 in
theorem m_X3_hasTarget (l : Launch) {P : zSt} (hP : zOKP P) {a0 : Nat} {i1 : Int32} (h_a0 : zT P 3 a0) : zMet l P yX3_hasTarget cX3_hasTarget 3 0 0 (some .boolean) [.ref a0, .int i1] (fun m => f_X3_hasTarget P a0 i1 m) := by
  refine zMet.of hP (by decide +kernel) RX3 rfl [(0, .ref a0), (1, .int i1)] (fun h => h) (Nat.le_of_ble_eq_true rfl) (fun G m ok => ?_)
  show zG P G (f_X3_hasTarget P a0 i1 m) m 0 _ []
  unfold f_X3_hasTarget
  refine z_iconst ok (0 : Int32) dX3_hasTarget_0 (by decide) (show zG P G _ _ 1 _ _ from ?_)
  refine z_istore_n0 ok [(2, .int (0 : Int32)), (0, .ref a0), (1, .int i1)] dX3_hasTarget_1 (by decide) rfl (show zG P G _ _ 2 _ _ from ?_)
  exact z_sub [1, 2, 0] [(0, .ref a0), (1, .int i1), (2, .int (0 : Int32))] rfl (t_X3_hasTarget_b2 ok zfuel _ _ _ _ h_a0)
set_option maxRecDepth 100000 in
set_option maxHeartbeats 4000000 in
theorem m_X6_begin (l : Launch) {P : zSt} (hP : zOKP P) {a0 : Nat} {i1 : Int32} {i2 : Int32} (h_a0 : zT P 6 a0) : zMet l P yX6_begin cX6_begin 3 0 0 none [.ref a0, .int i1, .int i2] (fun m => f_X6_begin P a0 i1 i2 m) := by
  refine zMet.of hP (by decide +kernel) RX6 rfl [(0, .ref a0), (1, .int i1), (2, .int i2)] (fun h => h) (Nat.le_of_ble_eq_true rfl) (fun G m ok => ?_)
  show zG P G (f_X6_begin P a0 i1 i2 m) m 0 _ []
  unfold f_X6_begin
  refine z_aload_n ok 0 dX6_begin_0 rfl (show zG P G _ _ 1 _ _ from ?_)
  refine z_iload_n ok 1 dX6_begin_1 rfl (show zG P G _ _ 2 _ _ from ?_)
  refine z_put ok fd_123 h_a0 (Or.inl rfl) tf_X6_9 dX6_begin_2 (fun m2 => (show zG P G _ _ 5 _ _ from ?_))
  refine z_aload_n ok 0 dX6_begin_5 rfl (show zG P G _ _ 6 _ _ from ?_)
  refine z_iload_n ok 2 dX6_begin_6 rfl (show zG P G _ _ 7 _ _ from ?_)
  refine z_put ok fd_120 h_a0 (Or.inr ts_140) tf_X6_15 dX6_begin_7 (fun m7 => (show zG P G _ _ 10 _ _ from ?_))
  refine z_aload_n ok 0 dX6_begin_10 rfl (show zG P G _ _ 11 _ _ from ?_)
  refine z_iconst ok (0 : Int32) dX6_begin_11 (by decide) (show zG P G _ _ 12 _ _ from ?_)
  refine z_put ok fd_121 h_a0 (Or.inr ts_148) tf_X6_18 dX6_begin_12 (fun m12 => (show zG P G _ _ 15 _ _ from ?_))
  refine z_aload_n ok 0 dX6_begin_15 rfl (show zG P G _ _ 16 _ _ from ?_)
  refine z_iconst ok (0 : Int32) dX6_begin_16 (by decide) (show zG P G _ _ 17 _ _ from ?_)
  refine z_put ok fd_124 h_a0 (Or.inl rfl) tf_X6_21 dX6_begin_17 (fun m17 => (show zG P G _ _ 20 _ _ from ?_))
  exact z_vret ok dX6_begin_20
set_option maxRecDepth 100000 in
set_option maxHeartbeats 4000000 in
theorem m_X3_takeTarget (l : Launch) {P : zSt} (hP : zOKP P) {a0 : Nat} {i1 : Int32} {i2 : Int32} (h_a0 : zT P 3 a0) : zMet l P yX3_takeTarget cX3_takeTarget 3 1 22 none [.ref a0, .int i1, .int i2] (fun m => f_X3_takeTarget P a0 i1 i2 m) := by
  refine zMet.of hP (by decide +kernel) RX3 rfl [(0, .ref a0), (1, .int i1), (2, .int i2)] (fun h => h) (Nat.le_of_ble_eq_true rfl) (fun G m ok => ?_)
  show zG P G (f_X3_takeTarget P a0 i1 i2 m) m 0 _ []
  unfold f_X3_takeTarget
  refine z_aload_n ok 0 dX3_takeTarget_0 rfl (show zG P G _ _ 1 _ _ from ?_)
  refine z_get ok fd_64 h_a0 (Or.inl rfl) tf_X3_38 dX3_takeTarget_1 (show zG P G _ _ 4 _ _ from ?_)
  refine z_iconst ok (3 : Int32) dX3_takeTarget_4 (by decide) (show zG P G _ _ 5 _ _ from ?_)
  refine z_icmp_ge ok 32 dX3_takeTarget_5 (by decide) ?_ (show zG P G _ _ 8 _ _ from ?_)
  · exact z_vret ok dX3_takeTarget_32
  · refine z_aload_n ok 0 dX3_takeTarget_8 rfl (show zG P G _ _ 9 _ _ from ?_)
    refine z_getR ok fd_63 h_a0 (Or.inl rfl) tf_X3_20 dX3_takeTarget_9 (fun b9 h_b9 => (show zG P G _ _ 12 _ _ from ?_))
    refine z_aload_n ok 0 dX3_takeTarget_12 rfl (show zG P G _ _ 13 _ _ from ?_)
    refine z_get ok fd_64 h_a0 (Or.inl rfl) tf_X3_38 dX3_takeTarget_13 (show zG P G _ _ 16 _ _ from ?_)
    refine z_aald ok ek_16 h_b9 dX3_takeTarget_16 (fun b16 h_b16 => (show zG P G _ _ 17 _ _ from ?_))
    refine z_iload_n ok 1 dX3_takeTarget_17 rfl (show zG P G _ _ 18 _ _ from ?_)
    refine z_iload_n ok 2 dX3_takeTarget_18 rfl (show zG P G _ _ 19 _ _ from ?_)
    refine z_callVv ok [.int i1, .int i2] (m_X6_begin _ ok.p h_b16) cv_X3_66 h_b16 rfl (by decide) rfl (Nat.le_of_ble_eq_true rfl) rfl dX3_takeTarget_19 (fun _ m19 => (show zG P G _ _ 22 _ _ from ?_))
    refine z_aload_n ok 0 dX3_takeTarget_22 rfl (show zG P G _ _ 23 _ _ from ?_)
    refine z_dup ok dX3_takeTarget_23 rfl (show zG P G _ _ 24 _ _ from ?_)
    refine z_get ok fd_64 h_a0 (Or.inl rfl) tf_X3_38 dX3_takeTarget_24 (show zG P G _ _ 27 _ _ from ?_)
    refine z_iconst ok (1 : Int32) dX3_takeTarget_27 (by decide) (show zG P G _ _ 28 _ _ from ?_)
    refine z_iadd ok dX3_takeTarget_28 (show zG P G _ _ 29 _ _ from ?_)
    refine z_put ok fd_64 h_a0 (Or.inl rfl) tf_X3_38 dX3_takeTarget_29 (fun m29 => (show zG P G _ _ 32 _ _ from ?_))
    exact z_vret ok dX3_takeTarget_32
set_option maxRecDepth 100000 in
set_option maxHeartbeats 4000000 in
theorem m_X7_putDigit (l : Launch) {P : zSt} (hP : zOKP P) {a0 : Nat} {i1 : Int32} (h_a0 : zT P 7 a0) : zMet l P yX7_putDigit cX7_putDigit 2 1 21 none [.ref a0, .int i1] (fun m => f_X7_putDigit P a0 i1 m) := by
  refine zMet.of hP (by decide +kernel) RX7 rfl [(0, .ref a0), (1, .int i1)] (fun h => h) (Nat.le_of_ble_eq_true rfl) (fun G m ok => ?_)
  show zG P G (f_X7_putDigit P a0 i1 m) m 0 _ []
  unfold f_X7_putDigit
  refine z_aload_n ok 0 dX7_putDigit_0 rfl (show zG P G _ _ 1 _ _ from ?_)
  refine z_bipush ok (48 : Int32) dX7_putDigit_1 (by decide) (show zG P G _ _ 3 _ _ from ?_)
  refine z_iload_n ok 1 dX7_putDigit_3 rfl (show zG P G _ _ 4 _ _ from ?_)
  refine z_iadd ok dX7_putDigit_4 (show zG P G _ _ 5 _ _ from ?_)
  refine z_callVv ok [.int ((48 : Int32) + i1)] (m_X7_put _ ok.p h_a0) cv_X7_19 h_a0 rfl (by decide) rfl (Nat.le_of_ble_eq_true rfl) rfl dX7_putDigit_5 (fun _ m5 => (show zG P G _ _ 8 _ _ from ?_))
  exact z_vret ok dX7_putDigit_8
set_option maxRecDepth 100000 in
set_option maxHeartbeats 4000000 in
theorem t_X3_printTo_b132 {P : zSt} {G : zC} (ok : zOK P G RX3 cX3_printTo 3 2 43 none) (rec_64 : Nat → Nat → Int32 → zM → Option (Int32 × zM)) (hr_64 : ∀ (a0 : Nat) (a1 : Nat) (x2 : Int32) (m : zM), zT P 3 a0 → zT P 7 a1 → zG P G (rec_64 a0 a1 x2 m) m 64 [(0, .ref a0), (1, .ref a1), (2, .int x2)] []) {a0 : Nat} {a1 : Nat} {x2 : Int32} {m : zM} (h_a0 : zT P 3 a0) (h_a1 : zT P 7 a1) : zG P G (f_X3_printTo_b132 P rec_64 a0 a1 x2 m) m 132 [(0, .ref a0), (1, .ref a1), (2, .int x2)] [] := by
  unfold f_X3_printTo_b132
  refine z_iinc ok (fun v132 => [(2, .int v132), (0, .ref a0), (1, .ref a1)]) 2 dX3_printTo_132 rfl (by decide) (by decide) (fun _ => rfl) (fun v132 => (show zG P G _ _ 135 _ _ from ?_))
  refine z_goto ok 64 dX3_printTo_135 (by decide) ?_
  exact z_sub [1, 2, 0] [(0, .ref a0), (1, .ref a1), (2, .int v132)] rfl (hr_64 _ _ _ _ h_a0 h_a1)
set_option maxRecDepth 100000 in
set_option maxHeartbeats 4000000 in
theorem t_X3_printTo_b84 {P : zSt} {G : zC} (ok : zOK P G RX3 cX3_printTo 3 2 43 none) (rec_64 : Nat → Nat → Int32 → zM → Option (Int32 × zM)) (hr_64 : ∀ (a0 : Nat) (a1 : Nat) (x2 : Int32) (m : zM), zT P 3 a0 → zT P 7 a1 → zG P G (rec_64 a0 a1 x2 m) m 64 [(0, .ref a0), (1, .ref a1), (2, .int x2)] []) {a0 : Nat} {a1 : Nat} {x2 : Int32} {s0 : Int32} {t1 : Nat} {m : zM} (h_a0 : zT P 3 a0) (h_a1 : zT P 7 a1) (h_t1 : zT P 7 t1) : zG P G (f_X3_printTo_b84 P rec_64 a0 a1 x2 s0 t1 m) m 84 [(0, .ref a0), (1, .ref a1), (2, .int x2)] [.int s0, .ref t1] := by
  unfold f_X3_printTo_b84
  refine z_callVv ok [.int s0] (m_X7_put _ ok.p h_t1) cv_X3_69 h_t1 rfl (by decide) rfl (Nat.le_of_ble_eq_true rfl) rfl dX3_printTo_84 (fun _ m84 => (show zG P G _ _ 87 _ _ from ?_))
  refine z_aload_n ok 1 dX3_printTo_87 rfl (show zG P G _ _ 88 _ _ from ?_)
  refine z_aload_n ok 0 dX3_printTo_88 rfl (show zG P G _ _ 89 _ _ from ?_)
  refine z_getR ok fd_63 h_a0 (Or.inl rfl) tf_X3_20 dX3_printTo_89 (fun b89 h_b89 => (show zG P G _ _ 92 _ _ from ?_))
  refine z_iload_n ok 2 dX3_printTo_92 rfl (show zG P G _ _ 93 _ _ from ?_)
  refine z_aald ok ek_16 h_b89 dX3_printTo_93 (fun b93 h_b93 => (show zG P G _ _ 94 _ _ from ?_))
  refine z_getn ok fd_123 h_b93 (Or.inl rfl) tf_X3_63 dX3_printTo_94 (show zG P G _ _ 97 _ _ from ?_)
  refine z_callVv ok [.int (zf m84 123 b93)] (m_X7_putDigit _ ok.p h_a1) cv_X3_73 h_a1 rfl (by decide) rfl (Nat.le_of_ble_eq_true rfl) rfl dX3_printTo_97 (fun _ m97 => (show zG P G _ _ 100 _ _ from ?_))
  refine z_aload_n ok 0 dX3_printTo_100 rfl (show zG P G _ _ 101 _ _ from ?_)
  refine z_getR ok fd_63 h_a0 (Or.inl rfl) tf_X3_20 dX3_printTo_101 (fun b101 h_b101 => (show zG P G _ _ 104 _ _ from ?_))
  refine z_iload_n ok 2 dX3_printTo_104 rfl (show zG P G _ _ 105 _ _ from ?_)
  refine z_aald ok ek_16 h_b101 dX3_printTo_105 (fun b105 h_b105 => (show zG P G _ _ 106 _ _ from ?_))
  refine z_get ok fd_120 h_b105 (Or.inr ts_140) tf_X3_76 dX3_printTo_106 (show zG P G _ _ 109 _ _ from ?_)
  refine z_iconst ok (1 : Int32) dX3_printTo_109 (by decide) (show zG P G _ _ 110 _ _ from ?_)
  refine z_icmp_eq ok 132 dX3_printTo_110 (by decide) ?_ (show zG P G _ _ 113 _ _ from ?_)
  · exact z_sub [0, 1, 2] [(0, .ref a0), (1, .ref a1), (2, .int x2)] rfl (t_X3_printTo_b132 ok rec_64 hr_64 h_a0 h_a1)
  · refine z_aload_n ok 1 dX3_printTo_113 rfl (show zG P G _ _ 114 _ _ from ?_)
    refine z_bipush ok (58 : Int32) dX3_printTo_114 (by decide) (show zG P G _ _ 116 _ _ from ?_)
    refine z_callVv ok [.int (58 : Int32)] (m_X7_put _ ok.p h_a1) cv_X3_69 h_a1 rfl (by decide) rfl (Nat.le_of_ble_eq_true rfl) rfl dX3_printTo_116 (fun _ m116 => (show zG P G _ _ 119 _ _ from ?_))
    refine z_aload_n ok 1 dX3_printTo_119 rfl (show zG P G _ _ 120 _ _ from ?_)
    refine z_aload_n ok 0 dX3_printTo_120 rfl (show zG P G _ _ 121 _ _ from ?_)
    refine z_getR ok fd_63 h_a0 (Or.inl rfl) tf_X3_20 dX3_printTo_121 (fun b121 h_b121 => (show zG P G _ _ 124 _ _ from ?_))
    refine z_iload_n ok 2 dX3_printTo_124 rfl (show zG P G _ _ 125 _ _ from ?_)
    refine z_aald ok ek_16 h_b121 dX3_printTo_125 (fun b125 h_b125 => (show zG P G _ _ 126 _ _ from ?_))
    refine z_get ok fd_120 h_b125 (Or.inr ts_140) tf_X3_76 dX3_printTo_126 (show zG P G _ _ 129 _ _ from ?_)
    refine z_callVv ok [.int (zf m116 120 b125)] (m_X7_putDigit _ ok.p h_a1) cv_X3_73 h_a1 rfl (by decide) rfl (Nat.le_of_ble_eq_true rfl) rfl dX3_printTo_129 (fun _ m129 => (show zG P G _ _ 132 _ _ from ?_))
    exact z_sub [0, 1, 2] [(0, .ref a0), (1, .ref a1), (2, .int x2)] rfl (t_X3_printTo_b132 ok rec_64 hr_64 h_a0 h_a1)
set_option maxRecDepth 100000 in
set_option maxHeartbeats 4000000 in
theorem t_X3_printTo_b160 {P : zSt} {G : zC} (ok : zOK P G RX3 cX3_printTo 3 2 43 none)  {a0 : Nat} {a1 : Nat} {m : zM} (h_a0 : zT P 3 a0) (h_a1 : zT P 7 a1) : zG P G (f_X3_printTo_b160 P a0 a1 m) m 160 [(0, .ref a0), (1, .ref a1)] [] := by
  unfold f_X3_printTo_b160
  refine z_aload_n ok 0 dX3_printTo_160 rfl (show zG P G _ _ 161 _ _ from ?_)
  refine z_get ok fd_65 h_a0 (Or.inl rfl) tf_X3_41 dX3_printTo_161 (show zG P G _ _ 164 _ _ from ?_)
  refine z_iconst ok (1 : Int32) dX3_printTo_164 (by decide) (show zG P G _ _ 165 _ _ from ?_)
  refine z_icmp_eq ok 182 dX3_printTo_165 (by decide) ?_ (show zG P G _ _ 168 _ _ from ?_)
  · exact z_vret ok dX3_printTo_182
  · refine z_aload_n ok 1 dX3_printTo_168 rfl (show zG P G _ _ 169 _ _ from ?_)
    refine z_bipush ok (42 : Int32) dX3_printTo_169 (by decide) (show zG P G _ _ 171 _ _ from ?_)
    refine z_callVv ok [.int (42 : Int32)] (m_X7_put _ ok.p h_a1) cv_X3_69 h_a1 rfl (by decide) rfl (Nat.le_of_ble_eq_true rfl) rfl dX3_printTo_171 (fun _ m171 => (show zG P G _ _ 174 _ _ from ?_))
    refine z_aload_n ok 1 dX3_printTo_174 rfl (show zG P G _ _ 175 _ _ from ?_)
    refine z_aload_n ok 0 dX3_printTo_175 rfl (show zG P G _ _ 176 _ _ from ?_)
    refine z_get ok fd_65 h_a0 (Or.inl rfl) tf_X3_41 dX3_printTo_176 (show zG P G _ _ 179 _ _ from ?_)
    refine z_callVv ok [.int (zf m171 65 a0)] (m_X7_putDigit _ ok.p h_a1) cv_X3_73 h_a1 rfl (by decide) rfl (Nat.le_of_ble_eq_true rfl) rfl dX3_printTo_179 (fun _ m179 => (show zG P G _ _ 182 _ _ from ?_))
    exact z_vret ok dX3_printTo_182
set_option maxRecDepth 100000 in
set_option maxHeartbeats 4000000 in
theorem t_X3_printTo_b64 {P : zSt} {G : zC} (ok : zOK P G RX3 cX3_printTo 3 2 43 none)  : ∀ (n : Nat) (a0 : Nat) (a1 : Nat) (x2 : Int32) (m : zM) (h_a0 : zT P 3 a0) (h_a1 : zT P 7 a1), zG P G (f_X3_printTo_b64 P n a0 a1 x2 m) m 64 [(0, .ref a0), (1, .ref a1), (2, .int x2)] [] := by
  intro n
  induction n with
  | zero =>
    intros
    exact zG_none
  | succ n ih =>
    intro a0 a1 x2 m h_a0 h_a1
    unfold f_X3_printTo_b64
    have hr_64 := ih
    refine z_iload_n ok 2 dX3_printTo_64 rfl (show zG P G _ _ 65 _ _ from ?_)
    refine z_aload_n ok 0 dX3_printTo_65 rfl (show zG P G _ _ 66 _ _ from ?_)
    refine z_get ok fd_64 h_a0 (Or.inl rfl) tf_X3_38 dX3_printTo_66 (show zG P G _ _ 69 _ _ from ?_)
    refine z_icmp_ge ok 138 dX3_printTo_69 (by decide) ?_ (show zG P G _ _ 72 _ _ from ?_)
    · refine z_aload_n ok 0 dX3_printTo_138 rfl (show zG P G _ _ 139 _ _ from ?_)
      refine z_get ok fd_66 h_a0 (Or.inl rfl) tf_X3_44 dX3_printTo_139 (show zG P G _ _ 142 _ _ from ?_)
      refine z_iconst ok (-1 : Int32) dX3_printTo_142 (by decide) (show zG P G _ _ 143 _ _ from ?_)
      refine z_icmp_eq ok 160 dX3_printTo_143 (by decide) ?_ (show zG P G _ _ 146 _ _ from ?_)
      · exact z_sub [0, 1] [(0, .ref a0), (1, .ref a1)] rfl (t_X3_printTo_b160 ok h_a0 h_a1)
      · refine z_aload_n ok 1 dX3_printTo_146 rfl (show zG P G _ _ 147 _ _ from ?_)
        refine z_bipush ok (126 : Int32) dX3_printTo_147 (by decide) (show zG P G _ _ 149 _ _ from ?_)
        refine z_callVv ok [.int (126 : Int32)] (m_X7_put _ ok.p h_a1) cv_X3_69 h_a1 rfl (by decide) rfl (Nat.le_of_ble_eq_true rfl) rfl dX3_printTo_149 (fun _ m149 => (show zG P G _ _ 152 _ _ from ?_))
        refine z_aload_n ok 1 dX3_printTo_152 rfl (show zG P G _ _ 153 _ _ from ?_)
        refine z_aload_n ok 0 dX3_printTo_153 rfl (show zG P G _ _ 154 _ _ from ?_)
        refine z_get ok fd_66 h_a0 (Or.inl rfl) tf_X3_44 dX3_printTo_154 (show zG P G _ _ 157 _ _ from ?_)
        refine z_callVv ok [.int (zf m149 66 a0)] (m_X7_putDigit _ ok.p h_a1) cv_X3_73 h_a1 rfl (by decide) rfl (Nat.le_of_ble_eq_true rfl) rfl dX3_printTo_157 (fun _ m157 => (show zG P G _ _ 160 _ _ from ?_))
        exact z_sub [0, 1] [(0, .ref a0), (1, .ref a1)] rfl (t_X3_printTo_b160 ok h_a0 h_a1)
    · refine z_aload_n ok 1 dX3_printTo_72 rfl (show zG P G _ _ 73 _ _ from ?_)
      refine z_iload_n ok 2 dX3_printTo_73 rfl (show zG P G _ _ 74 _ _ from ?_)
      refine z_if_ne ok 82 dX3_printTo_74 (by decide) ?_ (show zG P G _ _ 77 _ _ from ?_)
      · refine z_bipush ok (44 : Int32) dX3_printTo_82 (by decide) (show zG P G _ _ 84 _ _ from ?_)
        exact z_sub [0, 1, 2] [(0, .ref a0), (1, .ref a1), (2, .int x2)] rfl (t_X3_printTo_b84 ok (f_X3_printTo_b64 P n) hr_64 h_a0 h_a1 h_a1)
      · refine z_bipush ok (61 : Int32) dX3_printTo_77 (by decide) (show zG P G _ _ 79 _ _ from ?_)
        refine z_goto ok 84 dX3_printTo_79 (by decide) ?_
        exact z_sub [0, 1, 2] [(0, .ref a0), (1, .ref a1), (2, .int x2)] rfl (t_X3_printTo_b84 ok (f_X3_printTo_b64 P n) hr_64 h_a0 h_a1 h_a1)
set_option maxRecDepth 100000 in
set_option maxHeartbeats 4000000 in
theorem t_X3_printTo_b62 {P : zSt} {G : zC} (ok : zOK P G RX3 cX3_printTo 3 2 43 none)  {a0 : Nat} {a1 : Nat} {m : zM} (h_a0 : zT P 3 a0) (h_a1 : zT P 7 a1) : zG P G (f_X3_printTo_b62 P a0 a1 m) m 62 [(0, .ref a0), (1, .ref a1)] [] := by
  unfold f_X3_printTo_b62
  refine z_iconst ok (0 : Int32) dX3_printTo_62 (by decide) (show zG P G _ _ 63 _ _ from ?_)
  refine z_istore_n0 ok [(2, .int (0 : Int32)), (0, .ref a0), (1, .ref a1)] dX3_printTo_63 (by decide) rfl (show zG P G _ _ 64 _ _ from ?_)
  exact z_sub [1, 2, 0] [(0, .ref a0), (1, .ref a1), (2, .int (0 : Int32))] rfl (t_X3_printTo_b64 ok zfuel _ _ _ _ h_a0 h_a1)
set_option maxRecDepth 100000 in
set_option maxHeartbeats 4000000 in
theorem t_X3_printTo_b28 {P : zSt} {G : zC} (ok : zOK P G RX3 cX3_printTo 3 2 43 none)  {a0 : Nat} {a1 : Nat} {m : zM} (h_a0 : zT P 3 a0) (h_a1 : zT P 7 a1) : zG P G (f_X3_printTo_b28 P a0 a1 m) m 28 [(0, .ref a0), (1, .ref a1)] [] := by
  unfold f_X3_printTo_b28
  refine z_aload_n ok 1 dX3_printTo_28 rfl (show zG P G _ _ 29 _ _ from ?_)
  refine z_bipush ok (91 : Int32) dX3_printTo_29 (by decide) (show zG P G _ _ 31 _ _ from ?_)
  refine z_callVv ok [.int (91 : Int32)] (m_X7_put _ ok.p h_a1) cv_X3_69 h_a1 rfl (by decide) rfl (Nat.le_of_ble_eq_true rfl) rfl dX3_printTo_31 (fun _ m31 => (show zG P G _ _ 34 _ _ from ?_))
  refine z_aload_n ok 1 dX3_printTo_34 rfl (show zG P G _ _ 35 _ _ from ?_)
  refine z_aload_n ok 0 dX3_printTo_35 rfl (show zG P G _ _ 36 _ _ from ?_)
  refine z_get ok fd_61 h_a0 (Or.inl rfl) tf_X3_31 dX3_printTo_36 (show zG P G _ _ 39 _ _ from ?_)
  refine z_callVv ok [.int (zf m31 61 a0)] (m_X7_putDigit _ ok.p h_a1) cv_X3_73 h_a1 rfl (by decide) rfl (Nat.le_of_ble_eq_true rfl) rfl dX3_printTo_39 (fun _ m39 => (show zG P G _ _ 42 _ _ from ?_))
  refine z_aload_n ok 1 dX3_printTo_42 rfl (show zG P G _ _ 43 _ _ from ?_)
  refine z_bipush ok (45 : Int32) dX3_printTo_43 (by decide) (show zG P G _ _ 45 _ _ from ?_)
  refine z_callVv ok [.int (45 : Int32)] (m_X7_put _ ok.p h_a1) cv_X3_69 h_a1 rfl (by decide) rfl (Nat.le_of_ble_eq_true rfl) rfl dX3_printTo_45 (fun _ m45 => (show zG P G _ _ 48 _ _ from ?_))
  refine z_aload_n ok 1 dX3_printTo_48 rfl (show zG P G _ _ 49 _ _ from ?_)
  refine z_aload_n ok 0 dX3_printTo_49 rfl (show zG P G _ _ 50 _ _ from ?_)
  refine z_get ok fd_62 h_a0 (Or.inl rfl) tf_X3_35 dX3_printTo_50 (show zG P G _ _ 53 _ _ from ?_)
  refine z_callVv ok [.int (zf m45 62 a0)] (m_X7_putDigit _ ok.p h_a1) cv_X3_73 h_a1 rfl (by decide) rfl (Nat.le_of_ble_eq_true rfl) rfl dX3_printTo_53 (fun _ m53 => (show zG P G _ _ 56 _ _ from ?_))
  refine z_aload_n ok 1 dX3_printTo_56 rfl (show zG P G _ _ 57 _ _ from ?_)
  refine z_bipush ok (93 : Int32) dX3_printTo_57 (by decide) (show zG P G _ _ 59 _ _ from ?_)
  refine z_callVv ok [.int (93 : Int32)] (m_X7_put _ ok.p h_a1) cv_X3_69 h_a1 rfl (by decide) rfl (Nat.le_of_ble_eq_true rfl) rfl dX3_printTo_59 (fun _ m59 => (show zG P G _ _ 62 _ _ from ?_))
  exact z_sub [0, 1] [(0, .ref a0), (1, .ref a1)] rfl (t_X3_printTo_b62 ok h_a0 h_a1)
set_option maxRecDepth 100000 in
set_option maxHeartbeats 4000000 in
theorem m_X3_printTo (l : Launch) {P : zSt} (hP : zOKP P) {a0 : Nat} {a1 : Nat} (h_a0 : zT P 3 a0) (h_a1 : zT P 7 a1) : zMet l P yX3_printTo cX3_printTo 3 2 43 none [.ref a0, .ref a1] (fun m => f_X3_printTo P a0 a1 m) := by
  refine zMet.of hP (by decide +kernel) RX3 rfl [(0, .ref a0), (1, .ref a1)] (fun h => h) (Nat.le_of_ble_eq_true rfl) (fun G m ok => ?_)
  show zG P G (f_X3_printTo P a0 a1 m) m 0 _ []
  unfold f_X3_printTo
  refine z_aload_n ok 1 dX3_printTo_0 rfl (show zG P G _ _ 1 _ _ from ?_)
  refine z_callVv ok [] (m_X7_clear _ ok.p h_a1) cv_X3_28 h_a1 rfl (by decide) rfl (Nat.le_of_ble_eq_true rfl) rfl dX3_printTo_1 (fun _ m1 => (show zG P G _ _ 4 _ _ from ?_))
  refine z_aload_n ok 1 dX3_printTo_4 rfl (show zG P G _ _ 5 _ _ from ?_)
  refine z_aload_n ok 0 dX3_printTo_5 rfl (show zG P G _ _ 6 _ _ from ?_)
  refine z_getR ok fd_60 h_a0 (Or.inl rfl) tf_X3_12 dX3_printTo_6 (fun b6 h_b6 => (show zG P G _ _ 9 _ _ from ?_))
  refine z_callVv ok [.ref b6] (m_X7_putAll _ ok.p h_a1 h_b6) cv_X3_47 h_a1 rfl (by decide) rfl (Nat.le_of_ble_eq_true rfl) rfl dX3_printTo_9 (fun _ m9 => (show zG P G _ _ 12 _ _ from ?_))
  refine z_aload_n ok 0 dX3_printTo_12 rfl (show zG P G _ _ 13 _ _ from ?_)
  refine z_get ok fd_61 h_a0 (Or.inl rfl) tf_X3_31 dX3_printTo_13 (show zG P G _ _ 16 _ _ from ?_)
  refine z_if_ne ok 28 dX3_printTo_16 (by decide) ?_ (show zG P G _ _ 19 _ _ from ?_)
  · exact z_sub [0, 1] [(0, .ref a0), (1, .ref a1)] rfl (t_X3_printTo_b28 ok h_a0 h_a1)
  · refine z_aload_n ok 0 dX3_printTo_19 rfl (show zG P G _ _ 20 _ _ from ?_)
    refine z_get ok fd_62 h_a0 (Or.inl rfl) tf_X3_35 dX3_printTo_20 (show zG P G _ _ 23 _ _ from ?_)
    refine z_bipush ok (9 : Int32) dX3_printTo_23 (by decide) (show zG P G _ _ 25 _ _ from ?_)
    refine z_icmp_eq ok 62 dX3_printTo_25 (by decide) ?_ (show zG P G _ _ 28 _ _ from ?_)
    · exact z_sub [0, 1] [(0, .ref a0), (1, .ref a1)] rfl (t_X3_printTo_b62 ok h_a0 h_a1)
    · exact z_sub [0, 1] [(0, .ref a0), (1, .ref a1)] rfl (t_X3_printTo_b28 ok h_a0 h_a1)
set_option maxRecDepth 100000 in
set_option maxHeartbeats 4000000 in
theorem m_X4_readDigit (l : Launch) {P : zSt} (hP : zOKP P) {a0 : Nat} {i1 : Int32} {i2 : Int32} (h_a0 : zT P 4 a0) : zMet l P yX4_readDigit cX4_readDigit 4 2 43 (some .int) [.ref a0, .int i1, .int i2] (fun m => f_X4_readDigit P a0 i1 i2 m) := by
  refine zMet.of hP (by decide +kernel) RX4 rfl [(0, .ref a0), (1, .int i1), (2, .int i2)] (fun h => h) (Nat.le_of_ble_eq_true rfl) (fun G m ok => ?_)
  show zG P G (f_X4_readDigit P a0 i1 i2 m) m 0 _ []
  unfold f_X4_readDigit
  refine z_aload_n ok 0 dX4_readDigit_0 rfl (show zG P G _ _ 1 _ _ from ?_)
  refine z_getR ok fd_80 h_a0 (Or.inl rfl) tf_X4_18 dX4_readDigit_1 (fun b1 h_b1 => (show zG P G _ _ 4 _ _ from ?_))
  refine z_aload_n ok 0 dX4_readDigit_4 rfl (show zG P G _ _ 5 _ _ from ?_)
  refine z_get ok fd_82 h_a0 (Or.inl rfl) tf_X4_22 dX4_readDigit_5 (show zG P G _ _ 8 _ _ from ?_)
  refine z_callVi ok [.int (zf m 82 a0)] (m_X7_signAt _ ok.p h_b1) cv_X4_54 h_b1 rfl (by decide) rfl (Nat.le_of_ble_eq_true rfl) rfl dX4_readDigit_8 (fun r8 m8 => (show zG P G _ _ 11 _ _ from ?_))
  refine z_bipush ok (48 : Int32) dX4_readDigit_11 (by decide) (show zG P G _ _ 13 _ _ from ?_)
  refine z_isub ok dX4_readDigit_13 (show zG P G _ _ 14 _ _ from ?_)
  refine z_istore_n ok (fun v14 => [(3, .int v14), (0, .ref a0), (1, .int i1), (2, .int i2)]) dX4_readDigit_14 (by decide) (fun _ => rfl) (fun v14 => (show zG P G _ _ 15 _ _ from ?_))
  refine z_iload_n ok 0 dX4_readDigit_15 rfl (show zG P G _ _ 16 _ _ from ?_)
  refine z_iload_n ok 2 dX4_readDigit_16 rfl (show zG P G _ _ 17 _ _ from ?_)
  refine z_iload_n ok 3 dX4_readDigit_17 rfl (show zG P G _ _ 18 _ _ from ?_)
  refine z_callSi ok [.int v14, .int i1, .int i2] (m_X10_isWithin _ ok.p) cv_X4_95 rfl (by decide) rfl (Nat.le_of_ble_eq_true rfl) rfl dX4_readDigit_18 (fun r18 m18 => (show zG P G _ _ 21 _ _ from ?_))
  refine z_if_ne ok 26 dX4_readDigit_21 (by decide) ?_ (show zG P G _ _ 24 _ _ from ?_)
  · refine z_aload_n ok 1 dX4_readDigit_26 rfl (show zG P G _ _ 27 _ _ from ?_)
    refine z_dup ok dX4_readDigit_27 rfl (show zG P G _ _ 28 _ _ from ?_)
    refine z_get ok fd_82 h_a0 (Or.inl rfl) tf_X4_22 dX4_readDigit_28 (show zG P G _ _ 31 _ _ from ?_)
    refine z_iconst ok (1 : Int32) dX4_readDigit_31 (by decide) (show zG P G _ _ 32 _ _ from ?_)
    refine z_iadd ok dX4_readDigit_32 (show zG P G _ _ 33 _ _ from ?_)
    refine z_put ok fd_82 h_a0 (Or.inl rfl) tf_X4_22 dX4_readDigit_33 (fun m33 => (show zG P G _ _ 36 _ _ from ?_))
    refine z_iload_n ok 0 dX4_readDigit_36 rfl (show zG P G _ _ 37 _ _ from ?_)
    exact z_iret ok dX4_readDigit_37
  · refine z_iconst ok (-1 : Int32) dX4_readDigit_24 (by decide) (show zG P G _ _ 25 _ _ from ?_)
    exact z_iret ok dX4_readDigit_25
set_option maxRecDepth 100000 in
set_option maxHeartbeats 4000000 in
theorem m_X4_readSign (l : Launch) {P : zSt} (hP : zOKP P) {a0 : Nat} {i1 : Int32} (h_a0 : zT P 4 a0) : zMet l P yX4_readSign cX4_readSign 2 2 43 (some .boolean) [.ref a0, .int i1] (fun m => f_X4_readSign P a0 i1 m) := by
  refine zMet.of hP (by decide +kernel) RX4 rfl [(0, .ref a0), (1, .int i1)] (fun h => h) (Nat.le_of_ble_eq_true rfl) (fun G m ok => ?_)
  show zG P G (f_X4_readSign P a0 i1 m) m 0 _ []
  unfold f_X4_readSign
  refine z_aload_n ok 0 dX4_readSign_0 rfl (show zG P G _ _ 1 _ _ from ?_)
  refine z_getR ok fd_80 h_a0 (Or.inl rfl) tf_X4_18 dX4_readSign_1 (fun b1 h_b1 => (show zG P G _ _ 4 _ _ from ?_))
  refine z_aload_n ok 0 dX4_readSign_4 rfl (show zG P G _ _ 5 _ _ from ?_)
  refine z_get ok fd_82 h_a0 (Or.inl rfl) tf_X4_22 dX4_readSign_5 (show zG P G _ _ 8 _ _ from ?_)
  refine z_callVi ok [.int (zf m 82 a0)] (m_X7_signAt _ ok.p h_b1) cv_X4_54 h_b1 rfl (by decide) rfl (Nat.le_of_ble_eq_true rfl) rfl dX4_readSign_8 (fun r8 m8 => (show zG P G _ _ 11 _ _ from ?_))
  refine z_iload_n ok 1 dX4_readSign_11 rfl (show zG P G _ _ 12 _ _ from ?_)
  refine z_icmp_eq ok 17 dX4_readSign_12 (by decide) ?_ (show zG P G _ _ 15 _ _ from ?_)
  · refine z_aload_n ok 0 dX4_readSign_17 rfl (show zG P G _ _ 18 _ _ from ?_)
    refine z_dup ok dX4_readSign_18 rfl (show zG P G _ _ 19 _ _ from ?_)
    refine z_get ok fd_82 h_a0 (Or.inl rfl) tf_X4_22 dX4_readSign_19 (show zG P G _ _ 22 _ _ from ?_)
    refine z_iconst ok (1 : Int32) dX4_readSign_22 (by decide) (show zG P G _ _ 23 _ _ from ?_)
    refine z_iadd ok dX4_readSign_23 (show zG P G _ _ 24 _ _ from ?_)
    refine z_put ok fd_82 h_a0 (Or.inl rfl) tf_X4_22 dX4_readSign_24 (fun m24 => (show zG P G _ _ 27 _ _ from ?_))
    refine z_iconst ok (1 : Int32) dX4_readSign_27 (by decide) (show zG P G _ _ 28 _ _ from ?_)
    exact z_zret ok dX4_readSign_28
  · refine z_iconst ok (0 : Int32) dX4_readSign_15 (by decide) (show zG P G _ _ 16 _ _ from ?_)
    exact z_zret ok dX4_readSign_16
set_option maxRecDepth 100000 in
set_option maxHeartbeats 4000000 in
theorem m_X4_readAttempts (l : Launch) {P : zSt} (hP : zOKP P) {a0 : Nat} (h_a0 : zT P 4 a0) : zMet l P yX4_readAttempts cX4_readAttempts 1 3 66 (some .boolean) [.ref a0] (fun m => f_X4_readAttempts P a0 m) := by
  refine zMet.of hP (by decide +kernel) RX4 rfl [(0, .ref a0)] (fun h => h) (Nat.le_of_ble_eq_true rfl) (fun G m ok => ?_)
  show zG P G (f_X4_readAttempts P a0 m) m 0 _ []
  unfold f_X4_readAttempts
  refine z_aload_n ok 0 dX4_readAttempts_0 rfl (show zG P G _ _ 1 _ _ from ?_)
  refine z_bipush ok (42 : Int32) dX4_readAttempts_1 (by decide) (show zG P G _ _ 3 _ _ from ?_)
  refine z_callVi ok [.int (42 : Int32)] (m_X4_readSign _ ok.p h_a0) cv_X4_36 h_a0 rfl (by decide) rfl (Nat.le_of_ble_eq_true rfl) rfl dX4_readAttempts_3 (fun r3 m3 => (show zG P G _ _ 6 _ _ from ?_))
  refine z_if_ne ok 11 dX4_readAttempts_6 (by decide) ?_ (show zG P G _ _ 9 _ _ from ?_)
  · refine z_aload_n ok 0 dX4_readAttempts_11 rfl (show zG P G _ _ 12 _ _ from ?_)
    refine z_getR ok fd_81 h_a0 (Or.inl rfl) tf_X4_12 dX4_readAttempts_12 (fun b12 h_b12 => (show zG P G _ _ 15 _ _ from ?_))
    refine z_aload_n ok 0 dX4_readAttempts_15 rfl (show zG P G _ _ 16 _ _ from ?_)
    refine z_iconst ok (1 : Int32) dX4_readAttempts_16 (by decide) (show zG P G _ _ 17 _ _ from ?_)
    refine z_iconst ok (4 : Int32) dX4_readAttempts_17 (by decide) (show zG P G _ _ 18 _ _ from ?_)
    refine z_callVi ok [.int (1 : Int32), .int (4 : Int32)] (m_X4_readDigit _ ok.p h_a0) cv_X4_69 h_a0 rfl (by decide) rfl (Nat.le_of_ble_eq_true rfl) rfl dX4_readAttempts_18 (fun r18 m18 => (show zG P G _ _ 21 _ _ from ?_))
    refine z_putn ok fd_65 h_b12 (Or.inl rfl) tf_X4_92 dX4_readAttempts_21 (fun m21 => (show zG P G _ _ 24 _ _ from ?_))
    refine z_aload_n ok 0 dX4_readAttempts_24 rfl (show zG P G _ _ 25 _ _ from ?_)
    refine z_getR ok fd_81 h_a0 (Or.inl rfl) tf_X4_12 dX4_readAttempts_25 (fun b25 h_b25 => (show zG P G _ _ 28 _ _ from ?_))
    refine z_getn ok fd_65 h_b25 (Or.inl rfl) tf_X4_92 dX4_readAttempts_28 (show zG P G _ _ 31 _ _ from ?_)
    refine z_iconst ok (-1 : Int32) dX4_readAttempts_31 (by decide) (show zG P G _ _ 32 _ _ from ?_)
    refine z_icmp_eq ok 39 dX4_readAttempts_32 (by decide) ?_ (show zG P G _ _ 35 _ _ from ?_)
    · refine z_iconst ok (0 : Int32) dX4_readAttempts_39 (by decide) (show zG P G _ _ 40 _ _ from ?_)
      exact z_zret ok dX4_readAttempts_40
    · refine z_iconst ok (1 : Int32) dX4_readAttempts_35 (by decide) (show zG P G _ _ 36 _ _ from ?_)
      refine z_goto ok 40 dX4_readAttempts_36 (by decide) ?_
      exact z_zret ok dX4_readAttempts_40
  · refine z_iconst ok (1 : Int32) dX4_readAttempts_9 (by decide) (show zG P G _ _ 10 _ _ from ?_)
    exact z_zret ok dX4_readAttempts_10
set_option maxRecDepth 100000 in
set_option maxHeartbeats 4000000 in
theorem t_X10_isPathSign_b17 {P : zSt} {G : zC} (ok : zOK P G RX10 cX10_isPathSign 1 1 22 (some .boolean))   {m : zM}  : zG P G (f_X10_isPathSign_b17 P  m) m 17 [] [] := by
  unfold f_X10_isPathSign_b17
  refine z_iconst ok (1 : Int32) dX10_isPathSign_17 (by decide) (show zG P G _ _ 18 _ _ from ?_)
  refine z_goto ok 22 dX10_isPathSign_18 (by decide) ?_
  exact z_zret ok dX10_isPathSign_22
set_option maxRecDepth 100000 in
set_option maxHeartbeats 4000000 in
theorem m_X10_isPathSign (l : Launch) {P : zSt} (hP : zOKP P) {i0 : Int32}  : zMet l P yX10_isPathSign cX10_isPathSign 1 1 22 (some .boolean) [.int i0] (fun m => f_X10_isPathSign P i0 m) := by
  refine zMet.of hP (by decide +kernel) RX10 rfl [(0, .int i0)] (fun h => h) (Nat.le_of_ble_eq_true rfl) (fun G m ok => ?_)
  show zG P G (f_X10_isPathSign P i0 m) m 0 _ []
  unfold f_X10_isPathSign
  refine z_iload_n ok 0 dX10_isPathSign_0 rfl (show zG P G _ _ 1 _ _ from ?_)
  refine z_bipush ok (47 : Int32) dX10_isPathSign_1 (by decide) (show zG P G _ _ 3 _ _ from ?_)
  refine z_icmp_eq ok 17 dX10_isPathSign_3 (by decide) ?_ (show zG P G _ _ 6 _ _ from ?_)
  · exact z_sub [] [] rfl (t_X10_isPathSign_b17 ok)
  · refine z_iload_n ok 0 dX10_isPathSign_6 rfl (show zG P G _ _ 7 _ _ from ?_)
    refine z_bipush ok (97 : Int32) dX10_isPathSign_7 (by decide) (show zG P G _ _ 9 _ _ from ?_)
    refine z_bipush ok (122 : Int32) dX10_isPathSign_9 (by decide) (show zG P G _ _ 11 _ _ from ?_)
    refine z_callSi ok [.int i0, .int (97 : Int32), .int (122 : Int32)] (m_X10_isWithin _ ok.p) cv_X10_58 rfl (by decide) rfl (Nat.le_of_ble_eq_true rfl) rfl dX10_isPathSign_11 (fun r11 m11 => (show zG P G _ _ 14 _ _ from ?_))
    refine z_if_eq ok 21 dX10_isPathSign_14 (by decide) ?_ (show zG P G _ _ 17 _ _ from ?_)
    · refine z_iconst ok (0 : Int32) dX10_isPathSign_21 (by decide) (show zG P G _ _ 22 _ _ from ?_)
      exact z_zret ok dX10_isPathSign_22
    · exact z_sub [] [] rfl (t_X10_isPathSign_b17 ok)
set_option maxRecDepth 100000 in
set_option maxHeartbeats 4000000 in
theorem t_X4_readPrefix_b80 {P : zSt} {G : zC} (ok : zOK P G RX4 cX4_readPrefix 1 2 43 (some .boolean))   {m : zM}  : zG P G (f_X4_readPrefix_b80 P  m) m 80 [] [] := by
  unfold f_X4_readPrefix_b80
  refine z_iconst ok (1 : Int32) dX4_readPrefix_80 (by decide) (show zG P G _ _ 81 _ _ from ?_)
  exact z_zret ok dX4_readPrefix_81
set_option maxRecDepth 100000 in
set_option maxHeartbeats 4000000 in
theorem t_X4_readPrefix_b15 {P : zSt} {G : zC} (ok : zOK P G RX4 cX4_readPrefix 1 2 43 (some .boolean))  : ∀ (n : Nat) (a0 : Nat) (m : zM) (h_a0 : zT P 4 a0), zG P G (f_X4_readPrefix_b15 P n a0 m) m 15 [(0, .ref a0)] [] := by
  intro n
  induction n with
  | zero =>
    intros
    exact zG_none
  | succ n ih =>
    intro a0 m h_a0
    unfold f_X4_readPrefix_b15
    have hr_15 := ih
    refine z_aload_n ok 0 dX4_readPrefix_15 rfl (show zG P G _ _ 16 _ _ from ?_)
    refine z_get ok fd_82 h_a0 (Or.inl rfl) tf_X4_22 dX4_readPrefix_16 (show zG P G _ _ 19 _ _ from ?_)
    refine z_aload_n ok 0 dX4_readPrefix_19 rfl (show zG P G _ _ 20 _ _ from ?_)
    refine z_getR ok fd_80 h_a0 (Or.inl rfl) tf_X4_18 dX4_readPrefix_20 (fun b20 h_b20 => (show zG P G _ _ 23 _ _ from ?_))
    refine z_getn ok fd_141 h_b20 (Or.inl rfl) tf_X4_49 dX4_readPrefix_23 (show zG P G _ _ 26 _ _ from ?_)
    refine z_icmp_ge ok 80 dX4_readPrefix_26 (by decide) ?_ (show zG P G _ _ 29 _ _ from ?_)
    · exact z_sub [] [] rfl (t_X4_readPrefix_b80 ok)
    · refine z_aload_n ok 0 dX4_readPrefix_29 rfl (show zG P G _ _ 30 _ _ from ?_)
      refine z_getR ok fd_80 h_a0 (Or.inl rfl) tf_X4_18 dX4_readPrefix_30 (fun b30 h_b30 => (show zG P G _ _ 33 _ _ from ?_))
      refine z_aload_n ok 0 dX4_readPrefix_33 rfl (show zG P G _ _ 34 _ _ from ?_)
      refine z_get ok fd_82 h_a0 (Or.inl rfl) tf_X4_22 dX4_readPrefix_34 (show zG P G _ _ 37 _ _ from ?_)
      refine z_callVi ok [.int (zf m 82 a0)] (m_X7_signAt _ ok.p h_b30) cv_X4_54 h_b30 rfl (by decide) rfl (Nat.le_of_ble_eq_true rfl) rfl dX4_readPrefix_37 (fun r37 m37 => (show zG P G _ _ 40 _ _ from ?_))
      refine z_callSi ok [.int r37] (m_X10_isPathSign _ ok.p) cv_X4_58 rfl (by decide) rfl (Nat.le_of_ble_eq_true rfl) rfl dX4_readPrefix_40 (fun r40 m40 => (show zG P G _ _ 43 _ _ from ?_))
      refine z_if_eq ok 80 dX4_readPrefix_43 (by decide) ?_ (show zG P G _ _ 46 _ _ from ?_)
      · exact z_sub [] [] rfl (t_X4_readPrefix_b80 ok)
      · refine z_aload_n ok 0 dX4_readPrefix_46 rfl (show zG P G _ _ 47 _ _ from ?_)
        refine z_getR ok fd_81 h_a0 (Or.inl rfl) tf_X4_12 dX4_readPrefix_47 (fun b47 h_b47 => (show zG P G _ _ 50 _ _ from ?_))
        refine z_getRn ok fd_60 h_b47 (Or.inl rfl) tf_X4_62 dX4_readPrefix_50 (fun b50 h_b50 => (show zG P G _ _ 53 _ _ from ?_))
        refine z_aload_n ok 0 dX4_readPrefix_53 rfl (show zG P G _ _ 54 _ _ from ?_)
        refine z_getR ok fd_80 h_a0 (Or.inl rfl) tf_X4_18 dX4_readPrefix_54 (fun b54 h_b54 => (show zG P G _ _ 57 _ _ from ?_))
        refine z_aload_n ok 0 dX4_readPrefix_57 rfl (show zG P G _ _ 58 _ _ from ?_)
        refine z_get ok fd_82 h_a0 (Or.inl rfl) tf_X4_22 dX4_readPrefix_58 (show zG P G _ _ 61 _ _ from ?_)
        refine z_callVi ok [.int (zf m40 82 a0)] (m_X7_signAt _ ok.p h_b54) cv_X4_54 h_b54 rfl (by decide) rfl (Nat.le_of_ble_eq_true rfl) rfl dX4_readPrefix_61 (fun r61 m61 => (show zG P G _ _ 64 _ _ from ?_))
        refine z_callVv ok [.int r61] (m_X7_put _ ok.p h_b50) cv_X4_65 h_b50 rfl (by decide) rfl (Nat.le_of_ble_eq_true rfl) rfl dX4_readPrefix_64 (fun _ m64 => (show zG P G _ _ 67 _ _ from ?_))
        refine z_aload_n ok 0 dX4_readPrefix_67 rfl (show zG P G _ _ 68 _ _ from ?_)
        refine z_dup ok dX4_readPrefix_68 rfl (show zG P G _ _ 69 _ _ from ?_)
        refine z_get ok fd_82 h_a0 (Or.inl rfl) tf_X4_22 dX4_readPrefix_69 (show zG P G _ _ 72 _ _ from ?_)
        refine z_iconst ok (1 : Int32) dX4_readPrefix_72 (by decide) (show zG P G _ _ 73 _ _ from ?_)
        refine z_iadd ok dX4_readPrefix_73 (show zG P G _ _ 74 _ _ from ?_)
        refine z_put ok fd_82 h_a0 (Or.inl rfl) tf_X4_22 dX4_readPrefix_74 (fun m74 => (show zG P G _ _ 77 _ _ from ?_))
        refine z_goto ok 15 dX4_readPrefix_77 (by decide) ?_
        exact z_sub [0] [(0, .ref a0)] rfl (hr_15 _ _ h_a0)
set_option maxRecDepth 100000 in
set_option maxHeartbeats 4000000 in
theorem m_X4_readPrefix (l : Launch) {P : zSt} (hP : zOKP P) {a0 : Nat} (h_a0 : zT P 4 a0) : zMet l P yX4_readPrefix cX4_readPrefix 1 2 43 (some .boolean) [.ref a0] (fun m => f_X4_readPrefix P a0 m) := by
  refine zMet.of hP (by decide +kernel) RX4 rfl [(0, .ref a0)] (fun h => h) (Nat.le_of_ble_eq_true rfl) (fun G m ok => ?_)
  show zG P G (f_X4_readPrefix P a0 m) m 0 _ []
  unfold f_X4_readPrefix
  refine z_aload_n ok 0 dX4_readPrefix_0 rfl (show zG P G _ _ 1 _ _ from ?_)
  refine z_getR ok fd_80 h_a0 (Or.inl rfl) tf_X4_18 dX4_readPrefix_1 (fun b1 h_b1 => (show zG P G _ _ 4 _ _ from ?_))
  refine z_iconst ok (0 : Int32) dX4_readPrefix_4 (by decide) (show zG P G _ _ 5 _ _ from ?_)
  refine z_callVi ok [.int (0 : Int32)] (m_X7_signAt _ ok.p h_b1) cv_X4_54 h_b1 rfl (by decide) rfl (Nat.le_of_ble_eq_true rfl) rfl dX4_readPrefix_5 (fun r5 m5 => (show zG P G _ _ 8 _ _ from ?_))
  refine z_bipush ok (47 : Int32) dX4_readPrefix_8 (by decide) (show zG P G _ _ 10 _ _ from ?_)
  refine z_icmp_eq ok 15 dX4_readPrefix_10 (by decide) ?_ (show zG P G _ _ 13 _ _ from ?_)
  · exact z_sub [0] [(0, .ref a0)] rfl (t_X4_readPrefix_b15 ok zfuel _ _ h_a0)
  · refine z_iconst ok (0 : Int32) dX4_readPrefix_13 (by decide) (show zG P G _ _ 14 _ _ from ?_)
    exact z_zret ok dX4_readPrefix_14
set_option maxRecDepth 100000 in
set_option maxHeartbeats 4000000 in
theorem t_X4_readRange_b33 {P : zSt} {G : zC} (ok : zOK P G RX4 cX4_readRange 3 3 66 (some .boolean))   {m : zM}  : zG P G (f_X4_readRange_b33 P  m) m 33 [] [] := by
  unfold f_X4_readRange_b33
  refine z_iconst ok (0 : Int32) dX4_readRange_33 (by decide) (show zG P G _ _ 34 _ _ from ?_)
  exact z_zret ok dX4_readRange_34
set_option maxRecDepth 100000 in
set_option maxHeartbeats 4000000 in
theorem t_X4_readRange_b77 {P : zSt} {G : zC} (ok : zOK P G RX4 cX4_readRange 3 3 66 (some .boolean))   {m : zM}  : zG P G (f_X4_readRange_b77 P  m) m 77 [] [] := by
  unfold f_X4_readRange_b77
  refine z_iconst ok (0 : Int32) dX4_readRange_77 (by decide) (show zG P G _ _ 78 _ _ from ?_)
  exact z_zret ok dX4_readRange_78
set_option maxRecDepth 100000 in
set_option maxHeartbeats 4000000 in
theorem m_X4_readRange (l : Launch) {P : zSt} (hP : zOKP P) {a0 : Nat} (h_a0 : zT P 4 a0) : zMet l P yX4_readRange cX4_readRange 3 3 66 (some .boolean) [.ref a0] (fun m => f_X4_readRange P a0 m) := by
  refine zMet.of hP (by decide +kernel) RX4 rfl [(0, .ref a0)] (fun h => h) (Nat.le_of_ble_eq_true rfl) (fun G m ok => ?_)
  show zG P G (f_X4_readRange P a0 m) m 0 _ []
  unfold f_X4_readRange
  refine z_aload_n ok 0 dX4_readRange_0 rfl (show zG P G _ _ 1 _ _ from ?_)
  refine z_bipush ok (91 : Int32) dX4_readRange_1 (by decide) (show zG P G _ _ 3 _ _ from ?_)
  refine z_callVi ok [.int (91 : Int32)] (m_X4_readSign _ ok.p h_a0) cv_X4_36 h_a0 rfl (by decide) rfl (Nat.le_of_ble_eq_true rfl) rfl dX4_readRange_3 (fun r3 m3 => (show zG P G _ _ 6 _ _ from ?_))
  refine z_if_ne ok 11 dX4_readRange_6 (by decide) ?_ (show zG P G _ _ 9 _ _ from ?_)
  · refine z_aload_n ok 0 dX4_readRange_11 rfl (show zG P G _ _ 12 _ _ from ?_)
    refine z_iconst ok (0 : Int32) dX4_readRange_12 (by decide) (show zG P G _ _ 13 _ _ from ?_)
    refine z_bipush ok (9 : Int32) dX4_readRange_13 (by decide) (show zG P G _ _ 15 _ _ from ?_)
    refine z_callVi ok [.int (0 : Int32), .int (9 : Int32)] (m_X4_readDigit _ ok.p h_a0) cv_X4_69 h_a0 rfl (by decide) rfl (Nat.le_of_ble_eq_true rfl) rfl dX4_readRange_15 (fun r15 m15 => (show zG P G _ _ 18 _ _ from ?_))
    refine z_istore_n0 ok [(1, .int r15), (0, .ref a0)] dX4_readRange_18 (by decide) rfl (show zG P G _ _ 19 _ _ from ?_)
    refine z_iload_n ok 0 dX4_readRange_19 rfl (show zG P G _ _ 20 _ _ from ?_)
    refine z_iconst ok (-1 : Int32) dX4_readRange_20 (by decide) (show zG P G _ _ 21 _ _ from ?_)
    refine z_icmp_eq ok 33 dX4_readRange_21 (by decide) ?_ (show zG P G _ _ 24 _ _ from ?_)
    · exact z_sub [] [] rfl (t_X4_readRange_b33 ok)
    · refine z_aload_n ok 1 dX4_readRange_24 rfl (show zG P G _ _ 25 _ _ from ?_)
      refine z_bipush ok (45 : Int32) dX4_readRange_25 (by decide) (show zG P G _ _ 27 _ _ from ?_)
      refine z_callVi ok [.int (45 : Int32)] (m_X4_readSign _ ok.p h_a0) cv_X4_36 h_a0 rfl (by decide) rfl (Nat.le_of_ble_eq_true rfl) rfl dX4_readRange_27 (fun r27 m27 => (show zG P G _ _ 30 _ _ from ?_))
      refine z_if_ne ok 35 dX4_readRange_30 (by decide) ?_ (show zG P G _ _ 33 _ _ from ?_)
      · refine z_aload_n ok 1 dX4_readRange_35 rfl (show zG P G _ _ 36 _ _ from ?_)
        refine z_iload_n ok 0 dX4_readRange_36 rfl (show zG P G _ _ 37 _ _ from ?_)
        refine z_bipush ok (9 : Int32) dX4_readRange_37 (by decide) (show zG P G _ _ 39 _ _ from ?_)
        refine z_callVi ok [.int r15, .int (9 : Int32)] (m_X4_readDigit _ ok.p h_a0) cv_X4_69 h_a0 rfl (by decide) rfl (Nat.le_of_ble_eq_true rfl) rfl dX4_readRange_39 (fun r39 m39 => (show zG P G _ _ 42 _ _ from ?_))
        refine z_istore_n0 ok [(2, .int r39), (1, .int r15), (0, .ref a0)] dX4_readRange_42 (by decide) rfl (show zG P G _ _ 43 _ _ from ?_)
        refine z_aload_n ok 2 dX4_readRange_43 rfl (show zG P G _ _ 44 _ _ from ?_)
        refine z_getR ok fd_81 h_a0 (Or.inl rfl) tf_X4_12 dX4_readRange_44 (fun b44 h_b44 => (show zG P G _ _ 47 _ _ from ?_))
        refine z_iload_n ok 1 dX4_readRange_47 rfl (show zG P G _ _ 48 _ _ from ?_)
        refine z_putn ok fd_61 h_b44 (Or.inl rfl) tf_X4_73 dX4_readRange_48 (fun m48 => (show zG P G _ _ 51 _ _ from ?_))
        refine z_aload_n ok 2 dX4_readRange_51 rfl (show zG P G _ _ 52 _ _ from ?_)
        refine z_getR ok fd_81 h_a0 (Or.inl rfl) tf_X4_12 dX4_readRange_52 (fun b52 h_b52 => (show zG P G _ _ 55 _ _ from ?_))
        refine z_iload_n ok 0 dX4_readRange_55 rfl (show zG P G _ _ 56 _ _ from ?_)
        refine z_putn ok fd_62 h_b52 (Or.inl rfl) tf_X4_76 dX4_readRange_56 (fun m56 => (show zG P G _ _ 59 _ _ from ?_))
        refine z_iload_n ok 0 dX4_readRange_59 rfl (show zG P G _ _ 60 _ _ from ?_)
        refine z_iconst ok (-1 : Int32) dX4_readRange_60 (by decide) (show zG P G _ _ 61 _ _ from ?_)
        refine z_icmp_eq ok 77 dX4_readRange_61 (by decide) ?_ (show zG P G _ _ 64 _ _ from ?_)
        · exact z_sub [] [] rfl (t_X4_readRange_b77 ok)
        · refine z_aload_n ok 2 dX4_readRange_64 rfl (show zG P G _ _ 65 _ _ from ?_)
          refine z_bipush ok (93 : Int32) dX4_readRange_65 (by decide) (show zG P G _ _ 67 _ _ from ?_)
          refine z_callVi ok [.int (93 : Int32)] (m_X4_readSign _ ok.p h_a0) cv_X4_36 h_a0 rfl (by decide) rfl (Nat.le_of_ble_eq_true rfl) rfl dX4_readRange_67 (fun r67 m67 => (show zG P G _ _ 70 _ _ from ?_))
          refine z_if_eq ok 77 dX4_readRange_70 (by decide) ?_ (show zG P G _ _ 73 _ _ from ?_)
          · exact z_sub [] [] rfl (t_X4_readRange_b77 ok)
          · refine z_iconst ok (1 : Int32) dX4_readRange_73 (by decide) (show zG P G _ _ 74 _ _ from ?_)
            refine z_goto ok 78 dX4_readRange_74 (by decide) ?_
            exact z_zret ok dX4_readRange_78
      · exact z_sub [] [] rfl (t_X4_readRange_b33 ok)
  · refine z_iconst ok (1 : Int32) dX4_readRange_9 (by decide) (show zG P G _ _ 10 _ _ from ?_)
    exact z_zret ok dX4_readRange_10
set_option maxRecDepth 100000 in
set_option maxHeartbeats 4000000 in
theorem m_X4_readShadow (l : Launch) {P : zSt} (hP : zOKP P) {a0 : Nat} (h_a0 : zT P 4 a0) : zMet l P yX4_readShadow cX4_readShadow 1 3 66 (some .boolean) [.ref a0] (fun m => f_X4_readShadow P a0 m) := by
  refine zMet.of hP (by decide +kernel) RX4 rfl [(0, .ref a0)] (fun h => h) (Nat.le_of_ble_eq_true rfl) (fun G m ok => ?_)
  show zG P G (f_X4_readShadow P a0 m) m 0 _ []
  unfold f_X4_readShadow
  refine z_aload_n ok 0 dX4_readShadow_0 rfl (show zG P G _ _ 1 _ _ from ?_)
  refine z_bipush ok (126 : Int32) dX4_readShadow_1 (by decide) (show zG P G _ _ 3 _ _ from ?_)
  refine z_callVi ok [.int (126 : Int32)] (m_X4_readSign _ ok.p h_a0) cv_X4_36 h_a0 rfl (by decide) rfl (Nat.le_of_ble_eq_true rfl) rfl dX4_readShadow_3 (fun r3 m3 => (show zG P G _ _ 6 _ _ from ?_))
  refine z_if_ne ok 11 dX4_readShadow_6 (by decide) ?_ (show zG P G _ _ 9 _ _ from ?_)
  · refine z_aload_n ok 0 dX4_readShadow_11 rfl (show zG P G _ _ 12 _ _ from ?_)
    refine z_getR ok fd_81 h_a0 (Or.inl rfl) tf_X4_12 dX4_readShadow_12 (fun b12 h_b12 => (show zG P G _ _ 15 _ _ from ?_))
    refine z_aload_n ok 0 dX4_readShadow_15 rfl (show zG P G _ _ 16 _ _ from ?_)
    refine z_iconst ok (0 : Int32) dX4_readShadow_16 (by decide) (show zG P G _ _ 17 _ _ from ?_)
    refine z_iconst ok (3 : Int32) dX4_readShadow_17 (by decide) (show zG P G _ _ 18 _ _ from ?_)
    refine z_callVi ok [.int (0 : Int32), .int (3 : Int32)] (m_X4_readDigit _ ok.p h_a0) cv_X4_69 h_a0 rfl (by decide) rfl (Nat.le_of_ble_eq_true rfl) rfl dX4_readShadow_18 (fun r18 m18 => (show zG P G _ _ 21 _ _ from ?_))
    refine z_putn ok fd_66 h_b12 (Or.inl rfl) tf_X4_89 dX4_readShadow_21 (fun m21 => (show zG P G _ _ 24 _ _ from ?_))
    refine z_aload_n ok 0 dX4_readShadow_24 rfl (show zG P G _ _ 25 _ _ from ?_)
    refine z_getR ok fd_81 h_a0 (Or.inl rfl) tf_X4_12 dX4_readShadow_25 (fun b25 h_b25 => (show zG P G _ _ 28 _ _ from ?_))
    refine z_getn ok fd_66 h_b25 (Or.inl rfl) tf_X4_89 dX4_readShadow_28 (show zG P G _ _ 31 _ _ from ?_)
    refine z_iconst ok (-1 : Int32) dX4_readShadow_31 (by decide) (show zG P G _ _ 32 _ _ from ?_)
    refine z_icmp_eq ok 39 dX4_readShadow_32 (by decide) ?_ (show zG P G _ _ 35 _ _ from ?_)
    · refine z_iconst ok (0 : Int32) dX4_readShadow_39 (by decide) (show zG P G _ _ 40 _ _ from ?_)
      exact z_zret ok dX4_readShadow_40
    · refine z_iconst ok (1 : Int32) dX4_readShadow_35 (by decide) (show zG P G _ _ 36 _ _ from ?_)
      refine z_goto ok 40 dX4_readShadow_36 (by decide) ?_
      exact z_zret ok dX4_readShadow_40
  · refine z_iconst ok (1 : Int32) dX4_readShadow_9 (by decide) (show zG P G _ _ 10 _ _ from ?_)
    exact z_zret ok dX4_readShadow_10
set_option maxRecDepth 100000 in
set_option maxHeartbeats 4000000 in
theorem t_X4_readTarget_b60 {P : zSt} {G : zC} (ok : zOK P G RX4 cX4_readTarget 3 3 66 (some .boolean))  {a0 : Nat} {x1 : Int32} {s0 : Int32} {m : zM} (h_a0 : zT P 4 a0) : zG P G (f_X4_readTarget_b60 P a0 x1 s0 m) m 60 [(0, .ref a0), (1, .int x1)] [.int s0] := by
  unfold f_X4_readTarget_b60
  refine z_istore_n0 ok [(2, .int s0), (0, .ref a0), (1, .int x1)] dX4_readTarget_60 (by decide) rfl (show zG P G _ _ 61 _ _ from ?_)
  refine z_aload_n ok 1 dX4_readTarget_61 rfl (show zG P G _ _ 62 _ _ from ?_)
  refine z_getR ok fd_81 h_a0 (Or.inl rfl) tf_X4_12 dX4_readTarget_62 (fun b62 h_b62 => (show zG P G _ _ 65 _ _ from ?_))
  refine z_iload_n ok 2 dX4_readTarget_65 rfl (show zG P G _ _ 66 _ _ from ?_)
  refine z_iload_n ok 0 dX4_readTarget_66 rfl (show zG P G _ _ 67 _ _ from ?_)
  refine z_callVv ok [.int x1, .int s0] (m_X3_takeTarget _ ok.p h_b62) cv_X4_85 h_b62 rfl (by decide) rfl (Nat.le_of_ble_eq_true rfl) rfl dX4_readTarget_67 (fun _ m67 => (show zG P G _ _ 70 _ _ from ?_))
  refine z_iload_n ok 0 dX4_readTarget_70 rfl (show zG P G _ _ 71 _ _ from ?_)
  refine z_iconst ok (-1 : Int32) dX4_readTarget_71 (by decide) (show zG P G _ _ 72 _ _ from ?_)
  refine z_icmp_eq ok 79 dX4_readTarget_72 (by decide) ?_ (show zG P G _ _ 75 _ _ from ?_)
  · refine z_iconst ok (0 : Int32) dX4_readTarget_79 (by decide) (show zG P G _ _ 80 _ _ from ?_)
    exact z_zret ok dX4_readTarget_80
  · refine z_iconst ok (1 : Int32) dX4_readTarget_75 (by decide) (show zG P G _ _ 76 _ _ from ?_)
    refine z_goto ok 80 dX4_readTarget_76 (by decide) ?_
    exact z_zret ok dX4_readTarget_80
set_option maxRecDepth 100000 in
set_option maxHeartbeats 4000000 in
theorem m_X4_readTarget (l : Launch) {P : zSt} (hP : zOKP P) {a0 : Nat} (h_a0 : zT P 4 a0) : zMet l P yX4_readTarget cX4_readTarget 3 3 66 (some .boolean) [.ref a0] (fun m => f_X4_readTarget P a0 m) := by
  refine zMet.of hP (by decide +kernel) RX4 rfl [(0, .ref a0)] (fun h => h) (Nat.le_of_ble_eq_true rfl) (fun G m ok => ?_)
  show zG P G (f_X4_readTarget P a0 m) m 0 _ []
  unfold f_X4_readTarget
  refine z_aload_n ok 0 dX4_readTarget_0 rfl (show zG P G _ _ 1 _ _ from ?_)
  refine z_getR ok fd_81 h_a0 (Or.inl rfl) tf_X4_12 dX4_readTarget_1 (fun b1 h_b1 => (show zG P G _ _ 4 _ _ from ?_))
  refine z_aload_n ok 0 dX4_readTarget_4 rfl (show zG P G _ _ 5 _ _ from ?_)
  refine z_getR ok fd_80 h_a0 (Or.inl rfl) tf_X4_18 dX4_readTarget_5 (fun b5 h_b5 => (show zG P G _ _ 8 _ _ from ?_))
  refine z_aload_n ok 0 dX4_readTarget_8 rfl (show zG P G _ _ 9 _ _ from ?_)
  refine z_get ok fd_82 h_a0 (Or.inl rfl) tf_X4_22 dX4_readTarget_9 (show zG P G _ _ 12 _ _ from ?_)
  refine z_callVi ok [.int (zf m 82 a0)] (m_X7_signAt _ ok.p h_b5) cv_X4_54 h_b5 rfl (by decide) rfl (Nat.le_of_ble_eq_true rfl) rfl dX4_readTarget_12 (fun r12 m12 => (show zG P G _ _ 15 _ _ from ?_))
  refine z_bipush ok (48 : Int32) dX4_readTarget_15 (by decide) (show zG P G _ _ 17 _ _ from ?_)
  refine z_isub ok dX4_readTarget_17 (show zG P G _ _ 18 _ _ from ?_)
  refine z_callVi ok [.int (r12 - (48 : Int32))] (m_X3_hasTarget _ ok.p h_b1) cv_X4_82 h_b1 rfl (by decide) rfl (Nat.le_of_ble_eq_true rfl) rfl dX4_readTarget_18 (fun r18 m18 => (show zG P G _ _ 21 _ _ from ?_))
  refine z_if_eq ok 26 dX4_readTarget_21 (by decide) ?_ (show zG P G _ _ 24 _ _ from ?_)
  · refine z_aload_n ok 0 dX4_readTarget_26 rfl (show zG P G _ _ 27 _ _ from ?_)
    refine z_iconst ok (0 : Int32) dX4_readTarget_27 (by decide) (show zG P G _ _ 28 _ _ from ?_)
    refine z_iconst ok (3 : Int32) dX4_readTarget_28 (by decide) (show zG P G _ _ 29 _ _ from ?_)
    refine z_callVi ok [.int (0 : Int32), .int (3 : Int32)] (m_X4_readDigit _ ok.p h_a0) cv_X4_69 h_a0 rfl (by decide) rfl (Nat.le_of_ble_eq_true rfl) rfl dX4_readTarget_29 (fun r29 m29 => (show zG P G _ _ 32 _ _ from ?_))
    refine z_istore_n0 ok [(1, .int r29), (0, .ref a0)] dX4_readTarget_32 (by decide) rfl (show zG P G _ _ 33 _ _ from ?_)
    refine z_iload_n ok 0 dX4_readTarget_33 rfl (show zG P G _ _ 34 _ _ from ?_)
    refine z_iconst ok (-1 : Int32) dX4_readTarget_34 (by decide) (show zG P G _ _ 35 _ _ from ?_)
    refine z_icmp_ne ok 40 dX4_readTarget_35 (by decide) ?_ (show zG P G _ _ 38 _ _ from ?_)
    · refine z_aload_n ok 1 dX4_readTarget_40 rfl (show zG P G _ _ 41 _ _ from ?_)
      refine z_bipush ok (58 : Int32) dX4_readTarget_41 (by decide) (show zG P G _ _ 43 _ _ from ?_)
      refine z_callVi ok [.int (58 : Int32)] (m_X4_readSign _ ok.p h_a0) cv_X4_36 h_a0 rfl (by decide) rfl (Nat.le_of_ble_eq_true rfl) rfl dX4_readTarget_43 (fun r43 m43 => (show zG P G _ _ 46 _ _ from ?_))
      refine z_if_eq ok 59 dX4_readTarget_46 (by decide) ?_ (show zG P G _ _ 49 _ _ from ?_)
      · refine z_iconst ok (1 : Int32) dX4_readTarget_59 (by decide) (show zG P G _ _ 60 _ _ from ?_)
        exact z_sub [1, 0] [(0, .ref a0), (1, .int r29)] rfl (t_X4_readTarget_b60 ok h_a0)
      · refine z_aload_n ok 1 dX4_readTarget_49 rfl (show zG P G _ _ 50 _ _ from ?_)
        refine z_iconst ok (1 : Int32) dX4_readTarget_50 (by decide) (show zG P G _ _ 51 _ _ from ?_)
        refine z_bipush ok (9 : Int32) dX4_readTarget_51 (by decide) (show zG P G _ _ 53 _ _ from ?_)
        refine z_callVi ok [.int (1 : Int32), .int (9 : Int32)] (m_X4_readDigit _ ok.p h_a0) cv_X4_69 h_a0 rfl (by decide) rfl (Nat.le_of_ble_eq_true rfl) rfl dX4_readTarget_53 (fun r53 m53 => (show zG P G _ _ 56 _ _ from ?_))
        refine z_goto ok 60 dX4_readTarget_56 (by decide) ?_
        exact z_sub [1, 0] [(0, .ref a0), (1, .int r29)] rfl (t_X4_readTarget_b60 ok h_a0)
    · refine z_iconst ok (0 : Int32) dX4_readTarget_38 (by decide) (show zG P G _ _ 39 _ _ from ?_)
      exact z_zret ok dX4_readTarget_39
  · refine z_iconst ok (0 : Int32) dX4_readTarget_24 (by decide) (show zG P G _ _ 25 _ _ from ?_)
    exact z_zret ok dX4_readTarget_25
set_option maxRecDepth 100000 in
set_option maxHeartbeats 4000000 in
theorem t_X4_readTargets_b22 {P : zSt} {G : zC} (ok : zOK P G RX4 cX4_readTargets 2 4 88 (some .boolean)) (rec_2 : Nat → Int32 → zM → Option (Int32 × zM)) (hr_2 : ∀ (a0 : Nat) (x1 : Int32) (m : zM), zT P 4 a0 → zG P G (rec_2 a0 x1 m) m 2 [(0, .ref a0), (1, .int x1)] []) {a0 : Nat} {x1 : Int32} {m : zM} (h_a0 : zT P 4 a0) : zG P G (f_X4_readTargets_b22 P rec_2 a0 x1 m) m 22 [(0, .ref a0), (1, .int x1)] [] := by
  unfold f_X4_readTargets_b22
  refine z_aload_n ok 0 dX4_readTargets_22 rfl (show zG P G _ _ 23 _ _ from ?_)
  refine z_callVi ok [] (m_X4_readTarget _ ok.p h_a0) cv_X4_79 h_a0 rfl (by decide) rfl (Nat.le_of_ble_eq_true rfl) rfl dX4_readTargets_23 (fun r23 m23 => (show zG P G _ _ 26 _ _ from ?_))
  refine z_if_ne ok 31 dX4_readTargets_26 (by decide) ?_ (show zG P G _ _ 29 _ _ from ?_)
  · refine z_iinc ok (fun v31 => [(1, .int v31), (0, .ref a0)]) 1 dX4_readTargets_31 rfl (by decide) (by decide) (fun _ => rfl) (fun v31 => (show zG P G _ _ 34 _ _ from ?_))
    refine z_goto ok 2 dX4_readTargets_34 (by decide) ?_
    exact z_sub [1, 0] [(0, .ref a0), (1, .int v31)] rfl (hr_2 _ _ _ h_a0)
  · refine z_iconst ok (0 : Int32) dX4_readTargets_29 (by decide) (show zG P G _ _ 30 _ _ from ?_)
    exact z_zret ok dX4_readTargets_30
set_option maxRecDepth 100000 in
set_option maxHeartbeats 4000000 in
theorem t_X4_readTargets_b2 {P : zSt} {G : zC} (ok : zOK P G RX4 cX4_readTargets 2 4 88 (some .boolean))  : ∀ (n : Nat) (a0 : Nat) (x1 : Int32) (m : zM) (h_a0 : zT P 4 a0), zG P G (f_X4_readTargets_b2 P n a0 x1 m) m 2 [(0, .ref a0), (1, .int x1)] [] := by
  intro n
  induction n with
  | zero =>
    intros
    exact zG_none
  | succ n ih =>
    intro a0 x1 m h_a0
    unfold f_X4_readTargets_b2
    have hr_2 := ih
    refine z_iload_n ok 1 dX4_readTargets_2 rfl (show zG P G _ _ 3 _ _ from ?_)
    refine z_iconst ok (3 : Int32) dX4_readTargets_3 (by decide) (show zG P G _ _ 4 _ _ from ?_)
    refine z_icmp_ge ok 37 dX4_readTargets_4 (by decide) ?_ (show zG P G _ _ 7 _ _ from ?_)
    · refine z_iconst ok (1 : Int32) dX4_readTargets_37 (by decide) (show zG P G _ _ 38 _ _ from ?_)
      exact z_zret ok dX4_readTargets_38
    · refine z_iload_n ok 1 dX4_readTargets_7 rfl (show zG P G _ _ 8 _ _ from ?_)
      refine z_if_le ok 22 dX4_readTargets_8 (by decide) ?_ (show zG P G _ _ 11 _ _ from ?_)
      · exact z_sub [0, 1] [(0, .ref a0), (1, .int x1)] rfl (t_X4_readTargets_b22 ok (f_X4_readTargets_b2 P n) hr_2 h_a0)
      · refine z_aload_n ok 0 dX4_readTargets_11 rfl (show zG P G _ _ 12 _ _ from ?_)
        refine z_bipush ok (44 : Int32) dX4_readTargets_12 (by decide) (show zG P G _ _ 14 _ _ from ?_)
        refine z_callVi ok [.int (44 : Int32)] (m_X4_readSign _ ok.p h_a0) cv_X4_36 h_a0 rfl (by decide) rfl (Nat.le_of_ble_eq_true rfl) rfl dX4_readTargets_14 (fun r14 m14 => (show zG P G _ _ 17 _ _ from ?_))
        refine z_if_ne ok 22 dX4_readTargets_17 (by decide) ?_ (show zG P G _ _ 20 _ _ from ?_)
        · exact z_sub [0, 1] [(0, .ref a0), (1, .int x1)] rfl (t_X4_readTargets_b22 ok (f_X4_readTargets_b2 P n) hr_2 h_a0)
        · refine z_iconst ok (1 : Int32) dX4_readTargets_20 (by decide) (show zG P G _ _ 21 _ _ from ?_)
          exact z_zret ok dX4_readTargets_21
set_option maxRecDepth 100000 in
set_option maxHeartbeats 4000000 in
theorem m_X4_readTargets (l : Launch) {P : zSt} (hP : zOKP P) {a0 : Nat} (h_a0 : zT P 4 a0) : zMet l P yX4_readTargets cX4_readTargets 2 4 88 (some .boolean) [.ref a0] (fun m => f_X4_readTargets P a0 m) := by
  refine zMet.of hP (by decide +kernel) RX4 rfl [(0, .ref a0)] (fun h => h) (Nat.le_of_ble_eq_true rfl) (fun G m ok => ?_)
  show zG P G (f_X4_readTargets P a0 m) m 0 _ []
  unfold f_X4_readTargets
  refine z_iconst ok (0 : Int32) dX4_readTargets_0 (by decide) (show zG P G _ _ 1 _ _ from ?_)
  refine z_istore_n0 ok [(1, .int (0 : Int32)), (0, .ref a0)] dX4_readTargets_1 (by decide) rfl (show zG P G _ _ 2 _ _ from ?_)
  exact z_sub [1, 0] [(0, .ref a0), (1, .int (0 : Int32))] rfl (t_X4_readTargets_b2 ok zfuel _ _ _ h_a0)
set_option maxRecDepth 100000 in
set_option maxHeartbeats 4000000 in
theorem t_X4_read_b75 {P : zSt} {G : zC} (ok : zOK P G RX4 cX4_read 2 5 109 (some .int))  {a0 : Nat} {s0 : Int32} {m : zM} (h_a0 : zT P 4 a0) : zG P G (f_X4_read_b75 P a0 s0 m) m 75 [(0, .ref a0)] [.int s0] := by
  unfold f_X4_read_b75
  refine z_istore_n0 ok [(1, .int s0), (0, .ref a0)] dX4_read_75 (by decide) rfl (show zG P G _ _ 76 _ _ from ?_)
  refine z_iload_n ok 0 dX4_read_76 rfl (show zG P G _ _ 77 _ _ from ?_)
  refine z_if_eq ok 84 dX4_read_77 (by decide) ?_ (show zG P G _ _ 80 _ _ from ?_)
  · refine z_aload_n ok 1 dX4_read_84 rfl (show zG P G _ _ 85 _ _ from ?_)
    refine z_get ok fd_82 h_a0 (Or.inl rfl) tf_X4_22 dX4_read_85 (show zG P G _ _ 88 _ _ from ?_)
    exact z_iret ok dX4_read_88
  · refine z_iconst ok (-1 : Int32) dX4_read_80 (by decide) (show zG P G _ _ 81 _ _ from ?_)
    refine z_goto ok 88 dX4_read_81 (by decide) ?_
    exact z_iret ok dX4_read_88
set_option maxRecDepth 100000 in
set_option maxHeartbeats 4000000 in
theorem t_X4_read_b74 {P : zSt} {G : zC} (ok : zOK P G RX4 cX4_read 2 5 109 (some .int))  {a0 : Nat} {m : zM} (h_a0 : zT P 4 a0) : zG P G (f_X4_read_b74 P a0 m) m 74 [(0, .ref a0)] [] := by
  unfold f_X4_read_b74
  refine z_iconst ok (0 : Int32) dX4_read_74 (by decide) (show zG P G _ _ 75 _ _ from ?_)
  exact z_sub [0] [(0, .ref a0)] rfl (t_X4_read_b75 ok h_a0)
set_option maxRecDepth 100000 in
set_option maxHeartbeats 4000000 in
theorem m_X4_read (l : Launch) {P : zSt} (hP : zOKP P) {a0 : Nat} (h_a0 : zT P 4 a0) : zMet l P yX4_read cX4_read 2 5 109 (some .int) [.ref a0] (fun m => f_X4_read P a0 m) := by
  refine zMet.of hP (by decide +kernel) RX4 rfl [(0, .ref a0)] (fun h => h) (Nat.le_of_ble_eq_true rfl) (fun G m ok => ?_)
  show zG P G (f_X4_read P a0 m) m 0 _ []
  unfold f_X4_read
  refine z_aload_n ok 0 dX4_read_0 rfl (show zG P G _ _ 1 _ _ from ?_)
  refine z_iconst ok (0 : Int32) dX4_read_1 (by decide) (show zG P G _ _ 2 _ _ from ?_)
  refine z_put ok fd_82 h_a0 (Or.inl rfl) tf_X4_22 dX4_read_2 (fun m2 => (show zG P G _ _ 5 _ _ from ?_))
  refine z_aload_n ok 0 dX4_read_5 rfl (show zG P G _ _ 6 _ _ from ?_)
  refine z_getR ok fd_81 h_a0 (Or.inl rfl) tf_X4_12 dX4_read_6 (fun b6 h_b6 => (show zG P G _ _ 9 _ _ from ?_))
  refine z_callVv ok [] (m_X3_begin _ ok.p h_b6) cv_X4_26 h_b6 rfl (by decide) rfl (Nat.le_of_ble_eq_true rfl) rfl dX4_read_9 (fun _ m9 => (show zG P G _ _ 12 _ _ from ?_))
  refine z_aload_n ok 0 dX4_read_12 rfl (show zG P G _ _ 13 _ _ from ?_)
  refine z_callVi ok [] (m_X4_readPrefix _ ok.p h_a0) cv_X4_29 h_a0 rfl (by decide) rfl (Nat.le_of_ble_eq_true rfl) rfl dX4_read_13 (fun r13 m13 => (show zG P G _ _ 16 _ _ from ?_))
  refine z_if_eq ok 74 dX4_read_16 (by decide) ?_ (show zG P G _ _ 19 _ _ from ?_)
  · exact z_sub [0] [(0, .ref a0)] rfl (t_X4_read_b74 ok h_a0)
  · refine z_aload_n ok 0 dX4_read_19 rfl (show zG P G _ _ 20 _ _ from ?_)
    refine z_callVi ok [] (m_X4_readRange _ ok.p h_a0) cv_X4_33 h_a0 rfl (by decide) rfl (Nat.le_of_ble_eq_true rfl) rfl dX4_read_20 (fun r20 m20 => (show zG P G _ _ 23 _ _ from ?_))
    refine z_if_eq ok 74 dX4_read_23 (by decide) ?_ (show zG P G _ _ 26 _ _ from ?_)
    · exact z_sub [0] [(0, .ref a0)] rfl (t_X4_read_b74 ok h_a0)
    · refine z_aload_n ok 0 dX4_read_26 rfl (show zG P G _ _ 27 _ _ from ?_)
      refine z_bipush ok (61 : Int32) dX4_read_27 (by decide) (show zG P G _ _ 29 _ _ from ?_)
      refine z_callVi ok [.int (61 : Int32)] (m_X4_readSign _ ok.p h_a0) cv_X4_36 h_a0 rfl (by decide) rfl (Nat.le_of_ble_eq_true rfl) rfl dX4_read_29 (fun r29 m29 => (show zG P G _ _ 32 _ _ from ?_))
      refine z_if_eq ok 74 dX4_read_32 (by decide) ?_ (show zG P G _ _ 35 _ _ from ?_)
      · exact z_sub [0] [(0, .ref a0)] rfl (t_X4_read_b74 ok h_a0)
      · refine z_aload_n ok 0 dX4_read_35 rfl (show zG P G _ _ 36 _ _ from ?_)
        refine z_callVi ok [] (m_X4_readTargets _ ok.p h_a0) cv_X4_40 h_a0 rfl (by decide) rfl (Nat.le_of_ble_eq_true rfl) rfl dX4_read_36 (fun r36 m36 => (show zG P G _ _ 39 _ _ from ?_))
        refine z_if_eq ok 74 dX4_read_39 (by decide) ?_ (show zG P G _ _ 42 _ _ from ?_)
        · exact z_sub [0] [(0, .ref a0)] rfl (t_X4_read_b74 ok h_a0)
        · refine z_aload_n ok 0 dX4_read_42 rfl (show zG P G _ _ 43 _ _ from ?_)
          refine z_callVi ok [] (m_X4_readShadow _ ok.p h_a0) cv_X4_43 h_a0 rfl (by decide) rfl (Nat.le_of_ble_eq_true rfl) rfl dX4_read_43 (fun r43 m43 => (show zG P G _ _ 46 _ _ from ?_))
          refine z_if_eq ok 74 dX4_read_46 (by decide) ?_ (show zG P G _ _ 49 _ _ from ?_)
          · exact z_sub [0] [(0, .ref a0)] rfl (t_X4_read_b74 ok h_a0)
          · refine z_aload_n ok 0 dX4_read_49 rfl (show zG P G _ _ 50 _ _ from ?_)
            refine z_callVi ok [] (m_X4_readAttempts _ ok.p h_a0) cv_X4_46 h_a0 rfl (by decide) rfl (Nat.le_of_ble_eq_true rfl) rfl dX4_read_50 (fun r50 m50 => (show zG P G _ _ 53 _ _ from ?_))
            refine z_if_eq ok 74 dX4_read_53 (by decide) ?_ (show zG P G _ _ 56 _ _ from ?_)
            · exact z_sub [0] [(0, .ref a0)] rfl (t_X4_read_b74 ok h_a0)
            · refine z_aload_n ok 0 dX4_read_56 rfl (show zG P G _ _ 57 _ _ from ?_)
              refine z_get ok fd_82 h_a0 (Or.inl rfl) tf_X4_22 dX4_read_57 (show zG P G _ _ 60 _ _ from ?_)
              refine z_aload_n ok 0 dX4_read_60 rfl (show zG P G _ _ 61 _ _ from ?_)
              refine z_getR ok fd_80 h_a0 (Or.inl rfl) tf_X4_18 dX4_read_61 (fun b61 h_b61 => (show zG P G _ _ 64 _ _ from ?_))
              refine z_getn ok fd_141 h_b61 (Or.inl rfl) tf_X4_49 dX4_read_64 (show zG P G _ _ 67 _ _ from ?_)
              refine z_icmp_ne ok 74 dX4_read_67 (by decide) ?_ (show zG P G _ _ 70 _ _ from ?_)
              · exact z_sub [0] [(0, .ref a0)] rfl (t_X4_read_b74 ok h_a0)
              · refine z_iconst ok (1 : Int32) dX4_read_70 (by decide) (show zG P G _ _ 71 _ _ from ?_)
                refine z_goto ok 75 dX4_read_71 (by decide) ?_
                exact z_sub [0] [(0, .ref a0)] rfl (t_X4_read_b75 ok h_a0)
set_option maxRecDepth 100000 in
set_option maxHeartbeats 4000000 in
theorem m_X6_property (l : Launch) {P : zSt} (hP : zOKP P) {a0 : Nat} {i1 : Int32} (h_a0 : zT P 6 a0) : zMet l P yX6_property cX6_property 2 0 0 (some .int) [.ref a0, .int i1] (fun m => f_X6_property P a0 i1 m) := by
  refine zMet.of hP (by decide +kernel) RX6 rfl [(0, .ref a0), (1, .int i1)] (fun h => h) (Nat.le_of_ble_eq_true rfl) (fun G m ok => ?_)
  show zG P G (f_X6_property P a0 i1 m) m 0 _ []
  unfold f_X6_property
  refine z_iload_n ok 1 dX6_property_0 rfl (show zG P G _ _ 1 _ _ from ?_)
  refine z_tsw ok 52 [32, 37, 42, 47] dX6_property_1 (by decide) (by decide) (by decide) ⟨?_, ?_, ?_, ?_, trivial⟩ ?_
  · refine z_aload_n ok 0 dX6_property_32 rfl (show zG P G _ _ 33 _ _ from ?_)
    refine z_get ok fd_123 h_a0 (Or.inl rfl) tf_X6_9 dX6_property_33 (show zG P G _ _ 36 _ _ from ?_)
    exact z_iret ok dX6_property_36
  · refine z_aload_n ok 0 dX6_property_37 rfl (show zG P G _ _ 38 _ _ from ?_)
    refine z_get ok fd_120 h_a0 (Or.inr ts_140) tf_X6_15 dX6_property_38 (show zG P G _ _ 41 _ _ from ?_)
    exact z_iret ok dX6_property_41
  · refine z_aload_n ok 0 dX6_property_42 rfl (show zG P G _ _ 43 _ _ from ?_)
    refine z_get ok fd_121 h_a0 (Or.inr ts_148) tf_X6_18 dX6_property_43 (show zG P G _ _ 46 _ _ from ?_)
    exact z_iret ok dX6_property_46
  · refine z_aload_n ok 0 dX6_property_47 rfl (show zG P G _ _ 48 _ _ from ?_)
    refine z_get ok fd_124 h_a0 (Or.inl rfl) tf_X6_21 dX6_property_48 (show zG P G _ _ 51 _ _ from ?_)
    exact z_iret ok dX6_property_51
  · refine z_bipush ok (-2 : Int32) dX6_property_52 (by decide) (show zG P G _ _ 54 _ _ from ?_)
    exact z_iret ok dX6_property_54
set_option maxRecDepth 100000 in
set_option maxHeartbeats 4000000 in
theorem t_X7_isPath_b2 {P : zSt} {G : zC} (ok : zOK P G RX7 cX7_isPath 2 2 43 (some .boolean))  : ∀ (n : Nat) (a0 : Nat) (x1 : Int32) (m : zM) (h_a0 : zT P 7 a0), zG P G (f_X7_isPath_b2 P n a0 x1 m) m 2 [(0, .ref a0), (1, .int x1)] [] := by
  intro n
  induction n with
  | zero =>
    intros
    exact zG_none
  | succ n ih =>
    intro a0 x1 m h_a0
    unfold f_X7_isPath_b2
    have hr_2 := ih
    refine z_iload_n ok 1 dX7_isPath_2 rfl (show zG P G _ _ 3 _ _ from ?_)
    refine z_aload_n ok 0 dX7_isPath_3 rfl (show zG P G _ _ 4 _ _ from ?_)
    refine z_get ok fd_141 h_a0 (Or.inl rfl) tf_X7_15 dX7_isPath_4 (show zG P G _ _ 7 _ _ from ?_)
    refine z_icmp_ge ok 30 dX7_isPath_7 (by decide) ?_ (show zG P G _ _ 10 _ _ from ?_)
    · refine z_aload_n ok 0 dX7_isPath_30 rfl (show zG P G _ _ 31 _ _ from ?_)
      refine z_iconst ok (0 : Int32) dX7_isPath_31 (by decide) (show zG P G _ _ 32 _ _ from ?_)
      refine z_callVi ok [.int (0 : Int32)] (m_X7_signAt _ ok.p h_a0) cv_X7_31 h_a0 rfl (by decide) rfl (Nat.le_of_ble_eq_true rfl) rfl dX7_isPath_32 (fun r32 m32 => (show zG P G _ _ 35 _ _ from ?_))
      refine z_bipush ok (47 : Int32) dX7_isPath_35 (by decide) (show zG P G _ _ 37 _ _ from ?_)
      refine z_icmp_ne ok 44 dX7_isPath_37 (by decide) ?_ (show zG P G _ _ 40 _ _ from ?_)
      · refine z_iconst ok (0 : Int32) dX7_isPath_44 (by decide) (show zG P G _ _ 45 _ _ from ?_)
        exact z_zret ok dX7_isPath_45
      · refine z_iconst ok (1 : Int32) dX7_isPath_40 (by decide) (show zG P G _ _ 41 _ _ from ?_)
        refine z_goto ok 45 dX7_isPath_41 (by decide) ?_
        exact z_zret ok dX7_isPath_45
    · refine z_aload_n ok 0 dX7_isPath_10 rfl (show zG P G _ _ 11 _ _ from ?_)
      refine z_getR ok fd_140 h_a0 (Or.inl rfl) tf_X7_9 dX7_isPath_11 (fun b11 h_b11 => (show zG P G _ _ 14 _ _ from ?_))
      refine z_iload_n ok 1 dX7_isPath_14 rfl (show zG P G _ _ 15 _ _ from ?_)
      refine z_cald ok h_b11 dX7_isPath_15 (show zG P G _ _ 16 _ _ from ?_)
      refine z_callSi ok [.int (za m b11 x1.toNatClampNeg)] (m_X10_isPathSign _ ok.p) cv_X7_27 rfl (by decide) rfl (Nat.le_of_ble_eq_true rfl) rfl dX7_isPath_16 (fun r16 m16 => (show zG P G _ _ 19 _ _ from ?_))
      refine z_if_ne ok 24 dX7_isPath_19 (by decide) ?_ (show zG P G _ _ 22 _ _ from ?_)
      · refine z_iinc ok (fun v24 => [(1, .int v24), (0, .ref a0)]) 1 dX7_isPath_24 rfl (by decide) (by decide) (fun _ => rfl) (fun v24 => (show zG P G _ _ 27 _ _ from ?_))
        refine z_goto ok 2 dX7_isPath_27 (by decide) ?_
        exact z_sub [1, 0] [(0, .ref a0), (1, .int v24)] rfl (hr_2 _ _ _ h_a0)
      · refine z_iconst ok (0 : Int32) dX7_isPath_22 (by decide) (show zG P G _ _ 23 _ _ from ?_)
        exact z_zret ok dX7_isPath_23
set_option maxRecDepth 100000 in
set_option maxHeartbeats 4000000 in
theorem m_X7_isPath (l : Launch) {P : zSt} (hP : zOKP P) {a0 : Nat} (h_a0 : zT P 7 a0) : zMet l P yX7_isPath cX7_isPath 2 2 43 (some .boolean) [.ref a0] (fun m => f_X7_isPath P a0 m) := by
  refine zMet.of hP (by decide +kernel) RX7 rfl [(0, .ref a0)] (fun h => h) (Nat.le_of_ble_eq_true rfl) (fun G m ok => ?_)
  show zG P G (f_X7_isPath P a0 m) m 0 _ []
  unfold f_X7_isPath
  refine z_iconst ok (0 : Int32) dX7_isPath_0 (by decide) (show zG P G _ _ 1 _ _ from ?_)
  refine z_istore_n0 ok [(1, .int (0 : Int32)), (0, .ref a0)] dX7_isPath_1 (by decide) rfl (show zG P G _ _ 2 _ _ from ?_)
  exact z_sub [1, 0] [(0, .ref a0), (1, .int (0 : Int32))] rfl (t_X7_isPath_b2 ok zfuel _ _ _ h_a0)
set_option maxRecDepth 100000 in
set_option maxHeartbeats 4000000 in
theorem m_X10_isService (l : Launch) {P : zSt} (hP : zOKP P) {i0 : Int32}  : zMet l P yX10_isService cX10_isService 1 1 22 (some .boolean) [.int i0] (fun m => f_X10_isService P i0 m) := by
  refine zMet.of hP (by decide +kernel) RX10 rfl [(0, .int i0)] (fun h => h) (Nat.le_of_ble_eq_true rfl) (fun G m ok => ?_)
  show zG P G (f_X10_isService P i0 m) m 0 _ []
  unfold f_X10_isService
  refine z_iload_n ok 0 dX10_isService_0 rfl (show zG P G _ _ 1 _ _ from ?_)
  refine z_iconst ok (0 : Int32) dX10_isService_1 (by decide) (show zG P G _ _ 2 _ _ from ?_)
  refine z_iconst ok (3 : Int32) dX10_isService_2 (by decide) (show zG P G _ _ 3 _ _ from ?_)
  refine z_callSi ok [.int i0, .int (0 : Int32), .int (3 : Int32)] (m_X10_isWithin _ ok.p) cv_X10_58 rfl (by decide) rfl (Nat.le_of_ble_eq_true rfl) rfl dX10_isService_3 (fun r3 m3 => (show zG P G _ _ 6 _ _ from ?_))
  exact z_zret ok dX10_isService_6
set_option maxRecDepth 100000 in
set_option maxHeartbeats 4000000 in
theorem m_X10_isZone (l : Launch) {P : zSt} (hP : zOKP P) {i0 : Int32}  : zMet l P yX10_isZone cX10_isZone 1 1 22 (some .boolean) [.int i0] (fun m => f_X10_isZone P i0 m) := by
  refine zMet.of hP (by decide +kernel) RX10 rfl [(0, .int i0)] (fun h => h) (Nat.le_of_ble_eq_true rfl) (fun G m ok => ?_)
  show zG P G (f_X10_isZone P i0 m) m 0 _ []
  unfold f_X10_isZone
  refine z_iload_n ok 0 dX10_isZone_0 rfl (show zG P G _ _ 1 _ _ from ?_)
  refine z_iconst ok (0 : Int32) dX10_isZone_1 (by decide) (show zG P G _ _ 2 _ _ from ?_)
  refine z_iconst ok (2 : Int32) dX10_isZone_2 (by decide) (show zG P G _ _ 3 _ _ from ?_)
  refine z_callSi ok [.int i0, .int (0 : Int32), .int (2 : Int32)] (m_X10_isWithin _ ok.p) cv_X10_58 rfl (by decide) rfl (Nat.le_of_ble_eq_true rfl) rfl dX10_isZone_3 (fun r3 m3 => (show zG P G _ _ 6 _ _ from ?_))
  exact z_zret ok dX10_isZone_6
set_option maxRecDepth 100000 in
set_option maxHeartbeats 4000000 in
theorem t_X10_addBackend_b24 {P : zSt} {G : zC} (ok : zOK P G RX10 cX10_addBackend 4 2 46 (some .int))   {m : zM}  : zG P G (f_X10_addBackend_b24 P  m) m 24 [] [] := by
  unfold f_X10_addBackend_b24
  refine z_bipush ok (-2 : Int32) dX10_addBackend_24 (by decide) (show zG P G _ _ 26 _ _ from ?_)
  exact z_iret ok dX10_addBackend_26
set_option maxRecDepth 100000 in
set_option maxHeartbeats 4000000 in
theorem m_X10_addBackend (l : Launch) {P : zSt} (hP : zOKP P) {a0 : Nat} {i1 : Int32} {i2 : Int32} {i3 : Int32} (h_a0 : zT P 9 a0) : zMet l P yX10_addBackend cX10_addBackend 4 2 46 (some .int) [.ref a0, .int i1, .int i2, .int i3] (fun m => f_X10_addBackend P a0 i1 i2 i3 m) := by
  refine zMet.of hP (by decide +kernel) RX10 rfl [(0, .ref a0), (1, .int i1), (2, .int i2), (3, .int i3)] (fun h => h) (Nat.le_of_ble_eq_true rfl) (fun G m ok => ?_)
  show zG P G (f_X10_addBackend P a0 i1 i2 i3 m) m 0 _ []
  unfold f_X10_addBackend
  refine z_iload_n ok 1 dX10_addBackend_0 rfl (show zG P G _ _ 1 _ _ from ?_)
  refine z_callSi ok [.int i1] (m_X10_isService _ ok.p) cv_X10_51 rfl (by decide) rfl (Nat.le_of_ble_eq_true rfl) rfl dX10_addBackend_1 (fun r1 m1 => (show zG P G _ _ 4 _ _ from ?_))
  refine z_if_eq ok 24 dX10_addBackend_4 (by decide) ?_ (show zG P G _ _ 7 _ _ from ?_)
  · exact z_sub [] [] rfl (t_X10_addBackend_b24 ok)
  · refine z_iload_n ok 2 dX10_addBackend_7 rfl (show zG P G _ _ 8 _ _ from ?_)
    refine z_callSi ok [.int i2] (m_X10_isZone _ ok.p) cv_X10_55 rfl (by decide) rfl (Nat.le_of_ble_eq_true rfl) rfl dX10_addBackend_8 (fun r8 m8 => (show zG P G _ _ 11 _ _ from ?_))
    refine z_if_eq ok 24 dX10_addBackend_11 (by decide) ?_ (show zG P G _ _ 14 _ _ from ?_)
    · exact z_sub [] [] rfl (t_X10_addBackend_b24 ok)
    · refine z_iload_n ok 3 dX10_addBackend_14 rfl (show zG P G _ _ 15 _ _ from ?_)
      refine z_iconst ok (0 : Int32) dX10_addBackend_15 (by decide) (show zG P G _ _ 16 _ _ from ?_)
      refine z_bipush ok (9 : Int32) dX10_addBackend_16 (by decide) (show zG P G _ _ 18 _ _ from ?_)
      refine z_callSi ok [.int i3, .int (0 : Int32), .int (9 : Int32)] (m_X10_isWithin _ ok.p) cv_X10_58 rfl (by decide) rfl (Nat.le_of_ble_eq_true rfl) rfl dX10_addBackend_18 (fun r18 m18 => (show zG P G _ _ 21 _ _ from ?_))
      refine z_if_ne ok 27 dX10_addBackend_21 (by decide) ?_ (show zG P G _ _ 24 _ _ from ?_)
      · refine z_aload_n ok 0 dX10_addBackend_27 rfl (show zG P G _ _ 28 _ _ from ?_)
        refine z_getR ok fd_180 h_a0 (Or.inl rfl) tf_X10_10 dX10_addBackend_28 (fun b28 h_b28 => (show zG P G _ _ 31 _ _ from ?_))
        refine z_getn ok fd_21 h_b28 (Or.inl rfl) tf_X10_62 dX10_addBackend_31 (show zG P G _ _ 34 _ _ from ?_)
        refine z_bipush ok (12 : Int32) dX10_addBackend_34 (by decide) (show zG P G _ _ 36 _ _ from ?_)
        refine z_icmp_lt ok 42 dX10_addBackend_36 (by decide) ?_ (show zG P G _ _ 39 _ _ from ?_)
        · refine z_aload_n ok 0 dX10_addBackend_42 rfl (show zG P G _ _ 43 _ _ from ?_)
          refine z_getR ok fd_184 h_a0 (Or.inl rfl) tf_X10_28 dX10_addBackend_43 (fun b43 h_b43 => (show zG P G _ _ 46 _ _ from ?_))
          refine z_callVv ok [] (m_X2_stop _ ok.p h_b43) cv_X10_66 h_b43 rfl (by decide) rfl (Nat.le_of_ble_eq_true rfl) rfl dX10_addBackend_46 (fun _ m46 => (show zG P G _ _ 49 _ _ from ?_))
          refine z_aload_n ok 0 dX10_addBackend_49 rfl (show zG P G _ _ 50 _ _ from ?_)
          refine z_getR ok fd_180 h_a0 (Or.inl rfl) tf_X10_10 dX10_addBackend_50 (fun b50 h_b50 => (show zG P G _ _ 53 _ _ from ?_))
          refine z_iload_n ok 1 dX10_addBackend_53 rfl (show zG P G _ _ 54 _ _ from ?_)
          refine z_iload_n ok 2 dX10_addBackend_54 rfl (show zG P G _ _ 55 _ _ from ?_)
          refine z_iload_n ok 3 dX10_addBackend_55 rfl (show zG P G _ _ 56 _ _ from ?_)
          refine z_callVi ok [.int i1, .int i2, .int i3] (m_X1_takeBackend _ ok.p h_b50) cv_X10_69 h_b50 rfl (by decide) rfl (Nat.le_of_ble_eq_true rfl) rfl dX10_addBackend_56 (fun r56 m56 => (show zG P G _ _ 59 _ _ from ?_))
          exact z_iret ok dX10_addBackend_59
        · refine z_bipush ok (-3 : Int32) dX10_addBackend_39 (by decide) (show zG P G _ _ 41 _ _ from ?_)
          exact z_iret ok dX10_addBackend_41
      · exact z_sub [] [] rfl (t_X10_addBackend_b24 ok)
set_option maxRecDepth 100000 in
set_option maxHeartbeats 4000000 in
theorem m_X10_setWeight (l : Launch) {P : zSt} (hP : zOKP P) {a0 : Nat} {i1 : Int32} {i2 : Int32} (h_a0 : zT P 9 a0) : zMet l P yX10_setWeight cX10_setWeight 4 2 43 (some .int) [.ref a0, .int i1, .int i2] (fun m => f_X10_setWeight P a0 i1 i2 m) := by
  refine zMet.of hP (by decide +kernel) RX10 rfl [(0, .ref a0), (1, .int i1), (2, .int i2)] (fun h => h) (Nat.le_of_ble_eq_true rfl) (fun G m ok => ?_)
  show zG P G (f_X10_setWeight P a0 i1 i2 m) m 0 _ []
  unfold f_X10_setWeight
  refine z_aload_n ok 0 dX10_setWeight_0 rfl (show zG P G _ _ 1 _ _ from ?_)
  refine z_getR ok fd_180 h_a0 (Or.inl rfl) tf_X10_10 dX10_setWeight_1 (fun b1 h_b1 => (show zG P G _ _ 4 _ _ from ?_))
  refine z_iload_n ok 1 dX10_setWeight_4 rfl (show zG P G _ _ 5 _ _ from ?_)
  refine z_callVi ok [.int i1] (m_X1_hasBackend _ ok.p h_b1) cv_X10_73 h_b1 rfl (by decide) rfl (Nat.le_of_ble_eq_true rfl) rfl dX10_setWeight_5 (fun r5 m5 => (show zG P G _ _ 8 _ _ from ?_))
  refine z_if_ne ok 13 dX10_setWeight_8 (by decide) ?_ (show zG P G _ _ 11 _ _ from ?_)
  · refine z_iload_n ok 2 dX10_setWeight_13 rfl (show zG P G _ _ 14 _ _ from ?_)
    refine z_iconst ok (0 : Int32) dX10_setWeight_14 (by decide) (show zG P G _ _ 15 _ _ from ?_)
    refine z_bipush ok (9 : Int32) dX10_setWeight_15 (by decide) (show zG P G _ _ 17 _ _ from ?_)
    refine z_callSi ok [.int i2, .int (0 : Int32), .int (9 : Int32)] (m_X10_isWithin _ ok.p) cv_X10_58 rfl (by decide) rfl (Nat.le_of_ble_eq_true rfl) rfl dX10_setWeight_17 (fun r17 m17 => (show zG P G _ _ 20 _ _ from ?_))
    refine z_if_ne ok 26 dX10_setWeight_20 (by decide) ?_ (show zG P G _ _ 23 _ _ from ?_)
    · refine z_aload_n ok 0 dX10_setWeight_26 rfl (show zG P G _ _ 27 _ _ from ?_)
      refine z_getR ok fd_184 h_a0 (Or.inl rfl) tf_X10_28 dX10_setWeight_27 (fun b27 h_b27 => (show zG P G _ _ 30 _ _ from ?_))
      refine z_callVv ok [] (m_X2_stop _ ok.p h_b27) cv_X10_66 h_b27 rfl (by decide) rfl (Nat.le_of_ble_eq_true rfl) rfl dX10_setWeight_30 (fun _ m30 => (show zG P G _ _ 33 _ _ from ?_))
      refine z_aload_n ok 0 dX10_setWeight_33 rfl (show zG P G _ _ 34 _ _ from ?_)
      refine z_getR ok fd_180 h_a0 (Or.inl rfl) tf_X10_10 dX10_setWeight_34 (fun b34 h_b34 => (show zG P G _ _ 37 _ _ from ?_))
      refine z_getRn ok fd_20 h_b34 (Or.inl rfl) tf_X10_76 dX10_setWeight_37 (fun b37 h_b37 => (show zG P G _ _ 40 _ _ from ?_))
      refine z_iload_n ok 1 dX10_setWeight_40 rfl (show zG P G _ _ 41 _ _ from ?_)
      refine z_aald ok ek_13 h_b37 dX10_setWeight_41 (fun b41 h_b41 => (show zG P G _ _ 42 _ _ from ?_))
      refine z_get ok fd_0 h_b41 (Or.inr ts_142) tf_X10_80 dX10_setWeight_42 (show zG P G _ _ 45 _ _ from ?_)
      refine z_istore_n ok (fun v45 => [(3, .int v45), (0, .ref a0), (1, .int i1), (2, .int i2)]) dX10_setWeight_45 (by decide) (fun _ => rfl) (fun v45 => (show zG P G _ _ 46 _ _ from ?_))
      refine z_aload_n ok 1 dX10_setWeight_46 rfl (show zG P G _ _ 47 _ _ from ?_)
      refine z_getR ok fd_180 h_a0 (Or.inl rfl) tf_X10_10 dX10_setWeight_47 (fun b47 h_b47 => (show zG P G _ _ 50 _ _ from ?_))
      refine z_getRn ok fd_20 h_b47 (Or.inl rfl) tf_X10_76 dX10_setWeight_50 (fun b50 h_b50 => (show zG P G _ _ 53 _ _ from ?_))
      refine z_iload_n ok 2 dX10_setWeight_53 rfl (show zG P G _ _ 54 _ _ from ?_)
      refine z_aald ok ek_13 h_b50 dX10_setWeight_54 (fun b54 h_b54 => (show zG P G _ _ 55 _ _ from ?_))
      refine z_iload_n ok 3 dX10_setWeight_55 rfl (show zG P G _ _ 56 _ _ from ?_)
      refine z_put ok fd_0 h_b54 (Or.inr ts_142) tf_X10_80 dX10_setWeight_56 (fun m56 => (show zG P G _ _ 59 _ _ from ?_))
      refine z_iload_n ok 0 dX10_setWeight_59 rfl (show zG P G _ _ 60 _ _ from ?_)
      exact z_iret ok dX10_setWeight_60
    · refine z_bipush ok (-2 : Int32) dX10_setWeight_23 (by decide) (show zG P G _ _ 25 _ _ from ?_)
      exact z_iret ok dX10_setWeight_25
  · refine z_iconst ok (-1 : Int32) dX10_setWeight_11 (by decide) (show zG P G _ _ 12 _ _ from ?_)
    exact z_iret ok dX10_setWeight_12
set_option maxRecDepth 100000 in
set_option maxHeartbeats 4000000 in
theorem m_X10_setPattern (l : Launch) {P : zSt} (hP : zOKP P) {a0 : Nat} {i1 : Int32} {i2 : Int32} (h_a0 : zT P 9 a0) : zMet l P yX10_setPattern cX10_setPattern 4 2 43 (some .int) [.ref a0, .int i1, .int i2] (fun m => f_X10_setPattern P a0 i1 i2 m) := by
  refine zMet.of hP (by decide +kernel) RX10 rfl [(0, .ref a0), (1, .int i1), (2, .int i2)] (fun h => h) (Nat.le_of_ble_eq_true rfl) (fun G m ok => ?_)
  show zG P G (f_X10_setPattern P a0 i1 i2 m) m 0 _ []
  unfold f_X10_setPattern
  refine z_aload_n ok 0 dX10_setPattern_0 rfl (show zG P G _ _ 1 _ _ from ?_)
  refine z_getR ok fd_180 h_a0 (Or.inl rfl) tf_X10_10 dX10_setPattern_1 (fun b1 h_b1 => (show zG P G _ _ 4 _ _ from ?_))
  refine z_iload_n ok 1 dX10_setPattern_4 rfl (show zG P G _ _ 5 _ _ from ?_)
  refine z_callVi ok [.int i1] (m_X1_hasBackend _ ok.p h_b1) cv_X10_73 h_b1 rfl (by decide) rfl (Nat.le_of_ble_eq_true rfl) rfl dX10_setPattern_5 (fun r5 m5 => (show zG P G _ _ 8 _ _ from ?_))
  refine z_if_ne ok 13 dX10_setPattern_8 (by decide) ?_ (show zG P G _ _ 11 _ _ from ?_)
  · refine z_iload_n ok 2 dX10_setPattern_13 rfl (show zG P G _ _ 14 _ _ from ?_)
    refine z_iconst ok (0 : Int32) dX10_setPattern_14 (by decide) (show zG P G _ _ 15 _ _ from ?_)
    refine z_sipush ok (255 : Int32) dX10_setPattern_15 (by decide) (show zG P G _ _ 18 _ _ from ?_)
    refine z_callSi ok [.int i2, .int (0 : Int32), .int (255 : Int32)] (m_X10_isWithin _ ok.p) cv_X10_58 rfl (by decide) rfl (Nat.le_of_ble_eq_true rfl) rfl dX10_setPattern_18 (fun r18 m18 => (show zG P G _ _ 21 _ _ from ?_))
    refine z_if_ne ok 27 dX10_setPattern_21 (by decide) ?_ (show zG P G _ _ 24 _ _ from ?_)
    · refine z_aload_n ok 0 dX10_setPattern_27 rfl (show zG P G _ _ 28 _ _ from ?_)
      refine z_getR ok fd_184 h_a0 (Or.inl rfl) tf_X10_28 dX10_setPattern_28 (fun b28 h_b28 => (show zG P G _ _ 31 _ _ from ?_))
      refine z_callVv ok [] (m_X2_stop _ ok.p h_b28) cv_X10_66 h_b28 rfl (by decide) rfl (Nat.le_of_ble_eq_true rfl) rfl dX10_setPattern_31 (fun _ m31 => (show zG P G _ _ 34 _ _ from ?_))
      refine z_aload_n ok 0 dX10_setPattern_34 rfl (show zG P G _ _ 35 _ _ from ?_)
      refine z_getR ok fd_180 h_a0 (Or.inl rfl) tf_X10_10 dX10_setPattern_35 (fun b35 h_b35 => (show zG P G _ _ 38 _ _ from ?_))
      refine z_getRn ok fd_20 h_b35 (Or.inl rfl) tf_X10_76 dX10_setPattern_38 (fun b38 h_b38 => (show zG P G _ _ 41 _ _ from ?_))
      refine z_iload_n ok 1 dX10_setPattern_41 rfl (show zG P G _ _ 42 _ _ from ?_)
      refine z_aald ok ek_13 h_b38 dX10_setPattern_42 (fun b42 h_b42 => (show zG P G _ _ 43 _ _ from ?_))
      refine z_getn ok fd_5 h_b42 (Or.inl rfl) tf_X10_85 dX10_setPattern_43 (show zG P G _ _ 46 _ _ from ?_)
      refine z_istore_n ok (fun v46 => [(3, .int v46), (0, .ref a0), (1, .int i1), (2, .int i2)]) dX10_setPattern_46 (by decide) (fun _ => rfl) (fun v46 => (show zG P G _ _ 47 _ _ from ?_))
      refine z_aload_n ok 1 dX10_setPattern_47 rfl (show zG P G _ _ 48 _ _ from ?_)
      refine z_getR ok fd_180 h_a0 (Or.inl rfl) tf_X10_10 dX10_setPattern_48 (fun b48 h_b48 => (show zG P G _ _ 51 _ _ from ?_))
      refine z_getRn ok fd_20 h_b48 (Or.inl rfl) tf_X10_76 dX10_setPattern_51 (fun b51 h_b51 => (show zG P G _ _ 54 _ _ from ?_))
      refine z_iload_n ok 2 dX10_setPattern_54 rfl (show zG P G _ _ 55 _ _ from ?_)
      refine z_aald ok ek_13 h_b51 dX10_setPattern_55 (fun b55 h_b55 => (show zG P G _ _ 56 _ _ from ?_))
      refine z_iload_n ok 3 dX10_setPattern_56 rfl (show zG P G _ _ 57 _ _ from ?_)
      refine z_putn ok fd_5 h_b55 (Or.inl rfl) tf_X10_85 dX10_setPattern_57 (fun m57 => (show zG P G _ _ 60 _ _ from ?_))
      refine z_iload_n ok 0 dX10_setPattern_60 rfl (show zG P G _ _ 61 _ _ from ?_)
      exact z_iret ok dX10_setPattern_61
    · refine z_bipush ok (-2 : Int32) dX10_setPattern_24 (by decide) (show zG P G _ _ 26 _ _ from ?_)
      exact z_iret ok dX10_setPattern_26
  · refine z_iconst ok (-1 : Int32) dX10_setPattern_11 (by decide) (show zG P G _ _ 12 _ _ from ?_)
    exact z_iret ok dX10_setPattern_12
set_option maxRecDepth 100000 in
set_option maxHeartbeats 4000000 in
theorem t_X10_configure_b64 {P : zSt} {G : zC} (ok : zOK P G RX10 cX10_configure 10 2 42 (some .int))  {a0 : Nat} {x1 : Int32} {x2 : Int32} {x3 : Int32} {x4 : Int32} {x5 : Int32} {x6 : Int32} {s0 : Int32} {m : zM} (h_a0 : zT P 9 a0) : zG P G (f_X10_configure_b64 P a0 x1 x2 x3 x4 x5 x6 s0 m) m 64 [(0, .ref a0), (1, .int x1), (2, .int x2), (3, .int x3), (4, .int x4), (5, .int x5), (6, .int x6)] [.int s0] := by
  unfold f_X10_configure_b64
  refine z_istore0 ok [(7, .int s0), (0, .ref a0), (1, .int x1), (2, .int x2), (3, .int x3), (4, .int x4), (5, .int x5), (6, .int x6)] dX10_configure_64 (by decide) rfl (show zG P G _ _ 66 _ _ from ?_)
  refine z_iload ok 0 dX10_configure_66 rfl (show zG P G _ _ 68 _ _ from ?_)
  refine z_if_ne ok 74 dX10_configure_68 (by decide) ?_ (show zG P G _ _ 71 _ _ from ?_)
  · refine z_aload_n ok 1 dX10_configure_74 rfl (show zG P G _ _ 75 _ _ from ?_)
    refine z_getR ok fd_184 h_a0 (Or.inl rfl) tf_X10_28 dX10_configure_75 (fun b75 h_b75 => (show zG P G _ _ 78 _ _ from ?_))
    refine z_callVv ok [] (m_X2_stop _ ok.p h_b75) cv_X10_66 h_b75 rfl (by decide) rfl (Nat.le_of_ble_eq_true rfl) rfl dX10_configure_78 (fun _ m78 => (show zG P G _ _ 81 _ _ from ?_))
    refine z_aload_n ok 1 dX10_configure_81 rfl (show zG P G _ _ 82 _ _ from ?_)
    refine z_getR ok fd_180 h_a0 (Or.inl rfl) tf_X10_10 dX10_configure_82 (fun b82 h_b82 => (show zG P G _ _ 85 _ _ from ?_))
    refine z_getRn ok fd_22 h_b82 (Or.inl rfl) tf_X10_88 dX10_configure_85 (fun b85 h_b85 => (show zG P G _ _ 88 _ _ from ?_))
    refine z_iload_n ok 2 dX10_configure_88 rfl (show zG P G _ _ 89 _ _ from ?_)
    refine z_aald ok ek_15 h_b85 dX10_configure_89 (fun b89 h_b89 => (show zG P G _ _ 90 _ _ from ?_))
    refine z_astore ok [(8, .ref b89), (7, .int s0), (0, .ref a0), (1, .int x1), (2, .int x2), (3, .int x3), (4, .int x4), (5, .int x5), (6, .int x6)] dX10_configure_90 (by decide) rfl (show zG P G _ _ 92 _ _ from ?_)
    refine z_aload ok 0 dX10_configure_92 rfl (show zG P G _ _ 94 _ _ from ?_)
    refine z_getn ok fd_100 h_b89 (Or.inl rfl) tf_X10_92 dX10_configure_94 (show zG P G _ _ 97 _ _ from ?_)
    refine z_istore ok (fun v97 => [(9, .int v97), (8, .ref b89), (7, .int s0), (0, .ref a0), (1, .int x1), (2, .int x2), (3, .int x3), (4, .int x4), (5, .int x5), (6, .int x6)]) dX10_configure_97 (by decide) (fun _ => rfl) (fun v97 => (show zG P G _ _ 99 _ _ from ?_))
    refine z_aload ok 1 dX10_configure_99 rfl (show zG P G _ _ 101 _ _ from ?_)
    refine z_iload_n ok 5 dX10_configure_101 rfl (show zG P G _ _ 102 _ _ from ?_)
    refine z_putn ok fd_100 h_b89 (Or.inl rfl) tf_X10_92 dX10_configure_102 (fun m102 => (show zG P G _ _ 105 _ _ from ?_))
    refine z_aload ok 1 dX10_configure_105 rfl (show zG P G _ _ 107 _ _ from ?_)
    refine z_iload_n ok 6 dX10_configure_107 rfl (show zG P G _ _ 108 _ _ from ?_)
    refine z_putn ok fd_101 h_b89 (Or.inl rfl) tf_X10_97 dX10_configure_108 (fun m108 => (show zG P G _ _ 111 _ _ from ?_))
    refine z_aload ok 1 dX10_configure_111 rfl (show zG P G _ _ 113 _ _ from ?_)
    refine z_iload ok 7 dX10_configure_113 rfl (show zG P G _ _ 115 _ _ from ?_)
    refine z_putn ok fd_102 h_b89 (Or.inl rfl) tf_X10_100 dX10_configure_115 (fun m115 => (show zG P G _ _ 118 _ _ from ?_))
    refine z_aload ok 1 dX10_configure_118 rfl (show zG P G _ _ 120 _ _ from ?_)
    refine z_iload ok 8 dX10_configure_120 rfl (show zG P G _ _ 122 _ _ from ?_)
    refine z_putn ok fd_103 h_b89 (Or.inl rfl) tf_X10_103 dX10_configure_122 (fun m122 => (show zG P G _ _ 125 _ _ from ?_))
    refine z_aload ok 1 dX10_configure_125 rfl (show zG P G _ _ 127 _ _ from ?_)
    refine z_iload ok 9 dX10_configure_127 rfl (show zG P G _ _ 129 _ _ from ?_)
    refine z_putn ok fd_104 h_b89 (Or.inl rfl) tf_X10_106 dX10_configure_129 (fun m129 => (show zG P G _ _ 132 _ _ from ?_))
    refine z_iload ok 0 dX10_configure_132 rfl (show zG P G _ _ 134 _ _ from ?_)
    exact z_iret ok dX10_configure_134
  · refine z_bipush ok (-2 : Int32) dX10_configure_71 (by decide) (show zG P G _ _ 73 _ _ from ?_)
    exact z_iret ok dX10_configure_73
set_option maxRecDepth 100000 in
set_option maxHeartbeats 4000000 in
theorem t_X10_configure_b63 {P : zSt} {G : zC} (ok : zOK P G RX10 cX10_configure 10 2 42 (some .int))  {a0 : Nat} {x1 : Int32} {x2 : Int32} {x3 : Int32} {x4 : Int32} {x5 : Int32} {x6 : Int32} {m : zM} (h_a0 : zT P 9 a0) : zG P G (f_X10_configure_b63 P a0 x1 x2 x3 x4 x5 x6 m) m 63 [(0, .ref a0), (1, .int x1), (2, .int x2), (3, .int x3), (4, .int x4), (5, .int x5), (6, .int x6)] [] := by
  unfold f_X10_configure_b63
  refine z_iconst ok (0 : Int32) dX10_configure_63 (by decide) (show zG P G _ _ 64 _ _ from ?_)
  exact z_sub [0, 1, 2, 3, 4, 5, 6] [(0, .ref a0), (1, .int x1), (2, .int x2), (3, .int x3), (4, .int x4), (5, .int x5), (6, .int x6)] rfl (t_X10_configure_b64 ok h_a0)
set_option maxRecDepth 100000 in
set_option maxHeartbeats 4000000 in
theorem m_X10_configure (l : Launch) {P : zSt} (hP : zOKP P) {a0 : Nat} {i1 : Int32} {i2 : Int32} {i3 : Int32} {i4 : Int32} {i5 : Int32} {i6 : Int32} (h_a0 : zT P 9 a0) : zMet l P yX10_configure cX10_configure 10 2 42 (some .int) [.ref a0, .int i1, .int i2, .int i3, .int i4, .int i5, .int i6] (fun m => f_X10_configure P a0 i1 i2 i3 i4 i5 i6 m) := by
  refine zMet.of hP (by decide +kernel) RX10 rfl [(0, .ref a0), (1, .int i1), (2, .int i2), (3, .int i3), (4, .int i4), (5, .int i5), (6, .int i6)] (fun h => h) (Nat.le_of_ble_eq_true rfl) (fun G m ok => ?_)
  show zG P G (f_X10_configure P a0 i1 i2 i3 i4 i5 i6 m) m 0 _ []
  unfold f_X10_configure
  refine z_iload_n ok 1 dX10_configure_0 rfl (show zG P G _ _ 1 _ _ from ?_)
  refine z_callSi ok [.int i1] (m_X10_isService _ ok.p) cv_X10_51 rfl (by decide) rfl (Nat.le_of_ble_eq_true rfl) rfl dX10_configure_1 (fun r1 m1 => (show zG P G _ _ 4 _ _ from ?_))
  refine z_if_eq ok 63 dX10_configure_4 (by decide) ?_ (show zG P G _ _ 7 _ _ from ?_)
  · exact z_sub [0, 1, 2, 3, 4, 5, 6] [(0, .ref a0), (1, .int i1), (2, .int i2), (3, .int i3), (4, .int i4), (5, .int i5), (6, .int i6)] rfl (t_X10_configure_b63 ok h_a0)
  · refine z_iload_n ok 2 dX10_configure_7 rfl (show zG P G _ _ 8 _ _ from ?_)
    refine z_iconst ok (0 : Int32) dX10_configure_8 (by decide) (show zG P G _ _ 9 _ _ from ?_)
    refine z_iconst ok (2 : Int32) dX10_configure_9 (by decide) (show zG P G _ _ 10 _ _ from ?_)
    refine z_callSi ok [.int i2, .int (0 : Int32), .int (2 : Int32)] (m_X10_isWithin _ ok.p) cv_X10_58 rfl (by decide) rfl (Nat.le_of_ble_eq_true rfl) rfl dX10_configure_10 (fun r10 m10 => (show zG P G _ _ 13 _ _ from ?_))
    refine z_if_eq ok 63 dX10_configure_13 (by decide) ?_ (show zG P G _ _ 16 _ _ from ?_)
    · exact z_sub [0, 1, 2, 3, 4, 5, 6] [(0, .ref a0), (1, .int i1), (2, .int i2), (3, .int i3), (4, .int i4), (5, .int i5), (6, .int i6)] rfl (t_X10_configure_b63 ok h_a0)
    · refine z_iload_n ok 3 dX10_configure_16 rfl (show zG P G _ _ 17 _ _ from ?_)
      refine z_iconst ok (1 : Int32) dX10_configure_17 (by decide) (show zG P G _ _ 18 _ _ from ?_)
      refine z_bipush ok (9 : Int32) dX10_configure_18 (by decide) (show zG P G _ _ 20 _ _ from ?_)
      refine z_callSi ok [.int i3, .int (1 : Int32), .int (9 : Int32)] (m_X10_isWithin _ ok.p) cv_X10_58 rfl (by decide) rfl (Nat.le_of_ble_eq_true rfl) rfl dX10_configure_20 (fun r20 m20 => (show zG P G _ _ 23 _ _ from ?_))
      refine z_if_eq ok 63 dX10_configure_23 (by decide) ?_ (show zG P G _ _ 26 _ _ from ?_)
      · exact z_sub [0, 1, 2, 3, 4, 5, 6] [(0, .ref a0), (1, .int i1), (2, .int i2), (3, .int i3), (4, .int i4), (5, .int i5), (6, .int i6)] rfl (t_X10_configure_b63 ok h_a0)
      · refine z_iload ok 4 dX10_configure_26 rfl (show zG P G _ _ 28 _ _ from ?_)
        refine z_iconst ok (1 : Int32) dX10_configure_28 (by decide) (show zG P G _ _ 29 _ _ from ?_)
        refine z_bipush ok (20 : Int32) dX10_configure_29 (by decide) (show zG P G _ _ 31 _ _ from ?_)
        refine z_callSi ok [.int i4, .int (1 : Int32), .int (20 : Int32)] (m_X10_isWithin _ ok.p) cv_X10_58 rfl (by decide) rfl (Nat.le_of_ble_eq_true rfl) rfl dX10_configure_31 (fun r31 m31 => (show zG P G _ _ 34 _ _ from ?_))
        refine z_if_eq ok 63 dX10_configure_34 (by decide) ?_ (show zG P G _ _ 37 _ _ from ?_)
        · exact z_sub [0, 1, 2, 3, 4, 5, 6] [(0, .ref a0), (1, .int i1), (2, .int i2), (3, .int i3), (4, .int i4), (5, .int i5), (6, .int i6)] rfl (t_X10_configure_b63 ok h_a0)
        · refine z_iload ok 5 dX10_configure_37 rfl (show zG P G _ _ 39 _ _ from ?_)
          refine z_iconst ok (0 : Int32) dX10_configure_39 (by decide) (show zG P G _ _ 40 _ _ from ?_)
          refine z_bipush ok (100 : Int32) dX10_configure_40 (by decide) (show zG P G _ _ 42 _ _ from ?_)
          refine z_callSi ok [.int i5, .int (0 : Int32), .int (100 : Int32)] (m_X10_isWithin _ ok.p) cv_X10_58 rfl (by decide) rfl (Nat.le_of_ble_eq_true rfl) rfl dX10_configure_42 (fun r42 m42 => (show zG P G _ _ 45 _ _ from ?_))
          refine z_if_eq ok 63 dX10_configure_45 (by decide) ?_ (show zG P G _ _ 48 _ _ from ?_)
          · exact z_sub [0, 1, 2, 3, 4, 5, 6] [(0, .ref a0), (1, .int i1), (2, .int i2), (3, .int i3), (4, .int i4), (5, .int i5), (6, .int i6)] rfl (t_X10_configure_b63 ok h_a0)
          · refine z_iload ok 6 dX10_configure_48 rfl (show zG P G _ _ 50 _ _ from ?_)
            refine z_iconst ok (0 : Int32) dX10_configure_50 (by decide) (show zG P G _ _ 51 _ _ from ?_)
            refine z_bipush ok (100 : Int32) dX10_configure_51 (by decide) (show zG P G _ _ 53 _ _ from ?_)
            refine z_callSi ok [.int i6, .int (0 : Int32), .int (100 : Int32)] (m_X10_isWithin _ ok.p) cv_X10_58 rfl (by decide) rfl (Nat.le_of_ble_eq_true rfl) rfl dX10_configure_53 (fun r53 m53 => (show zG P G _ _ 56 _ _ from ?_))
            refine z_if_eq ok 63 dX10_configure_56 (by decide) ?_ (show zG P G _ _ 59 _ _ from ?_)
            · exact z_sub [0, 1, 2, 3, 4, 5, 6] [(0, .ref a0), (1, .int i1), (2, .int i2), (3, .int i3), (4, .int i4), (5, .int i5), (6, .int i6)] rfl (t_X10_configure_b63 ok h_a0)
            · refine z_iconst ok (1 : Int32) dX10_configure_59 (by decide) (show zG P G _ _ 60 _ _ from ?_)
              refine z_goto ok 64 dX10_configure_60 (by decide) ?_
              exact z_sub [0, 1, 2, 3, 4, 5, 6] [(0, .ref a0), (1, .int i1), (2, .int i2), (3, .int i3), (4, .int i4), (5, .int i5), (6, .int i6)] rfl (t_X10_configure_b64 ok h_a0)
set_option maxRecDepth 100000 in
set_option maxHeartbeats 4000000 in
theorem m_X10_setZoneLimit (l : Launch) {P : zSt} (hP : zOKP P) {a0 : Nat} {i1 : Int32} (h_a0 : zT P 9 a0) : zMet l P yX10_setZoneLimit cX10_setZoneLimit 3 1 22 (some .int) [.ref a0, .int i1] (fun m => f_X10_setZoneLimit P a0 i1 m) := by
  refine zMet.of hP (by decide +kernel) RX10 rfl [(0, .ref a0), (1, .int i1)] (fun h => h) (Nat.le_of_ble_eq_true rfl) (fun G m ok => ?_)
  show zG P G (f_X10_setZoneLimit P a0 i1 m) m 0 _ []
  unfold f_X10_setZoneLimit
  refine z_iload_n ok 1 dX10_setZoneLimit_0 rfl (show zG P G _ _ 1 _ _ from ?_)
  refine z_iconst ok (1 : Int32) dX10_setZoneLimit_1 (by decide) (show zG P G _ _ 2 _ _ from ?_)
  refine z_bipush ok (100 : Int32) dX10_setZoneLimit_2 (by decide) (show zG P G _ _ 4 _ _ from ?_)
  refine z_callSi ok [.int i1, .int (1 : Int32), .int (100 : Int32)] (m_X10_isWithin _ ok.p) cv_X10_58 rfl (by decide) rfl (Nat.le_of_ble_eq_true rfl) rfl dX10_setZoneLimit_4 (fun r4 m4 => (show zG P G _ _ 7 _ _ from ?_))
  refine z_if_ne ok 13 dX10_setZoneLimit_7 (by decide) ?_ (show zG P G _ _ 10 _ _ from ?_)
  · refine z_aload_n ok 0 dX10_setZoneLimit_13 rfl (show zG P G _ _ 14 _ _ from ?_)
    refine z_getR ok fd_184 h_a0 (Or.inl rfl) tf_X10_28 dX10_setZoneLimit_14 (fun b14 h_b14 => (show zG P G _ _ 17 _ _ from ?_))
    refine z_callVv ok [] (m_X2_stop _ ok.p h_b14) cv_X10_66 h_b14 rfl (by decide) rfl (Nat.le_of_ble_eq_true rfl) rfl dX10_setZoneLimit_17 (fun _ m17 => (show zG P G _ _ 20 _ _ from ?_))
    refine z_aload_n ok 0 dX10_setZoneLimit_20 rfl (show zG P G _ _ 21 _ _ from ?_)
    refine z_getR ok fd_180 h_a0 (Or.inl rfl) tf_X10_10 dX10_setZoneLimit_21 (fun b21 h_b21 => (show zG P G _ _ 24 _ _ from ?_))
    refine z_getn ok fd_25 h_b21 (Or.inl rfl) tf_X10_109 dX10_setZoneLimit_24 (show zG P G _ _ 27 _ _ from ?_)
    refine z_istore_n ok (fun v27 => [(2, .int v27), (0, .ref a0), (1, .int i1)]) dX10_setZoneLimit_27 (by decide) (fun _ => rfl) (fun v27 => (show zG P G _ _ 28 _ _ from ?_))
    refine z_aload_n ok 1 dX10_setZoneLimit_28 rfl (show zG P G _ _ 29 _ _ from ?_)
    refine z_getR ok fd_180 h_a0 (Or.inl rfl) tf_X10_10 dX10_setZoneLimit_29 (fun b29 h_b29 => (show zG P G _ _ 32 _ _ from ?_))
    refine z_iload_n ok 2 dX10_setZoneLimit_32 rfl (show zG P G _ _ 33 _ _ from ?_)
    refine z_putn ok fd_25 h_b29 (Or.inl rfl) tf_X10_109 dX10_setZoneLimit_33 (fun m33 => (show zG P G _ _ 36 _ _ from ?_))
    refine z_iload_n ok 0 dX10_setZoneLimit_36 rfl (show zG P G _ _ 37 _ _ from ?_)
    exact z_iret ok dX10_setZoneLimit_37
  · refine z_bipush ok (-2 : Int32) dX10_setZoneLimit_10 (by decide) (show zG P G _ _ 12 _ _ from ?_)
    exact z_iret ok dX10_setZoneLimit_12
set_option maxRecDepth 100000 in
set_option maxHeartbeats 4000000 in
theorem t_X10_append_b20 {P : zSt} {G : zC} (ok : zOK P G RX10 cX10_append 4 1 22 (some .int))   {m : zM}  : zG P G (f_X10_append_b20 P  m) m 20 [] [] := by
  unfold f_X10_append_b20
  refine z_bipush ok (-2 : Int32) dX10_append_20 (by decide) (show zG P G _ _ 22 _ _ from ?_)
  exact z_iret ok dX10_append_22
set_option maxRecDepth 100000 in
set_option maxHeartbeats 4000000 in
theorem t_X10_append_b42 {P : zSt} {G : zC} (ok : zOK P G RX10 cX10_append 4 1 22 (some .int))  : ∀ (n : Nat) (a0 : Nat) (x1 : Int32) (x2 : Int32) (x3 : Int32) (m : zM) (h_a0 : zT P 9 a0), zG P G (f_X10_append_b42 P n a0 x1 x2 x3 m) m 42 [(0, .ref a0), (1, .int x1), (2, .int x2), (3, .int x3)] [] := by
  intro n
  induction n with
  | zero =>
    intros
    exact zG_none
  | succ n ih =>
    intro a0 x1 x2 x3 m h_a0
    unfold f_X10_append_b42
    have hr_42 := ih
    refine z_iload_n ok 3 dX10_append_42 rfl (show zG P G _ _ 43 _ _ from ?_)
    refine z_iload_n ok 2 dX10_append_43 rfl (show zG P G _ _ 44 _ _ from ?_)
    refine z_icmp_ge ok 61 dX10_append_44 (by decide) ?_ (show zG P G _ _ 47 _ _ from ?_)
    · refine z_aload_n ok 0 dX10_append_61 rfl (show zG P G _ _ 62 _ _ from ?_)
      refine z_getR ok fd_185 h_a0 (Or.inl rfl) tf_X10_35 dX10_append_62 (fun b62 h_b62 => (show zG P G _ _ 65 _ _ from ?_))
      refine z_getn ok fd_141 h_b62 (Or.inl rfl) tf_X10_112 dX10_append_65 (show zG P G _ _ 68 _ _ from ?_)
      exact z_iret ok dX10_append_68
    · refine z_aload_n ok 0 dX10_append_47 rfl (show zG P G _ _ 48 _ _ from ?_)
      refine z_getR ok fd_185 h_a0 (Or.inl rfl) tf_X10_35 dX10_append_48 (fun b48 h_b48 => (show zG P G _ _ 51 _ _ from ?_))
      refine z_iload_n ok 1 dX10_append_51 rfl (show zG P G _ _ 52 _ _ from ?_)
      refine z_callVv ok [.int x1] (m_X7_put _ ok.p h_b48) cv_X10_115 h_b48 rfl (by decide) rfl (Nat.le_of_ble_eq_true rfl) rfl dX10_append_52 (fun _ m52 => (show zG P G _ _ 55 _ _ from ?_))
      refine z_iinc ok (fun v55 => [(3, .int v55), (0, .ref a0), (1, .int x1), (2, .int x2)]) 3 dX10_append_55 rfl (by decide) (by decide) (fun _ => rfl) (fun v55 => (show zG P G _ _ 58 _ _ from ?_))
      refine z_goto ok 42 dX10_append_58 (by decide) ?_
      exact z_sub [1, 2, 3, 0] [(0, .ref a0), (1, .int x1), (2, .int x2), (3, .int v55)] rfl (hr_42 _ _ _ _ _ h_a0)
set_option maxRecDepth 100000 in
set_option maxHeartbeats 4000000 in
theorem m_X10_append (l : Launch) {P : zSt} (hP : zOKP P) {a0 : Nat} {i1 : Int32} {i2 : Int32} (h_a0 : zT P 9 a0) : zMet l P yX10_append cX10_append 4 1 22 (some .int) [.ref a0, .int i1, .int i2] (fun m => f_X10_append P a0 i1 i2 m) := by
  refine zMet.of hP (by decide +kernel) RX10 rfl [(0, .ref a0), (1, .int i1), (2, .int i2)] (fun h => h) (Nat.le_of_ble_eq_true rfl) (fun G m ok => ?_)
  show zG P G (f_X10_append P a0 i1 i2 m) m 0 _ []
  unfold f_X10_append
  refine z_iload_n ok 1 dX10_append_0 rfl (show zG P G _ _ 1 _ _ from ?_)
  refine z_iconst ok (0 : Int32) dX10_append_1 (by decide) (show zG P G _ _ 2 _ _ from ?_)
  refine z_bipush ok (127 : Int32) dX10_append_2 (by decide) (show zG P G _ _ 4 _ _ from ?_)
  refine z_callSi ok [.int i1, .int (0 : Int32), .int (127 : Int32)] (m_X10_isWithin _ ok.p) cv_X10_58 rfl (by decide) rfl (Nat.le_of_ble_eq_true rfl) rfl dX10_append_4 (fun r4 m4 => (show zG P G _ _ 7 _ _ from ?_))
  refine z_if_eq ok 20 dX10_append_7 (by decide) ?_ (show zG P G _ _ 10 _ _ from ?_)
  · exact z_sub [] [] rfl (t_X10_append_b20 ok)
  · refine z_iload_n ok 2 dX10_append_10 rfl (show zG P G _ _ 11 _ _ from ?_)
    refine z_iconst ok (1 : Int32) dX10_append_11 (by decide) (show zG P G _ _ 12 _ _ from ?_)
    refine z_bipush ok (40 : Int32) dX10_append_12 (by decide) (show zG P G _ _ 14 _ _ from ?_)
    refine z_callSi ok [.int i2, .int (1 : Int32), .int (40 : Int32)] (m_X10_isWithin _ ok.p) cv_X10_58 rfl (by decide) rfl (Nat.le_of_ble_eq_true rfl) rfl dX10_append_14 (fun r14 m14 => (show zG P G _ _ 17 _ _ from ?_))
    refine z_if_ne ok 23 dX10_append_17 (by decide) ?_ (show zG P G _ _ 20 _ _ from ?_)
    · refine z_aload_n ok 0 dX10_append_23 rfl (show zG P G _ _ 24 _ _ from ?_)
      refine z_getR ok fd_185 h_a0 (Or.inl rfl) tf_X10_35 dX10_append_24 (fun b24 h_b24 => (show zG P G _ _ 27 _ _ from ?_))
      refine z_getn ok fd_141 h_b24 (Or.inl rfl) tf_X10_112 dX10_append_27 (show zG P G _ _ 30 _ _ from ?_)
      refine z_iload_n ok 2 dX10_append_30 rfl (show zG P G _ _ 31 _ _ from ?_)
      refine z_iadd ok dX10_append_31 (show zG P G _ _ 32 _ _ from ?_)
      refine z_bipush ok (40 : Int32) dX10_append_32 (by decide) (show zG P G _ _ 34 _ _ from ?_)
      refine z_icmp_le ok 40 dX10_append_34 (by decide) ?_ (show zG P G _ _ 37 _ _ from ?_)
      · refine z_iconst ok (0 : Int32) dX10_append_40 (by decide) (show zG P G _ _ 41 _ _ from ?_)
        refine z_istore_n0 ok [(3, .int (0 : Int32)), (0, .ref a0), (1, .int i1), (2, .int i2)] dX10_append_41 (by decide) rfl (show zG P G _ _ 42 _ _ from ?_)
        exact z_sub [1, 2, 3, 0] [(0, .ref a0), (1, .int i1), (2, .int i2), (3, .int (0 : Int32))] rfl (t_X10_append_b42 ok zfuel _ _ _ _ _ h_a0)
      · refine z_bipush ok (-3 : Int32) dX10_append_37 (by decide) (show zG P G _ _ 39 _ _ from ?_)
        exact z_iret ok dX10_append_39
    · exact z_sub [] [] rfl (t_X10_append_b20 ok)
set_option maxRecDepth 100000 in
set_option maxHeartbeats 4000000 in
theorem m_X10_addRule (l : Launch) {P : zSt} (hP : zOKP P) {a0 : Nat} (h_a0 : zT P 9 a0) : zMet l P yX10_addRule cX10_addRule 2 6 130 (some .int) [.ref a0] (fun m => f_X10_addRule P a0 m) := by
  refine zMet.of hP (by decide +kernel) RX10 rfl [(0, .ref a0)] (fun h => h) (Nat.le_of_ble_eq_true rfl) (fun G m ok => ?_)
  show zG P G (f_X10_addRule P a0 m) m 0 _ []
  unfold f_X10_addRule
  refine z_aload_n ok 0 dX10_addRule_0 rfl (show zG P G _ _ 1 _ _ from ?_)
  refine z_getR ok fd_187 h_a0 (Or.inl rfl) tf_X10_47 dX10_addRule_1 (fun b1 h_b1 => (show zG P G _ _ 4 _ _ from ?_))
  refine z_callVi ok [] (m_X4_read _ ok.p h_b1) cv_X10_119 h_b1 rfl (by decide) rfl (Nat.le_of_ble_eq_true rfl) rfl dX10_addRule_4 (fun r4 m4 => (show zG P G _ _ 7 _ _ from ?_))
  refine z_istore_n0 ok [(1, .int r4), (0, .ref a0)] dX10_addRule_7 (by decide) rfl (show zG P G _ _ 8 _ _ from ?_)
  refine z_aload_n ok 1 dX10_addRule_8 rfl (show zG P G _ _ 9 _ _ from ?_)
  refine z_getR ok fd_185 h_a0 (Or.inl rfl) tf_X10_35 dX10_addRule_9 (fun b9 h_b9 => (show zG P G _ _ 12 _ _ from ?_))
  refine z_callVv ok [] (m_X7_clear _ ok.p h_b9) cv_X10_123 h_b9 rfl (by decide) rfl (Nat.le_of_ble_eq_true rfl) rfl dX10_addRule_12 (fun _ m12 => (show zG P G _ _ 15 _ _ from ?_))
  refine z_iload_n ok 0 dX10_addRule_15 rfl (show zG P G _ _ 16 _ _ from ?_)
  refine z_iconst ok (-1 : Int32) dX10_addRule_16 (by decide) (show zG P G _ _ 17 _ _ from ?_)
  refine z_icmp_eq ok 25 dX10_addRule_17 (by decide) ?_ (show zG P G _ _ 20 _ _ from ?_)
  · refine z_aload_n ok 1 dX10_addRule_25 rfl (show zG P G _ _ 26 _ _ from ?_)
    refine z_getR ok fd_180 h_a0 (Or.inl rfl) tf_X10_10 dX10_addRule_26 (fun b26 h_b26 => (show zG P G _ _ 29 _ _ from ?_))
    refine z_getn ok fd_24 h_b26 (Or.inl rfl) tf_X10_126 dX10_addRule_29 (show zG P G _ _ 32 _ _ from ?_)
    refine z_bipush ok (8 : Int32) dX10_addRule_32 (by decide) (show zG P G _ _ 34 _ _ from ?_)
    refine z_icmp_lt ok 40 dX10_addRule_34 (by decide) ?_ (show zG P G _ _ 37 _ _ from ?_)
    · refine z_aload_n ok 1 dX10_addRule_40 rfl (show zG P G _ _ 41 _ _ from ?_)
      refine z_getR ok fd_184 h_a0 (Or.inl rfl) tf_X10_28 dX10_addRule_41 (fun b41 h_b41 => (show zG P G _ _ 44 _ _ from ?_))
      refine z_callVv ok [] (m_X2_stop _ ok.p h_b41) cv_X10_66 h_b41 rfl (by decide) rfl (Nat.le_of_ble_eq_true rfl) rfl dX10_addRule_44 (fun _ m44 => (show zG P G _ _ 47 _ _ from ?_))
      refine z_aload_n ok 1 dX10_addRule_47 rfl (show zG P G _ _ 48 _ _ from ?_)
      refine z_getR ok fd_180 h_a0 (Or.inl rfl) tf_X10_10 dX10_addRule_48 (fun b48 h_b48 => (show zG P G _ _ 51 _ _ from ?_))
      refine z_aload_n ok 1 dX10_addRule_51 rfl (show zG P G _ _ 52 _ _ from ?_)
      refine z_getR ok fd_187 h_a0 (Or.inl rfl) tf_X10_47 dX10_addRule_52 (fun b52 h_b52 => (show zG P G _ _ 55 _ _ from ?_))
      refine z_getRn ok fd_81 h_b52 (Or.inl rfl) tf_X10_129 dX10_addRule_55 (fun b55 h_b55 => (show zG P G _ _ 58 _ _ from ?_))
      refine z_callVi ok [.ref b55] (m_X1_takeRule _ ok.p h_b48 h_b55) cv_X10_133 h_b48 rfl (by decide) rfl (Nat.le_of_ble_eq_true rfl) rfl dX10_addRule_58 (fun r58 m58 => (show zG P G _ _ 61 _ _ from ?_))
      exact z_iret ok dX10_addRule_61
    · refine z_bipush ok (-3 : Int32) dX10_addRule_37 (by decide) (show zG P G _ _ 39 _ _ from ?_)
      exact z_iret ok dX10_addRule_39
  · refine z_bipush ok (-100 : Int32) dX10_addRule_20 (by decide) (show zG P G _ _ 22 _ _ from ?_)
    refine z_iload_n ok 0 dX10_addRule_22 rfl (show zG P G _ _ 23 _ _ from ?_)
    refine z_isub ok dX10_addRule_23 (show zG P G _ _ 24 _ _ from ?_)
    exact z_iret ok dX10_addRule_24
set_option maxRecDepth 100000 in
set_option maxHeartbeats 4000000 in
theorem m_X10_removeRule (l : Launch) {P : zSt} (hP : zOKP P) {a0 : Nat} {i1 : Int32} (h_a0 : zT P 9 a0) : zMet l P yX10_removeRule cX10_removeRule 2 2 43 (some .int) [.ref a0, .int i1] (fun m => f_X10_removeRule P a0 i1 m) := by
  refine zMet.of hP (by decide +kernel) RX10 rfl [(0, .ref a0), (1, .int i1)] (fun h => h) (Nat.le_of_ble_eq_true rfl) (fun G m ok => ?_)
  show zG P G (f_X10_removeRule P a0 i1 m) m 0 _ []
  unfold f_X10_removeRule
  refine z_aload_n ok 0 dX10_removeRule_0 rfl (show zG P G _ _ 1 _ _ from ?_)
  refine z_getR ok fd_180 h_a0 (Or.inl rfl) tf_X10_10 dX10_removeRule_1 (fun b1 h_b1 => (show zG P G _ _ 4 _ _ from ?_))
  refine z_iload_n ok 1 dX10_removeRule_4 rfl (show zG P G _ _ 5 _ _ from ?_)
  refine z_callVi ok [.int i1] (m_X1_hasRule _ ok.p h_b1) cv_X10_137 h_b1 rfl (by decide) rfl (Nat.le_of_ble_eq_true rfl) rfl dX10_removeRule_5 (fun r5 m5 => (show zG P G _ _ 8 _ _ from ?_))
  refine z_if_ne ok 13 dX10_removeRule_8 (by decide) ?_ (show zG P G _ _ 11 _ _ from ?_)
  · refine z_aload_n ok 0 dX10_removeRule_13 rfl (show zG P G _ _ 14 _ _ from ?_)
    refine z_getR ok fd_184 h_a0 (Or.inl rfl) tf_X10_28 dX10_removeRule_14 (fun b14 h_b14 => (show zG P G _ _ 17 _ _ from ?_))
    refine z_callVv ok [] (m_X2_stop _ ok.p h_b14) cv_X10_66 h_b14 rfl (by decide) rfl (Nat.le_of_ble_eq_true rfl) rfl dX10_removeRule_17 (fun _ m17 => (show zG P G _ _ 20 _ _ from ?_))
    refine z_aload_n ok 0 dX10_removeRule_20 rfl (show zG P G _ _ 21 _ _ from ?_)
    refine z_getR ok fd_180 h_a0 (Or.inl rfl) tf_X10_10 dX10_removeRule_21 (fun b21 h_b21 => (show zG P G _ _ 24 _ _ from ?_))
    refine z_iload_n ok 1 dX10_removeRule_24 rfl (show zG P G _ _ 25 _ _ from ?_)
    refine z_aload_n ok 0 dX10_removeRule_25 rfl (show zG P G _ _ 26 _ _ from ?_)
    refine z_getR ok fd_180 h_a0 (Or.inl rfl) tf_X10_10 dX10_removeRule_26 (fun b26 h_b26 => (show zG P G _ _ 29 _ _ from ?_))
    refine z_getn ok fd_24 h_b26 (Or.inl rfl) tf_X10_126 dX10_removeRule_29 (show zG P G _ _ 32 _ _ from ?_)
    refine z_iconst ok (1 : Int32) dX10_removeRule_32 (by decide) (show zG P G _ _ 33 _ _ from ?_)
    refine z_isub ok dX10_removeRule_33 (show zG P G _ _ 34 _ _ from ?_)
    refine z_callVv ok [.int i1, .int ((zf m17 24 b26) - (1 : Int32))] (m_X1_shiftRule _ ok.p h_b21) cv_X10_140 h_b21 rfl (by decide) rfl (Nat.le_of_ble_eq_true rfl) rfl dX10_removeRule_34 (fun _ m34 => (show zG P G _ _ 37 _ _ from ?_))
    refine z_aload_n ok 0 dX10_removeRule_37 rfl (show zG P G _ _ 38 _ _ from ?_)
    refine z_getR ok fd_180 h_a0 (Or.inl rfl) tf_X10_10 dX10_removeRule_38 (fun b38 h_b38 => (show zG P G _ _ 41 _ _ from ?_))
    refine z_dup ok dX10_removeRule_41 rfl (show zG P G _ _ 42 _ _ from ?_)
    refine z_getn ok fd_24 h_b38 (Or.inl rfl) tf_X10_126 dX10_removeRule_42 (show zG P G _ _ 45 _ _ from ?_)
    refine z_iconst ok (1 : Int32) dX10_removeRule_45 (by decide) (show zG P G _ _ 46 _ _ from ?_)
    refine z_isub ok dX10_removeRule_46 (show zG P G _ _ 47 _ _ from ?_)
    refine z_putn ok fd_24 h_b38 (Or.inl rfl) tf_X10_126 dX10_removeRule_47 (fun m47 => (show zG P G _ _ 50 _ _ from ?_))
    refine z_aload_n ok 0 dX10_removeRule_50 rfl (show zG P G _ _ 51 _ _ from ?_)
    refine z_getR ok fd_180 h_a0 (Or.inl rfl) tf_X10_10 dX10_removeRule_51 (fun b51 h_b51 => (show zG P G _ _ 54 _ _ from ?_))
    refine z_getn ok fd_24 h_b51 (Or.inl rfl) tf_X10_126 dX10_removeRule_54 (show zG P G _ _ 57 _ _ from ?_)
    exact z_iret ok dX10_removeRule_57
  · refine z_iconst ok (-1 : Int32) dX10_removeRule_11 (by decide) (show zG P G _ _ 12 _ _ from ?_)
    exact z_iret ok dX10_removeRule_12
set_option maxRecDepth 100000 in
set_option maxHeartbeats 4000000 in
theorem m_X10_moveRule (l : Launch) {P : zSt} (hP : zOKP P) {a0 : Nat} {i1 : Int32} {i2 : Int32} (h_a0 : zT P 9 a0) : zMet l P yX10_moveRule cX10_moveRule 3 2 43 (some .int) [.ref a0, .int i1, .int i2] (fun m => f_X10_moveRule P a0 i1 i2 m) := by
  refine zMet.of hP (by decide +kernel) RX10 rfl [(0, .ref a0), (1, .int i1), (2, .int i2)] (fun h => h) (Nat.le_of_ble_eq_true rfl) (fun G m ok => ?_)
  show zG P G (f_X10_moveRule P a0 i1 i2 m) m 0 _ []
  unfold f_X10_moveRule
  refine z_aload_n ok 0 dX10_moveRule_0 rfl (show zG P G _ _ 1 _ _ from ?_)
  refine z_getR ok fd_180 h_a0 (Or.inl rfl) tf_X10_10 dX10_moveRule_1 (fun b1 h_b1 => (show zG P G _ _ 4 _ _ from ?_))
  refine z_iload_n ok 1 dX10_moveRule_4 rfl (show zG P G _ _ 5 _ _ from ?_)
  refine z_callVi ok [.int i1] (m_X1_hasRule _ ok.p h_b1) cv_X10_137 h_b1 rfl (by decide) rfl (Nat.le_of_ble_eq_true rfl) rfl dX10_moveRule_5 (fun r5 m5 => (show zG P G _ _ 8 _ _ from ?_))
  refine z_if_ne ok 13 dX10_moveRule_8 (by decide) ?_ (show zG P G _ _ 11 _ _ from ?_)
  · refine z_aload_n ok 0 dX10_moveRule_13 rfl (show zG P G _ _ 14 _ _ from ?_)
    refine z_getR ok fd_180 h_a0 (Or.inl rfl) tf_X10_10 dX10_moveRule_14 (fun b14 h_b14 => (show zG P G _ _ 17 _ _ from ?_))
    refine z_iload_n ok 2 dX10_moveRule_17 rfl (show zG P G _ _ 18 _ _ from ?_)
    refine z_callVi ok [.int i2] (m_X1_hasRule _ ok.p h_b14) cv_X10_137 h_b14 rfl (by decide) rfl (Nat.le_of_ble_eq_true rfl) rfl dX10_moveRule_18 (fun r18 m18 => (show zG P G _ _ 21 _ _ from ?_))
    refine z_if_ne ok 27 dX10_moveRule_21 (by decide) ?_ (show zG P G _ _ 24 _ _ from ?_)
    · refine z_aload_n ok 0 dX10_moveRule_27 rfl (show zG P G _ _ 28 _ _ from ?_)
      refine z_getR ok fd_184 h_a0 (Or.inl rfl) tf_X10_28 dX10_moveRule_28 (fun b28 h_b28 => (show zG P G _ _ 31 _ _ from ?_))
      refine z_callVv ok [] (m_X2_stop _ ok.p h_b28) cv_X10_66 h_b28 rfl (by decide) rfl (Nat.le_of_ble_eq_true rfl) rfl dX10_moveRule_31 (fun _ m31 => (show zG P G _ _ 34 _ _ from ?_))
      refine z_aload_n ok 0 dX10_moveRule_34 rfl (show zG P G _ _ 35 _ _ from ?_)
      refine z_getR ok fd_180 h_a0 (Or.inl rfl) tf_X10_10 dX10_moveRule_35 (fun b35 h_b35 => (show zG P G _ _ 38 _ _ from ?_))
      refine z_iload_n ok 1 dX10_moveRule_38 rfl (show zG P G _ _ 39 _ _ from ?_)
      refine z_iload_n ok 2 dX10_moveRule_39 rfl (show zG P G _ _ 40 _ _ from ?_)
      refine z_callVv ok [.int i1, .int i2] (m_X1_shiftRule _ ok.p h_b35) cv_X10_140 h_b35 rfl (by decide) rfl (Nat.le_of_ble_eq_true rfl) rfl dX10_moveRule_40 (fun _ m40 => (show zG P G _ _ 43 _ _ from ?_))
      refine z_iload_n ok 1 dX10_moveRule_43 rfl (show zG P G _ _ 44 _ _ from ?_)
      refine z_iload_n ok 2 dX10_moveRule_44 rfl (show zG P G _ _ 45 _ _ from ?_)
      refine z_isub ok dX10_moveRule_45 (show zG P G _ _ 46 _ _ from ?_)
      refine z_abs ok tm_611 tms_abs tmi tmc_abs ⟨by decide, Nat.le_of_ble_eq_true rfl⟩ dX10_moveRule_46 (show zG P G _ _ 49 _ _ from ?_)
      exact z_iret ok dX10_moveRule_49
    · refine z_bipush ok (-2 : Int32) dX10_moveRule_24 (by decide) (show zG P G _ _ 26 _ _ from ?_)
      exact z_iret ok dX10_moveRule_26
  · refine z_iconst ok (-1 : Int32) dX10_moveRule_11 (by decide) (show zG P G _ _ 12 _ _ from ?_)
    exact z_iret ok dX10_moveRule_12

set_option maxRecDepth 100000 in
set_option maxHeartbeats 4000000 in
theorem t_X11_isIn_b14 {P : zSt} {G : zC} (ok : zOK P G RX11 cX11_isIn 3 0 0 (some .boolean))   {m : zM}  : zG P G (f_X11_isIn_b14 P  m) m 14 [] [] := by
  unfold f_X11_isIn_b14
  refine z_iconst ok (0 : Int32) dX11_isIn_14 (by decide) (show zG P G _ _ 15 _ _ from ?_)
  exact z_zret ok dX11_isIn_15
set_option maxRecDepth 100000 in
set_option maxHeartbeats 4000000 in
theorem m_X11_isIn (l : Launch) {P : zSt} (hP : zOKP P) {i0 : Int32} {i1 : Int32} {i2 : Int32}  : zMet l P yX11_isIn cX11_isIn 3 0 0 (some .boolean) [.int i0, .int i1, .int i2] (fun m => f_X11_isIn P i0 i1 i2 m) := by
  refine zMet.of hP (by decide +kernel) RX11 rfl [(0, .int i0), (1, .int i1), (2, .int i2)] (fun h => h) (Nat.le_of_ble_eq_true rfl) (fun G m ok => ?_)
  show zG P G (f_X11_isIn P i0 i1 i2 m) m 0 _ []
  unfold f_X11_isIn
  refine z_iload_n ok 0 dX11_isIn_0 rfl (show zG P G _ _ 1 _ _ from ?_)
  refine z_iload_n ok 1 dX11_isIn_1 rfl (show zG P G _ _ 2 _ _ from ?_)
  refine z_icmp_lt ok 14 dX11_isIn_2 (by decide) ?_ (show zG P G _ _ 5 _ _ from ?_)
  · exact z_sub [] [] rfl (t_X11_isIn_b14 ok)
  · refine z_iload_n ok 0 dX11_isIn_5 rfl (show zG P G _ _ 6 _ _ from ?_)
    refine z_iload_n ok 2 dX11_isIn_6 rfl (show zG P G _ _ 7 _ _ from ?_)
    refine z_icmp_gt ok 14 dX11_isIn_7 (by decide) ?_ (show zG P G _ _ 10 _ _ from ?_)
    · exact z_sub [] [] rfl (t_X11_isIn_b14 ok)
    · refine z_iconst ok (1 : Int32) dX11_isIn_10 (by decide) (show zG P G _ _ 11 _ _ from ?_)
      refine z_goto ok 15 dX11_isIn_11 (by decide) ?_
      exact z_zret ok dX11_isIn_15
set_option maxRecDepth 100000 in
set_option maxHeartbeats 4000000 in
theorem t_X11_copies_b2 {P : zSt} {G : zC} (ok : zOK P G RX11 cX11_copies 3 0 0 none)  : ∀ (n : Nat) (a0 : Nat) (a1 : Nat) (x2 : Int32) (m : zM) (h_a0 : zT P 12 a0) (h_a1 : zT P 12 a1), zG P G (f_X11_copies_b2 P n a0 a1 x2 m) m 2 [(0, .ref a0), (1, .ref a1), (2, .int x2)] [] := by
  intro n
  induction n with
  | zero =>
    intros
    exact zG_none
  | succ n ih =>
    intro a0 a1 x2 m h_a0 h_a1
    unfold f_X11_copies_b2
    have hr_2 := ih
    refine z_iload_n ok 2 dX11_copies_2 rfl (show zG P G _ _ 3 _ _ from ?_)
    refine z_sipush ok (723 : Int32) dX11_copies_3 (by decide) (show zG P G _ _ 6 _ _ from ?_)
    refine z_icmp_ge ok 21 dX11_copies_6 (by decide) ?_ (show zG P G _ _ 9 _ _ from ?_)
    · exact z_vret ok dX11_copies_21
    · refine z_aload_n ok 1 dX11_copies_9 rfl (show zG P G _ _ 10 _ _ from ?_)
      refine z_iload_n ok 2 dX11_copies_10 rfl (show zG P G _ _ 11 _ _ from ?_)
      refine z_aload_n ok 0 dX11_copies_11 rfl (show zG P G _ _ 12 _ _ from ?_)
      refine z_iload_n ok 2 dX11_copies_12 rfl (show zG P G _ _ 13 _ _ from ?_)
      refine z_iald ok h_a0 dX11_copies_13 (show zG P G _ _ 14 _ _ from ?_)
      refine z_iast ok h_a1 dX11_copies_14 (fun m14 => (show zG P G _ _ 15 _ _ from ?_))
      refine z_iinc ok (fun v15 => [(2, .int v15), (0, .ref a0), (1, .ref a1)]) 2 dX11_copies_15 rfl (by decide) (by decide) (fun _ => rfl) (fun v15 => (show zG P G _ _ 18 _ _ from ?_))
      refine z_goto ok 2 dX11_copies_18 (by decide) ?_
      exact z_sub [1, 2, 0] [(0, .ref a0), (1, .ref a1), (2, .int v15)] rfl (hr_2 _ _ _ _ h_a0 h_a1)
set_option maxRecDepth 100000 in
set_option maxHeartbeats 4000000 in
theorem m_X11_copies (l : Launch) {P : zSt} (hP : zOKP P) {a0 : Nat} {a1 : Nat} (h_a0 : zT P 12 a0) (h_a1 : zT P 12 a1) : zMet l P yX11_copies cX11_copies 3 0 0 none [.ref a0, .ref a1] (fun m => f_X11_copies P a0 a1 m) := by
  refine zMet.of hP (by decide +kernel) RX11 rfl [(0, .ref a0), (1, .ref a1)] (fun h => h) (Nat.le_of_ble_eq_true rfl) (fun G m ok => ?_)
  show zG P G (f_X11_copies P a0 a1 m) m 0 _ []
  unfold f_X11_copies
  refine z_iconst ok (0 : Int32) dX11_copies_0 (by decide) (show zG P G _ _ 1 _ _ from ?_)
  refine z_istore_n0 ok [(2, .int (0 : Int32)), (0, .ref a0), (1, .ref a1)] dX11_copies_1 (by decide) rfl (show zG P G _ _ 2 _ _ from ?_)
  exact z_sub [1, 2, 0] [(0, .ref a0), (1, .ref a1), (2, .int (0 : Int32))] rfl (t_X11_copies_b2 ok zfuel _ _ _ _ h_a0 h_a1)
set_option maxRecDepth 100000 in
set_option maxHeartbeats 4000000 in
theorem m_X11_of (l : Launch) {P : zSt} (hP : zOKP P) {a0 : Nat} {i1 : Int32} {i2 : Int32} (h_a0 : zT P 10 a0) : zMet l P yX11_of cX11_of 3 0 0 (some .int) [.ref a0, .int i1, .int i2] (fun m => f_X11_of P a0 i1 i2 m) := by
  refine zMet.of hP (by decide +kernel) RX11 rfl [(0, .ref a0), (1, .int i1), (2, .int i2)] (fun h => h) (Nat.le_of_ble_eq_true rfl) (fun G m ok => ?_)
  show zG P G (f_X11_of P a0 i1 i2 m) m 0 _ []
  unfold f_X11_of
  refine z_aload_n ok 0 dX11_of_0 rfl (show zG P G _ _ 1 _ _ from ?_)
  refine z_getR ok fd_200 h_a0 (Or.inl rfl) tf_X11_9 dX11_of_1 (fun b1 h_b1 => (show zG P G _ _ 4 _ _ from ?_))
  refine z_iconst ok (0 : Int32) dX11_of_4 (by decide) (show zG P G _ _ 5 _ _ from ?_)
  refine z_bipush ok (12 : Int32) dX11_of_5 (by decide) (show zG P G _ _ 7 _ _ from ?_)
  refine z_iload_n ok 1 dX11_of_7 rfl (show zG P G _ _ 8 _ _ from ?_)
  refine z_imul ok dX11_of_8 (show zG P G _ _ 9 _ _ from ?_)
  refine z_iadd ok dX11_of_9 (show zG P G _ _ 10 _ _ from ?_)
  refine z_iload_n ok 2 dX11_of_10 rfl (show zG P G _ _ 11 _ _ from ?_)
  refine z_iadd ok dX11_of_11 (show zG P G _ _ 12 _ _ from ?_)
  refine z_iald ok h_b1 dX11_of_12 (show zG P G _ _ 13 _ _ from ?_)
  exact z_iret ok dX11_of_13
set_option maxRecDepth 100000 in
set_option maxHeartbeats 4000000 in
theorem m_X11_sets (l : Launch) {P : zSt} (hP : zOKP P) {a0 : Nat} {i1 : Int32} {i2 : Int32} {i3 : Int32} (h_a0 : zT P 10 a0) : zMet l P yX11_sets cX11_sets 4 0 0 none [.ref a0, .int i1, .int i2, .int i3] (fun m => f_X11_sets P a0 i1 i2 i3 m) := by
  refine zMet.of hP (by decide +kernel) RX11 rfl [(0, .ref a0), (1, .int i1), (2, .int i2), (3, .int i3)] (fun h => h) (Nat.le_of_ble_eq_true rfl) (fun G m ok => ?_)
  show zG P G (f_X11_sets P a0 i1 i2 i3 m) m 0 _ []
  unfold f_X11_sets
  refine z_aload_n ok 0 dX11_sets_0 rfl (show zG P G _ _ 1 _ _ from ?_)
  refine z_getR ok fd_200 h_a0 (Or.inl rfl) tf_X11_9 dX11_sets_1 (fun b1 h_b1 => (show zG P G _ _ 4 _ _ from ?_))
  refine z_iconst ok (0 : Int32) dX11_sets_4 (by decide) (show zG P G _ _ 5 _ _ from ?_)
  refine z_bipush ok (12 : Int32) dX11_sets_5 (by decide) (show zG P G _ _ 7 _ _ from ?_)
  refine z_iload_n ok 1 dX11_sets_7 rfl (show zG P G _ _ 8 _ _ from ?_)
  refine z_imul ok dX11_sets_8 (show zG P G _ _ 9 _ _ from ?_)
  refine z_iadd ok dX11_sets_9 (show zG P G _ _ 10 _ _ from ?_)
  refine z_iload_n ok 2 dX11_sets_10 rfl (show zG P G _ _ 11 _ _ from ?_)
  refine z_iadd ok dX11_sets_11 (show zG P G _ _ 12 _ _ from ?_)
  refine z_iload_n ok 3 dX11_sets_12 rfl (show zG P G _ _ 13 _ _ from ?_)
  refine z_iast ok h_b1 dX11_sets_13 (fun m13 => (show zG P G _ _ 14 _ _ from ?_))
  exact z_vret ok dX11_sets_14
set_option maxRecDepth 100000 in
set_option maxHeartbeats 4000000 in
theorem m_X11_isBackend (l : Launch) {P : zSt} (hP : zOKP P) {a0 : Nat} {i1 : Int32} (h_a0 : zT P 10 a0) : zMet l P yX11_isBackend cX11_isBackend 2 1 22 (some .boolean) [.ref a0, .int i1] (fun m => f_X11_isBackend P a0 i1 m) := by
  refine zMet.of hP (by decide +kernel) RX11 rfl [(0, .ref a0), (1, .int i1)] (fun h => h) (Nat.le_of_ble_eq_true rfl) (fun G m ok => ?_)
  show zG P G (f_X11_isBackend P a0 i1 m) m 0 _ []
  unfold f_X11_isBackend
  refine z_iload_n ok 1 dX11_isBackend_0 rfl (show zG P G _ _ 1 _ _ from ?_)
  refine z_iconst ok (0 : Int32) dX11_isBackend_1 (by decide) (show zG P G _ _ 2 _ _ from ?_)
  refine z_aload_n ok 0 dX11_isBackend_2 rfl (show zG P G _ _ 3 _ _ from ?_)
  refine z_getR ok fd_200 h_a0 (Or.inl rfl) tf_X11_9 dX11_isBackend_3 (fun b3 h_b3 => (show zG P G _ _ 6 _ _ from ?_))
  refine z_sipush ok (144 : Int32) dX11_isBackend_6 (by decide) (show zG P G _ _ 9 _ _ from ?_)
  refine z_iald ok h_b3 dX11_isBackend_9 (show zG P G _ _ 10 _ _ from ?_)
  refine z_iconst ok (1 : Int32) dX11_isBackend_10 (by decide) (show zG P G _ _ 11 _ _ from ?_)
  refine z_isub ok dX11_isBackend_11 (show zG P G _ _ 12 _ _ from ?_)
  refine z_callSi ok [.int i1, .int (0 : Int32), .int ((za m b3 (144 : Int32).toNatClampNeg) - (1 : Int32))] (m_X11_isIn _ ok.p) cv_X11_44 rfl (by decide) rfl (Nat.le_of_ble_eq_true rfl) rfl dX11_isBackend_12 (fun r12 m12 => (show zG P G _ _ 15 _ _ from ?_))
  exact z_zret ok dX11_isBackend_15
set_option maxRecDepth 100000 in
set_option maxHeartbeats 4000000 in
theorem m_X11_changes (l : Launch) {P : zSt} (hP : zOKP P) {a0 : Nat} (h_a0 : zT P 10 a0) : zMet l P yX11_changes cX11_changes 1 0 0 none [.ref a0] (fun m => f_X11_changes P a0 m) := by
  refine zMet.of hP (by decide +kernel) RX11 rfl [(0, .ref a0)] (fun h => h) (Nat.le_of_ble_eq_true rfl) (fun G m ok => ?_)
  show zG P G (f_X11_changes P a0 m) m 0 _ []
  unfold f_X11_changes
  refine z_aload_n ok 0 dX11_changes_0 rfl (show zG P G _ _ 1 _ _ from ?_)
  refine z_iconst ok (0 : Int32) dX11_changes_1 (by decide) (show zG P G _ _ 2 _ _ from ?_)
  refine z_putZ ok fd_205 h_a0 (Or.inl rfl) tf_X11_48 dX11_changes_2 (fun m2 => (show zG P G _ _ 5 _ _ from ?_))
  refine z_aload_n ok 0 dX11_changes_5 rfl (show zG P G _ _ 6 _ _ from ?_)
  refine z_iconst ok (0 : Int32) dX11_changes_6 (by decide) (show zG P G _ _ 7 _ _ from ?_)
  refine z_put ok fd_210 h_a0 (Or.inl rfl) tf_X11_52 dX11_changes_7 (fun m7 => (show zG P G _ _ 10 _ _ from ?_))
  exact z_vret ok dX11_changes_10
set_option maxRecDepth 100000 in
set_option maxHeartbeats 4000000 in
theorem t_X11_addBackend_b28 {P : zSt} {G : zC} (ok : zOK P G RX11 cX11_addBackend 6 1 23 (some .int))   {m : zM}  : zG P G (f_X11_addBackend_b28 P  m) m 28 [] [] := by
  unfold f_X11_addBackend_b28
  refine z_bipush ok (-2 : Int32) dX11_addBackend_28 (by decide) (show zG P G _ _ 30 _ _ from ?_)
  exact z_iret ok dX11_addBackend_30
set_option maxRecDepth 100000 in
set_option maxHeartbeats 4000000 in
theorem t_X11_addBackend_b76 {P : zSt} {G : zC} (ok : zOK P G RX11 cX11_addBackend 6 1 23 (some .int))  : ∀ (n : Nat) (a0 : Nat) (x1 : Int32) (x2 : Int32) (x3 : Int32) (x4 : Int32) (x5 : Int32) (m : zM) (h_a0 : zT P 10 a0), zG P G (f_X11_addBackend_b76 P n a0 x1 x2 x3 x4 x5 m) m 76 [(0, .ref a0), (1, .int x1), (2, .int x2), (3, .int x3), (4, .int x4), (5, .int x5)] [] := by
  intro n
  induction n with
  | zero =>
    intros
    exact zG_none
  | succ n ih =>
    intro a0 x1 x2 x3 x4 x5 m h_a0
    unfold f_X11_addBackend_b76
    have hr_76 := ih
    refine z_iload ok 5 dX11_addBackend_76 rfl (show zG P G _ _ 78 _ _ from ?_)
    refine z_bipush ok (12 : Int32) dX11_addBackend_78 (by decide) (show zG P G _ _ 80 _ _ from ?_)
    refine z_icmp_ge ok 98 dX11_addBackend_80 (by decide) ?_ (show zG P G _ _ 83 _ _ from ?_)
    · refine z_aload_n ok 0 dX11_addBackend_98 rfl (show zG P G _ _ 99 _ _ from ?_)
      refine z_iload ok 4 dX11_addBackend_99 rfl (show zG P G _ _ 101 _ _ from ?_)
      refine z_iconst ok (0 : Int32) dX11_addBackend_101 (by decide) (show zG P G _ _ 102 _ _ from ?_)
      refine z_iload_n ok 1 dX11_addBackend_102 rfl (show zG P G _ _ 103 _ _ from ?_)
      refine z_callVv ok [.int x4, .int (0 : Int32), .int x1] (m_X11_sets _ ok.p h_a0) cv_X11_58 h_a0 rfl (by decide) rfl (Nat.le_of_ble_eq_true rfl) rfl dX11_addBackend_103 (fun _ m103 => (show zG P G _ _ 106 _ _ from ?_))
      refine z_aload_n ok 0 dX11_addBackend_106 rfl (show zG P G _ _ 107 _ _ from ?_)
      refine z_iload ok 4 dX11_addBackend_107 rfl (show zG P G _ _ 109 _ _ from ?_)
      refine z_iconst ok (1 : Int32) dX11_addBackend_109 (by decide) (show zG P G _ _ 110 _ _ from ?_)
      refine z_iload_n ok 2 dX11_addBackend_110 rfl (show zG P G _ _ 111 _ _ from ?_)
      refine z_callVv ok [.int x4, .int (1 : Int32), .int x2] (m_X11_sets _ ok.p h_a0) cv_X11_58 h_a0 rfl (by decide) rfl (Nat.le_of_ble_eq_true rfl) rfl dX11_addBackend_111 (fun _ m111 => (show zG P G _ _ 114 _ _ from ?_))
      refine z_aload_n ok 0 dX11_addBackend_114 rfl (show zG P G _ _ 115 _ _ from ?_)
      refine z_iload ok 4 dX11_addBackend_115 rfl (show zG P G _ _ 117 _ _ from ?_)
      refine z_iconst ok (2 : Int32) dX11_addBackend_117 (by decide) (show zG P G _ _ 118 _ _ from ?_)
      refine z_iload_n ok 3 dX11_addBackend_118 rfl (show zG P G _ _ 119 _ _ from ?_)
      refine z_callVv ok [.int x4, .int (2 : Int32), .int x3] (m_X11_sets _ ok.p h_a0) cv_X11_58 h_a0 rfl (by decide) rfl (Nat.le_of_ble_eq_true rfl) rfl dX11_addBackend_119 (fun _ m119 => (show zG P G _ _ 122 _ _ from ?_))
      refine z_aload_n ok 0 dX11_addBackend_122 rfl (show zG P G _ _ 123 _ _ from ?_)
      refine z_iload ok 4 dX11_addBackend_123 rfl (show zG P G _ _ 125 _ _ from ?_)
      refine z_iconst ok (3 : Int32) dX11_addBackend_125 (by decide) (show zG P G _ _ 126 _ _ from ?_)
      refine z_sipush ok (255 : Int32) dX11_addBackend_126 (by decide) (show zG P G _ _ 129 _ _ from ?_)
      refine z_callVv ok [.int x4, .int (3 : Int32), .int (255 : Int32)] (m_X11_sets _ ok.p h_a0) cv_X11_58 h_a0 rfl (by decide) rfl (Nat.le_of_ble_eq_true rfl) rfl dX11_addBackend_129 (fun _ m129 => (show zG P G _ _ 132 _ _ from ?_))
      refine z_iload ok 4 dX11_addBackend_132 rfl (show zG P G _ _ 134 _ _ from ?_)
      exact z_iret ok dX11_addBackend_134
    · refine z_aload_n ok 0 dX11_addBackend_83 rfl (show zG P G _ _ 84 _ _ from ?_)
      refine z_iload ok 4 dX11_addBackend_84 rfl (show zG P G _ _ 86 _ _ from ?_)
      refine z_iload ok 5 dX11_addBackend_86 rfl (show zG P G _ _ 88 _ _ from ?_)
      refine z_iconst ok (0 : Int32) dX11_addBackend_88 (by decide) (show zG P G _ _ 89 _ _ from ?_)
      refine z_callVv ok [.int x4, .int x5, .int (0 : Int32)] (m_X11_sets _ ok.p h_a0) cv_X11_58 h_a0 rfl (by decide) rfl (Nat.le_of_ble_eq_true rfl) rfl dX11_addBackend_89 (fun _ m89 => (show zG P G _ _ 92 _ _ from ?_))
      refine z_iinc ok (fun v92 => [(5, .int v92), (0, .ref a0), (1, .int x1), (2, .int x2), (3, .int x3), (4, .int x4)]) 5 dX11_addBackend_92 rfl (by decide) (by decide) (fun _ => rfl) (fun v92 => (show zG P G _ _ 95 _ _ from ?_))
      refine z_goto ok 76 dX11_addBackend_95 (by decide) ?_
      exact z_sub [1, 2, 3, 4, 5, 0] [(0, .ref a0), (1, .int x1), (2, .int x2), (3, .int x3), (4, .int x4), (5, .int v92)] rfl (hr_76 _ _ _ _ _ _ _ h_a0)
set_option maxRecDepth 100000 in
set_option maxHeartbeats 4000000 in
theorem m_X11_addBackend (l : Launch) {P : zSt} (hP : zOKP P) {a0 : Nat} {i1 : Int32} {i2 : Int32} {i3 : Int32} (h_a0 : zT P 10 a0) : zMet l P yX11_addBackend cX11_addBackend 6 1 23 (some .int) [.ref a0, .int i1, .int i2, .int i3] (fun m => f_X11_addBackend P a0 i1 i2 i3 m) := by
  refine zMet.of hP (by decide +kernel) RX11 rfl [(0, .ref a0), (1, .int i1), (2, .int i2), (3, .int i3)] (fun h => h) (Nat.le_of_ble_eq_true rfl) (fun G m ok => ?_)
  show zG P G (f_X11_addBackend P a0 i1 i2 i3 m) m 0 _ []
  unfold f_X11_addBackend
  refine z_iload_n ok 1 dX11_addBackend_0 rfl (show zG P G _ _ 1 _ _ from ?_)
  refine z_iconst ok (0 : Int32) dX11_addBackend_1 (by decide) (show zG P G _ _ 2 _ _ from ?_)
  refine z_iconst ok (3 : Int32) dX11_addBackend_2 (by decide) (show zG P G _ _ 3 _ _ from ?_)
  refine z_callSi ok [.int i1, .int (0 : Int32), .int (3 : Int32)] (m_X11_isIn _ ok.p) cv_X11_44 rfl (by decide) rfl (Nat.le_of_ble_eq_true rfl) rfl dX11_addBackend_3 (fun r3 m3 => (show zG P G _ _ 6 _ _ from ?_))
  refine z_if_eq ok 28 dX11_addBackend_6 (by decide) ?_ (show zG P G _ _ 9 _ _ from ?_)
  · exact z_sub [] [] rfl (t_X11_addBackend_b28 ok)
  · refine z_iload_n ok 2 dX11_addBackend_9 rfl (show zG P G _ _ 10 _ _ from ?_)
    refine z_iconst ok (0 : Int32) dX11_addBackend_10 (by decide) (show zG P G _ _ 11 _ _ from ?_)
    refine z_iconst ok (2 : Int32) dX11_addBackend_11 (by decide) (show zG P G _ _ 12 _ _ from ?_)
    refine z_callSi ok [.int i2, .int (0 : Int32), .int (2 : Int32)] (m_X11_isIn _ ok.p) cv_X11_44 rfl (by decide) rfl (Nat.le_of_ble_eq_true rfl) rfl dX11_addBackend_12 (fun r12 m12 => (show zG P G _ _ 15 _ _ from ?_))
    refine z_if_eq ok 28 dX11_addBackend_15 (by decide) ?_ (show zG P G _ _ 18 _ _ from ?_)
    · exact z_sub [] [] rfl (t_X11_addBackend_b28 ok)
    · refine z_iload_n ok 3 dX11_addBackend_18 rfl (show zG P G _ _ 19 _ _ from ?_)
      refine z_iconst ok (0 : Int32) dX11_addBackend_19 (by decide) (show zG P G _ _ 20 _ _ from ?_)
      refine z_bipush ok (9 : Int32) dX11_addBackend_20 (by decide) (show zG P G _ _ 22 _ _ from ?_)
      refine z_callSi ok [.int i3, .int (0 : Int32), .int (9 : Int32)] (m_X11_isIn _ ok.p) cv_X11_44 rfl (by decide) rfl (Nat.le_of_ble_eq_true rfl) rfl dX11_addBackend_22 (fun r22 m22 => (show zG P G _ _ 25 _ _ from ?_))
      refine z_if_ne ok 31 dX11_addBackend_25 (by decide) ?_ (show zG P G _ _ 28 _ _ from ?_)
      · refine z_aload_n ok 0 dX11_addBackend_31 rfl (show zG P G _ _ 32 _ _ from ?_)
        refine z_getR ok fd_200 h_a0 (Or.inl rfl) tf_X11_9 dX11_addBackend_32 (fun b32 h_b32 => (show zG P G _ _ 35 _ _ from ?_))
        refine z_sipush ok (144 : Int32) dX11_addBackend_35 (by decide) (show zG P G _ _ 38 _ _ from ?_)
        refine z_iald ok h_b32 dX11_addBackend_38 (show zG P G _ _ 39 _ _ from ?_)
        refine z_bipush ok (12 : Int32) dX11_addBackend_39 (by decide) (show zG P G _ _ 41 _ _ from ?_)
        refine z_icmp_ne ok 47 dX11_addBackend_41 (by decide) ?_ (show zG P G _ _ 44 _ _ from ?_)
        · refine z_aload_n ok 0 dX11_addBackend_47 rfl (show zG P G _ _ 48 _ _ from ?_)
          refine z_callVv ok [] (m_X11_changes _ ok.p h_a0) cv_X11_55 h_a0 rfl (by decide) rfl (Nat.le_of_ble_eq_true rfl) rfl dX11_addBackend_48 (fun _ m48 => (show zG P G _ _ 51 _ _ from ?_))
          refine z_aload_n ok 0 dX11_addBackend_51 rfl (show zG P G _ _ 52 _ _ from ?_)
          refine z_getR ok fd_200 h_a0 (Or.inl rfl) tf_X11_9 dX11_addBackend_52 (fun b52 h_b52 => (show zG P G _ _ 55 _ _ from ?_))
          refine z_sipush ok (144 : Int32) dX11_addBackend_55 (by decide) (show zG P G _ _ 58 _ _ from ?_)
          refine z_iald ok h_b52 dX11_addBackend_58 (show zG P G _ _ 59 _ _ from ?_)
          refine z_istore ok (fun v59 => [(4, .int v59), (0, .ref a0), (1, .int i1), (2, .int i2), (3, .int i3)]) dX11_addBackend_59 (by decide) (fun _ => rfl) (fun v59 => (show zG P G _ _ 61 _ _ from ?_))
          refine z_aload_n ok 1 dX11_addBackend_61 rfl (show zG P G _ _ 62 _ _ from ?_)
          refine z_getR ok fd_200 h_a0 (Or.inl rfl) tf_X11_9 dX11_addBackend_62 (fun b62 h_b62 => (show zG P G _ _ 65 _ _ from ?_))
          refine z_sipush ok (144 : Int32) dX11_addBackend_65 (by decide) (show zG P G _ _ 68 _ _ from ?_)
          refine z_dup2 ok dX11_addBackend_68 rfl rfl (show zG P G _ _ 69 _ _ from ?_)
          refine z_iald ok h_b62 dX11_addBackend_69 (show zG P G _ _ 70 _ _ from ?_)
          refine z_iconst ok (1 : Int32) dX11_addBackend_70 (by decide) (show zG P G _ _ 71 _ _ from ?_)
          refine z_iadd ok dX11_addBackend_71 (show zG P G _ _ 72 _ _ from ?_)
          refine z_iast ok h_b62 dX11_addBackend_72 (fun m72 => (show zG P G _ _ 73 _ _ from ?_))
          refine z_iconst ok (0 : Int32) dX11_addBackend_73 (by decide) (show zG P G _ _ 74 _ _ from ?_)
          refine z_istore0 ok [(5, .int (0 : Int32)), (4, .int v59), (0, .ref a0), (1, .int i1), (2, .int i2), (3, .int i3)] dX11_addBackend_74 (by decide) rfl (show zG P G _ _ 76 _ _ from ?_)
          exact z_sub [2, 3, 4, 5, 1, 0] [(0, .ref a0), (1, .int i1), (2, .int i2), (3, .int i3), (4, .int v59), (5, .int (0 : Int32))] rfl (t_X11_addBackend_b76 ok zfuel _ _ _ _ _ _ _ h_a0)
        · refine z_bipush ok (-3 : Int32) dX11_addBackend_44 (by decide) (show zG P G _ _ 46 _ _ from ?_)
          exact z_iret ok dX11_addBackend_46
      · exact z_sub [] [] rfl (t_X11_addBackend_b28 ok)
set_option maxRecDepth 100000 in
set_option maxHeartbeats 4000000 in
theorem m_X11_put (l : Launch) {P : zSt} (hP : zOKP P) {a0 : Nat} {i1 : Int32} {i2 : Int32} {i3 : Int32} {i4 : Int32} (h_a0 : zT P 10 a0) : zMet l P yX11_put cX11_put 6 2 43 (some .int) [.ref a0, .int i1, .int i2, .int i3, .int i4] (fun m => f_X11_put P a0 i1 i2 i3 i4 m) := by
  refine zMet.of hP (by decide +kernel) RX11 rfl [(0, .ref a0), (1, .int i1), (2, .int i2), (3, .int i3), (4, .int i4)] (fun h => h) (Nat.le_of_ble_eq_true rfl) (fun G m ok => ?_)
  show zG P G (f_X11_put P a0 i1 i2 i3 i4 m) m 0 _ []
  unfold f_X11_put
  refine z_aload_n ok 0 dX11_put_0 rfl (show zG P G _ _ 1 _ _ from ?_)
  refine z_iload_n ok 1 dX11_put_1 rfl (show zG P G _ _ 2 _ _ from ?_)
  refine z_callVi ok [.int i1] (m_X11_isBackend _ ok.p h_a0) cv_X11_62 h_a0 rfl (by decide) rfl (Nat.le_of_ble_eq_true rfl) rfl dX11_put_2 (fun r2 m2 => (show zG P G _ _ 5 _ _ from ?_))
  refine z_if_ne ok 10 dX11_put_5 (by decide) ?_ (show zG P G _ _ 8 _ _ from ?_)
  · refine z_iload_n ok 3 dX11_put_10 rfl (show zG P G _ _ 11 _ _ from ?_)
    refine z_iconst ok (0 : Int32) dX11_put_11 (by decide) (show zG P G _ _ 12 _ _ from ?_)
    refine z_iload ok 4 dX11_put_12 rfl (show zG P G _ _ 14 _ _ from ?_)
    refine z_callSi ok [.int i3, .int (0 : Int32), .int i4] (m_X11_isIn _ ok.p) cv_X11_44 rfl (by decide) rfl (Nat.le_of_ble_eq_true rfl) rfl dX11_put_14 (fun r14 m14 => (show zG P G _ _ 17 _ _ from ?_))
    refine z_if_ne ok 23 dX11_put_17 (by decide) ?_ (show zG P G _ _ 20 _ _ from ?_)
    · refine z_aload_n ok 0 dX11_put_23 rfl (show zG P G _ _ 24 _ _ from ?_)
      refine z_callVv ok [] (m_X11_changes _ ok.p h_a0) cv_X11_55 h_a0 rfl (by decide) rfl (Nat.le_of_ble_eq_true rfl) rfl dX11_put_24 (fun _ m24 => (show zG P G _ _ 27 _ _ from ?_))
      refine z_aload_n ok 0 dX11_put_27 rfl (show zG P G _ _ 28 _ _ from ?_)
      refine z_iload_n ok 1 dX11_put_28 rfl (show zG P G _ _ 29 _ _ from ?_)
      refine z_iload_n ok 2 dX11_put_29 rfl (show zG P G _ _ 30 _ _ from ?_)
      refine z_callVi ok [.int i1, .int i2] (m_X11_of _ ok.p h_a0) cv_X11_66 h_a0 rfl (by decide) rfl (Nat.le_of_ble_eq_true rfl) rfl dX11_put_30 (fun r30 m30 => (show zG P G _ _ 33 _ _ from ?_))
      refine z_istore0 ok [(5, .int r30), (0, .ref a0), (1, .int i1), (2, .int i2), (3, .int i3), (4, .int i4)] dX11_put_33 (by decide) rfl (show zG P G _ _ 35 _ _ from ?_)
      refine z_aload_n ok 1 dX11_put_35 rfl (show zG P G _ _ 36 _ _ from ?_)
      refine z_iload_n ok 2 dX11_put_36 rfl (show zG P G _ _ 37 _ _ from ?_)
      refine z_iload_n ok 3 dX11_put_37 rfl (show zG P G _ _ 38 _ _ from ?_)
      refine z_iload_n ok 4 dX11_put_38 rfl (show zG P G _ _ 39 _ _ from ?_)
      refine z_callVv ok [.int i1, .int i2, .int i3] (m_X11_sets _ ok.p h_a0) cv_X11_58 h_a0 rfl (by decide) rfl (Nat.le_of_ble_eq_true rfl) rfl dX11_put_39 (fun _ m39 => (show zG P G _ _ 42 _ _ from ?_))
      refine z_iload ok 0 dX11_put_42 rfl (show zG P G _ _ 44 _ _ from ?_)
      exact z_iret ok dX11_put_44
    · refine z_bipush ok (-2 : Int32) dX11_put_20 (by decide) (show zG P G _ _ 22 _ _ from ?_)
      exact z_iret ok dX11_put_22
  · refine z_iconst ok (-1 : Int32) dX11_put_8 (by decide) (show zG P G _ _ 9 _ _ from ?_)
    exact z_iret ok dX11_put_9
set_option maxRecDepth 100000 in
set_option maxHeartbeats 4000000 in
theorem m_X11_setWeight (l : Launch) {P : zSt} (hP : zOKP P) {a0 : Nat} {i1 : Int32} {i2 : Int32} (h_a0 : zT P 10 a0) : zMet l P yX11_setWeight cX11_setWeight 3 3 68 (some .int) [.ref a0, .int i1, .int i2] (fun m => f_X11_setWeight P a0 i1 i2 m) := by
  refine zMet.of hP (by decide +kernel) RX11 rfl [(0, .ref a0), (1, .int i1), (2, .int i2)] (fun h => h) (Nat.le_of_ble_eq_true rfl) (fun G m ok => ?_)
  show zG P G (f_X11_setWeight P a0 i1 i2 m) m 0 _ []
  unfold f_X11_setWeight
  refine z_aload_n ok 0 dX11_setWeight_0 rfl (show zG P G _ _ 1 _ _ from ?_)
  refine z_iload_n ok 1 dX11_setWeight_1 rfl (show zG P G _ _ 2 _ _ from ?_)
  refine z_iconst ok (2 : Int32) dX11_setWeight_2 (by decide) (show zG P G _ _ 3 _ _ from ?_)
  refine z_iload_n ok 2 dX11_setWeight_3 rfl (show zG P G _ _ 4 _ _ from ?_)
  refine z_bipush ok (9 : Int32) dX11_setWeight_4 (by decide) (show zG P G _ _ 6 _ _ from ?_)
  refine z_callVi ok [.int i1, .int (2 : Int32), .int i2, .int (9 : Int32)] (m_X11_put _ ok.p h_a0) cv_X11_70 h_a0 rfl (by decide) rfl (Nat.le_of_ble_eq_true rfl) rfl dX11_setWeight_6 (fun r6 m6 => (show zG P G _ _ 9 _ _ from ?_))
  exact z_iret ok dX11_setWeight_9
set_option maxRecDepth 100000 in
set_option maxHeartbeats 4000000 in
theorem m_X11_setPattern (l : Launch) {P : zSt} (hP : zOKP P) {a0 : Nat} {i1 : Int32} {i2 : Int32} (h_a0 : zT P 10 a0) : zMet l P yX11_setPattern cX11_setPattern 3 3 68 (some .int) [.ref a0, .int i1, .int i2] (fun m => f_X11_setPattern P a0 i1 i2 m) := by
  refine zMet.of hP (by decide +kernel) RX11 rfl [(0, .ref a0), (1, .int i1), (2, .int i2)] (fun h => h) (Nat.le_of_ble_eq_true rfl) (fun G m ok => ?_)
  show zG P G (f_X11_setPattern P a0 i1 i2 m) m 0 _ []
  unfold f_X11_setPattern
  refine z_aload_n ok 0 dX11_setPattern_0 rfl (show zG P G _ _ 1 _ _ from ?_)
  refine z_iload_n ok 1 dX11_setPattern_1 rfl (show zG P G _ _ 2 _ _ from ?_)
  refine z_iconst ok (3 : Int32) dX11_setPattern_2 (by decide) (show zG P G _ _ 3 _ _ from ?_)
  refine z_iload_n ok 2 dX11_setPattern_3 rfl (show zG P G _ _ 4 _ _ from ?_)
  refine z_sipush ok (255 : Int32) dX11_setPattern_4 (by decide) (show zG P G _ _ 7 _ _ from ?_)
  refine z_callVi ok [.int i1, .int (3 : Int32), .int i2, .int (255 : Int32)] (m_X11_put _ ok.p h_a0) cv_X11_70 h_a0 rfl (by decide) rfl (Nat.le_of_ble_eq_true rfl) rfl dX11_setPattern_7 (fun r7 m7 => (show zG P G _ _ 10 _ _ from ?_))
  exact z_iret ok dX11_setPattern_10
set_option maxRecDepth 100000 in
set_option maxHeartbeats 4000000 in
theorem t_X11_configure_b61 {P : zSt} {G : zC} (ok : zOK P G RX11 cX11_configure 9 1 22 (some .int))   {m : zM}  : zG P G (f_X11_configure_b61 P  m) m 61 [] [] := by
  unfold f_X11_configure_b61
  refine z_bipush ok (-2 : Int32) dX11_configure_61 (by decide) (show zG P G _ _ 63 _ _ from ?_)
  exact z_iret ok dX11_configure_63
set_option maxRecDepth 100000 in
set_option maxHeartbeats 4000000 in
theorem m_X11_configure (l : Launch) {P : zSt} (hP : zOKP P) {a0 : Nat} {i1 : Int32} {i2 : Int32} {i3 : Int32} {i4 : Int32} {i5 : Int32} {i6 : Int32} (h_a0 : zT P 10 a0) : zMet l P yX11_configure cX11_configure 9 1 22 (some .int) [.ref a0, .int i1, .int i2, .int i3, .int i4, .int i5, .int i6] (fun m => f_X11_configure P a0 i1 i2 i3 i4 i5 i6 m) := by
  refine zMet.of hP (by decide +kernel) RX11 rfl [(0, .ref a0), (1, .int i1), (2, .int i2), (3, .int i3), (4, .int i4), (5, .int i5), (6, .int i6)] (fun h => h) (Nat.le_of_ble_eq_true rfl) (fun G m ok => ?_)
  show zG P G (f_X11_configure P a0 i1 i2 i3 i4 i5 i6 m) m 0 _ []
  unfold f_X11_configure
  refine z_iload_n ok 1 dX11_configure_0 rfl (show zG P G _ _ 1 _ _ from ?_)
  refine z_iconst ok (0 : Int32) dX11_configure_1 (by decide) (show zG P G _ _ 2 _ _ from ?_)
  refine z_iconst ok (3 : Int32) dX11_configure_2 (by decide) (show zG P G _ _ 3 _ _ from ?_)
  refine z_callSi ok [.int i1, .int (0 : Int32), .int (3 : Int32)] (m_X11_isIn _ ok.p) cv_X11_44 rfl (by decide) rfl (Nat.le_of_ble_eq_true rfl) rfl dX11_configure_3 (fun r3 m3 => (show zG P G _ _ 6 _ _ from ?_))
  refine z_if_eq ok 61 dX11_configure_6 (by decide) ?_ (show zG P G _ _ 9 _ _ from ?_)
  · exact z_sub [] [] rfl (t_X11_configure_b61 ok)
  · refine z_iload_n ok 2 dX11_configure_9 rfl (show zG P G _ _ 10 _ _ from ?_)
    refine z_iconst ok (0 : Int32) dX11_configure_10 (by decide) (show zG P G _ _ 11 _ _ from ?_)
    refine z_iconst ok (2 : Int32) dX11_configure_11 (by decide) (show zG P G _ _ 12 _ _ from ?_)
    refine z_callSi ok [.int i2, .int (0 : Int32), .int (2 : Int32)] (m_X11_isIn _ ok.p) cv_X11_44 rfl (by decide) rfl (Nat.le_of_ble_eq_true rfl) rfl dX11_configure_12 (fun r12 m12 => (show zG P G _ _ 15 _ _ from ?_))
    refine z_if_eq ok 61 dX11_configure_15 (by decide) ?_ (show zG P G _ _ 18 _ _ from ?_)
    · exact z_sub [] [] rfl (t_X11_configure_b61 ok)
    · refine z_iload_n ok 3 dX11_configure_18 rfl (show zG P G _ _ 19 _ _ from ?_)
      refine z_iconst ok (1 : Int32) dX11_configure_19 (by decide) (show zG P G _ _ 20 _ _ from ?_)
      refine z_bipush ok (9 : Int32) dX11_configure_20 (by decide) (show zG P G _ _ 22 _ _ from ?_)
      refine z_callSi ok [.int i3, .int (1 : Int32), .int (9 : Int32)] (m_X11_isIn _ ok.p) cv_X11_44 rfl (by decide) rfl (Nat.le_of_ble_eq_true rfl) rfl dX11_configure_22 (fun r22 m22 => (show zG P G _ _ 25 _ _ from ?_))
      refine z_if_eq ok 61 dX11_configure_25 (by decide) ?_ (show zG P G _ _ 28 _ _ from ?_)
      · exact z_sub [] [] rfl (t_X11_configure_b61 ok)
      · refine z_iload ok 4 dX11_configure_28 rfl (show zG P G _ _ 30 _ _ from ?_)
        refine z_iconst ok (1 : Int32) dX11_configure_30 (by decide) (show zG P G _ _ 31 _ _ from ?_)
        refine z_bipush ok (20 : Int32) dX11_configure_31 (by decide) (show zG P G _ _ 33 _ _ from ?_)
        refine z_callSi ok [.int i4, .int (1 : Int32), .int (20 : Int32)] (m_X11_isIn _ ok.p) cv_X11_44 rfl (by decide) rfl (Nat.le_of_ble_eq_true rfl) rfl dX11_configure_33 (fun r33 m33 => (show zG P G _ _ 36 _ _ from ?_))
        refine z_if_eq ok 61 dX11_configure_36 (by decide) ?_ (show zG P G _ _ 39 _ _ from ?_)
        · exact z_sub [] [] rfl (t_X11_configure_b61 ok)
        · refine z_iload ok 5 dX11_configure_39 rfl (show zG P G _ _ 41 _ _ from ?_)
          refine z_iconst ok (0 : Int32) dX11_configure_41 (by decide) (show zG P G _ _ 42 _ _ from ?_)
          refine z_bipush ok (100 : Int32) dX11_configure_42 (by decide) (show zG P G _ _ 44 _ _ from ?_)
          refine z_callSi ok [.int i5, .int (0 : Int32), .int (100 : Int32)] (m_X11_isIn _ ok.p) cv_X11_44 rfl (by decide) rfl (Nat.le_of_ble_eq_true rfl) rfl dX11_configure_44 (fun r44 m44 => (show zG P G _ _ 47 _ _ from ?_))
          refine z_if_eq ok 61 dX11_configure_47 (by decide) ?_ (show zG P G _ _ 50 _ _ from ?_)
          · exact z_sub [] [] rfl (t_X11_configure_b61 ok)
          · refine z_iload ok 6 dX11_configure_50 rfl (show zG P G _ _ 52 _ _ from ?_)
            refine z_iconst ok (0 : Int32) dX11_configure_52 (by decide) (show zG P G _ _ 53 _ _ from ?_)
            refine z_bipush ok (100 : Int32) dX11_configure_53 (by decide) (show zG P G _ _ 55 _ _ from ?_)
            refine z_callSi ok [.int i6, .int (0 : Int32), .int (100 : Int32)] (m_X11_isIn _ ok.p) cv_X11_44 rfl (by decide) rfl (Nat.le_of_ble_eq_true rfl) rfl dX11_configure_55 (fun r55 m55 => (show zG P G _ _ 58 _ _ from ?_))
            refine z_if_ne ok 64 dX11_configure_58 (by decide) ?_ (show zG P G _ _ 61 _ _ from ?_)
            · refine z_aload_n ok 0 dX11_configure_64 rfl (show zG P G _ _ 65 _ _ from ?_)
              refine z_callVv ok [] (m_X11_changes _ ok.p h_a0) cv_X11_55 h_a0 rfl (by decide) rfl (Nat.le_of_ble_eq_true rfl) rfl dX11_configure_65 (fun _ m65 => (show zG P G _ _ 68 _ _ from ?_))
              refine z_sipush ok (145 : Int32) dX11_configure_68 (by decide) (show zG P G _ _ 71 _ _ from ?_)
              refine z_bipush ok (21 : Int32) dX11_configure_71 (by decide) (show zG P G _ _ 73 _ _ from ?_)
              refine z_iload_n ok 1 dX11_configure_73 rfl (show zG P G _ _ 74 _ _ from ?_)
              refine z_imul ok dX11_configure_74 (show zG P G _ _ 75 _ _ from ?_)
              refine z_iadd ok dX11_configure_75 (show zG P G _ _ 76 _ _ from ?_)
              refine z_istore ok (fun v76 => [(7, .int v76), (0, .ref a0), (1, .int i1), (2, .int i2), (3, .int i3), (4, .int i4), (5, .int i5), (6, .int i6)]) dX11_configure_76 (by decide) (fun _ => rfl) (fun v76 => (show zG P G _ _ 78 _ _ from ?_))
              refine z_aload_n ok 1 dX11_configure_78 rfl (show zG P G _ _ 79 _ _ from ?_)
              refine z_getR ok fd_200 h_a0 (Or.inl rfl) tf_X11_9 dX11_configure_79 (fun b79 h_b79 => (show zG P G _ _ 82 _ _ from ?_))
              refine z_iload ok 0 dX11_configure_82 rfl (show zG P G _ _ 84 _ _ from ?_)
              refine z_iald ok h_b79 dX11_configure_84 (show zG P G _ _ 85 _ _ from ?_)
              refine z_istore ok (fun v85 => [(8, .int v85), (7, .int v76), (0, .ref a0), (1, .int i1), (2, .int i2), (3, .int i3), (4, .int i4), (5, .int i5), (6, .int i6)]) dX11_configure_85 (by decide) (fun _ => rfl) (fun v85 => (show zG P G _ _ 87 _ _ from ?_))
              refine z_aload_n ok 2 dX11_configure_87 rfl (show zG P G _ _ 88 _ _ from ?_)
              refine z_getR ok fd_200 h_a0 (Or.inl rfl) tf_X11_9 dX11_configure_88 (fun b88 h_b88 => (show zG P G _ _ 91 _ _ from ?_))
              refine z_iload ok 1 dX11_configure_91 rfl (show zG P G _ _ 93 _ _ from ?_)
              refine z_iload_n ok 4 dX11_configure_93 rfl (show zG P G _ _ 94 _ _ from ?_)
              refine z_iast ok h_b88 dX11_configure_94 (fun m94 => (show zG P G _ _ 95 _ _ from ?_))
              refine z_aload_n ok 2 dX11_configure_95 rfl (show zG P G _ _ 96 _ _ from ?_)
              refine z_getR ok fd_200 h_a0 (Or.inl rfl) tf_X11_9 dX11_configure_96 (fun b96 h_b96 => (show zG P G _ _ 99 _ _ from ?_))
              refine z_iload ok 1 dX11_configure_99 rfl (show zG P G _ _ 101 _ _ from ?_)
              refine z_iconst ok (1 : Int32) dX11_configure_101 (by decide) (show zG P G _ _ 102 _ _ from ?_)
              refine z_iadd ok dX11_configure_102 (show zG P G _ _ 103 _ _ from ?_)
              refine z_iload_n ok 5 dX11_configure_103 rfl (show zG P G _ _ 104 _ _ from ?_)
              refine z_iast ok h_b96 dX11_configure_104 (fun m104 => (show zG P G _ _ 105 _ _ from ?_))
              refine z_aload_n ok 2 dX11_configure_105 rfl (show zG P G _ _ 106 _ _ from ?_)
              refine z_getR ok fd_200 h_a0 (Or.inl rfl) tf_X11_9 dX11_configure_106 (fun b106 h_b106 => (show zG P G _ _ 109 _ _ from ?_))
              refine z_iload ok 1 dX11_configure_109 rfl (show zG P G _ _ 111 _ _ from ?_)
              refine z_iconst ok (2 : Int32) dX11_configure_111 (by decide) (show zG P G _ _ 112 _ _ from ?_)
              refine z_iadd ok dX11_configure_112 (show zG P G _ _ 113 _ _ from ?_)
              refine z_iload ok 6 dX11_configure_113 rfl (show zG P G _ _ 115 _ _ from ?_)
              refine z_iast ok h_b106 dX11_configure_115 (fun m115 => (show zG P G _ _ 116 _ _ from ?_))
              refine z_aload_n ok 2 dX11_configure_116 rfl (show zG P G _ _ 117 _ _ from ?_)
              refine z_getR ok fd_200 h_a0 (Or.inl rfl) tf_X11_9 dX11_configure_117 (fun b117 h_b117 => (show zG P G _ _ 120 _ _ from ?_))
              refine z_iload ok 1 dX11_configure_120 rfl (show zG P G _ _ 122 _ _ from ?_)
              refine z_iconst ok (3 : Int32) dX11_configure_122 (by decide) (show zG P G _ _ 123 _ _ from ?_)
              refine z_iadd ok dX11_configure_123 (show zG P G _ _ 124 _ _ from ?_)
              refine z_iload ok 7 dX11_configure_124 rfl (show zG P G _ _ 126 _ _ from ?_)
              refine z_iast ok h_b117 dX11_configure_126 (fun m126 => (show zG P G _ _ 127 _ _ from ?_))
              refine z_aload_n ok 2 dX11_configure_127 rfl (show zG P G _ _ 128 _ _ from ?_)
              refine z_getR ok fd_200 h_a0 (Or.inl rfl) tf_X11_9 dX11_configure_128 (fun b128 h_b128 => (show zG P G _ _ 131 _ _ from ?_))
              refine z_iload ok 1 dX11_configure_131 rfl (show zG P G _ _ 133 _ _ from ?_)
              refine z_iconst ok (4 : Int32) dX11_configure_133 (by decide) (show zG P G _ _ 134 _ _ from ?_)
              refine z_iadd ok dX11_configure_134 (show zG P G _ _ 135 _ _ from ?_)
              refine z_iload ok 8 dX11_configure_135 rfl (show zG P G _ _ 137 _ _ from ?_)
              refine z_iast ok h_b128 dX11_configure_137 (fun m137 => (show zG P G _ _ 138 _ _ from ?_))
              refine z_iload ok 0 dX11_configure_138 rfl (show zG P G _ _ 140 _ _ from ?_)
              exact z_iret ok dX11_configure_140
            · exact z_sub [] [] rfl (t_X11_configure_b61 ok)
set_option maxRecDepth 100000 in
set_option maxHeartbeats 4000000 in
theorem m_X11_setZoneLimit (l : Launch) {P : zSt} (hP : zOKP P) {a0 : Nat} {i1 : Int32} (h_a0 : zT P 10 a0) : zMet l P yX11_setZoneLimit cX11_setZoneLimit 3 1 22 (some .int) [.ref a0, .int i1] (fun m => f_X11_setZoneLimit P a0 i1 m) := by
  refine zMet.of hP (by decide +kernel) RX11 rfl [(0, .ref a0), (1, .int i1)] (fun h => h) (Nat.le_of_ble_eq_true rfl) (fun G m ok => ?_)
  show zG P G (f_X11_setZoneLimit P a0 i1 m) m 0 _ []
  unfold f_X11_setZoneLimit
  refine z_iload_n ok 1 dX11_setZoneLimit_0 rfl (show zG P G _ _ 1 _ _ from ?_)
  refine z_iconst ok (1 : Int32) dX11_setZoneLimit_1 (by decide) (show zG P G _ _ 2 _ _ from ?_)
  refine z_bipush ok (100 : Int32) dX11_setZoneLimit_2 (by decide) (show zG P G _ _ 4 _ _ from ?_)
  refine z_callSi ok [.int i1, .int (1 : Int32), .int (100 : Int32)] (m_X11_isIn _ ok.p) cv_X11_44 rfl (by decide) rfl (Nat.le_of_ble_eq_true rfl) rfl dX11_setZoneLimit_4 (fun r4 m4 => (show zG P G _ _ 7 _ _ from ?_))
  refine z_if_ne ok 13 dX11_setZoneLimit_7 (by decide) ?_ (show zG P G _ _ 10 _ _ from ?_)
  · refine z_aload_n ok 0 dX11_setZoneLimit_13 rfl (show zG P G _ _ 14 _ _ from ?_)
    refine z_callVv ok [] (m_X11_changes _ ok.p h_a0) cv_X11_55 h_a0 rfl (by decide) rfl (Nat.le_of_ble_eq_true rfl) rfl dX11_setZoneLimit_14 (fun _ m14 => (show zG P G _ _ 17 _ _ from ?_))
    refine z_aload_n ok 0 dX11_setZoneLimit_17 rfl (show zG P G _ _ 18 _ _ from ?_)
    refine z_getR ok fd_200 h_a0 (Or.inl rfl) tf_X11_9 dX11_setZoneLimit_18 (fun b18 h_b18 => (show zG P G _ _ 21 _ _ from ?_))
    refine z_sipush ok (229 : Int32) dX11_setZoneLimit_21 (by decide) (show zG P G _ _ 24 _ _ from ?_)
    refine z_iald ok h_b18 dX11_setZoneLimit_24 (show zG P G _ _ 25 _ _ from ?_)
    refine z_istore_n ok (fun v25 => [(2, .int v25), (0, .ref a0), (1, .int i1)]) dX11_setZoneLimit_25 (by decide) (fun _ => rfl) (fun v25 => (show zG P G _ _ 26 _ _ from ?_))
    refine z_aload_n ok 1 dX11_setZoneLimit_26 rfl (show zG P G _ _ 27 _ _ from ?_)
    refine z_getR ok fd_200 h_a0 (Or.inl rfl) tf_X11_9 dX11_setZoneLimit_27 (fun b27 h_b27 => (show zG P G _ _ 30 _ _ from ?_))
    refine z_sipush ok (229 : Int32) dX11_setZoneLimit_30 (by decide) (show zG P G _ _ 33 _ _ from ?_)
    refine z_iload_n ok 2 dX11_setZoneLimit_33 rfl (show zG P G _ _ 34 _ _ from ?_)
    refine z_iast ok h_b27 dX11_setZoneLimit_34 (fun m34 => (show zG P G _ _ 35 _ _ from ?_))
    refine z_iload_n ok 0 dX11_setZoneLimit_35 rfl (show zG P G _ _ 36 _ _ from ?_)
    exact z_iret ok dX11_setZoneLimit_36
  · refine z_bipush ok (-2 : Int32) dX11_setZoneLimit_10 (by decide) (show zG P G _ _ 12 _ _ from ?_)
    exact z_iret ok dX11_setZoneLimit_12
set_option maxRecDepth 100000 in
set_option maxHeartbeats 4000000 in
theorem t_X11_append_b20 {P : zSt} {G : zC} (ok : zOK P G RX11 cX11_append 4 1 22 (some .int))   {m : zM}  : zG P G (f_X11_append_b20 P  m) m 20 [] [] := by
  unfold f_X11_append_b20
  refine z_bipush ok (-2 : Int32) dX11_append_20 (by decide) (show zG P G _ _ 22 _ _ from ?_)
  exact z_iret ok dX11_append_22
set_option maxRecDepth 100000 in
set_option maxHeartbeats 4000000 in
theorem t_X11_append_b39 {P : zSt} {G : zC} (ok : zOK P G RX11 cX11_append 4 1 22 (some .int))  : ∀ (n : Nat) (a0 : Nat) (x1 : Int32) (x2 : Int32) (x3 : Int32) (m : zM) (h_a0 : zT P 10 a0), zG P G (f_X11_append_b39 P n a0 x1 x2 x3 m) m 39 [(0, .ref a0), (1, .int x1), (2, .int x2), (3, .int x3)] [] := by
  intro n
  induction n with
  | zero =>
    intros
    exact zG_none
  | succ n ih =>
    intro a0 x1 x2 x3 m h_a0
    unfold f_X11_append_b39
    have hr_39 := ih
    refine z_iload_n ok 3 dX11_append_39 rfl (show zG P G _ _ 40 _ _ from ?_)
    refine z_iload_n ok 2 dX11_append_40 rfl (show zG P G _ _ 41 _ _ from ?_)
    refine z_icmp_ge ok 70 dX11_append_41 (by decide) ?_ (show zG P G _ _ 44 _ _ from ?_)
    · refine z_aload_n ok 0 dX11_append_70 rfl (show zG P G _ _ 71 _ _ from ?_)
      refine z_get ok fd_207 h_a0 (Or.inl rfl) tf_X11_74 dX11_append_71 (show zG P G _ _ 74 _ _ from ?_)
      exact z_iret ok dX11_append_74
    · refine z_aload_n ok 0 dX11_append_44 rfl (show zG P G _ _ 45 _ _ from ?_)
      refine z_getR ok fd_206 h_a0 (Or.inl rfl) tf_X11_22 dX11_append_45 (fun b45 h_b45 => (show zG P G _ _ 48 _ _ from ?_))
      refine z_aload_n ok 0 dX11_append_48 rfl (show zG P G _ _ 49 _ _ from ?_)
      refine z_get ok fd_207 h_a0 (Or.inl rfl) tf_X11_74 dX11_append_49 (show zG P G _ _ 52 _ _ from ?_)
      refine z_iload_n ok 1 dX11_append_52 rfl (show zG P G _ _ 53 _ _ from ?_)
      refine z_iast ok h_b45 dX11_append_53 (fun m53 => (show zG P G _ _ 54 _ _ from ?_))
      refine z_aload_n ok 0 dX11_append_54 rfl (show zG P G _ _ 55 _ _ from ?_)
      refine z_dup ok dX11_append_55 rfl (show zG P G _ _ 56 _ _ from ?_)
      refine z_get ok fd_207 h_a0 (Or.inl rfl) tf_X11_74 dX11_append_56 (show zG P G _ _ 59 _ _ from ?_)
      refine z_iconst ok (1 : Int32) dX11_append_59 (by decide) (show zG P G _ _ 60 _ _ from ?_)
      refine z_iadd ok dX11_append_60 (show zG P G _ _ 61 _ _ from ?_)
      refine z_put ok fd_207 h_a0 (Or.inl rfl) tf_X11_74 dX11_append_61 (fun m61 => (show zG P G _ _ 64 _ _ from ?_))
      refine z_iinc ok (fun v64 => [(3, .int v64), (0, .ref a0), (1, .int x1), (2, .int x2)]) 3 dX11_append_64 rfl (by decide) (by decide) (fun _ => rfl) (fun v64 => (show zG P G _ _ 67 _ _ from ?_))
      refine z_goto ok 39 dX11_append_67 (by decide) ?_
      exact z_sub [1, 2, 3, 0] [(0, .ref a0), (1, .int x1), (2, .int x2), (3, .int v64)] rfl (hr_39 _ _ _ _ _ h_a0)
set_option maxRecDepth 100000 in
set_option maxHeartbeats 4000000 in
theorem m_X11_append (l : Launch) {P : zSt} (hP : zOKP P) {a0 : Nat} {i1 : Int32} {i2 : Int32} (h_a0 : zT P 10 a0) : zMet l P yX11_append cX11_append 4 1 22 (some .int) [.ref a0, .int i1, .int i2] (fun m => f_X11_append P a0 i1 i2 m) := by
  refine zMet.of hP (by decide +kernel) RX11 rfl [(0, .ref a0), (1, .int i1), (2, .int i2)] (fun h => h) (Nat.le_of_ble_eq_true rfl) (fun G m ok => ?_)
  show zG P G (f_X11_append P a0 i1 i2 m) m 0 _ []
  unfold f_X11_append
  refine z_iload_n ok 1 dX11_append_0 rfl (show zG P G _ _ 1 _ _ from ?_)
  refine z_iconst ok (0 : Int32) dX11_append_1 (by decide) (show zG P G _ _ 2 _ _ from ?_)
  refine z_bipush ok (127 : Int32) dX11_append_2 (by decide) (show zG P G _ _ 4 _ _ from ?_)
  refine z_callSi ok [.int i1, .int (0 : Int32), .int (127 : Int32)] (m_X11_isIn _ ok.p) cv_X11_44 rfl (by decide) rfl (Nat.le_of_ble_eq_true rfl) rfl dX11_append_4 (fun r4 m4 => (show zG P G _ _ 7 _ _ from ?_))
  refine z_if_eq ok 20 dX11_append_7 (by decide) ?_ (show zG P G _ _ 10 _ _ from ?_)
  · exact z_sub [] [] rfl (t_X11_append_b20 ok)
  · refine z_iload_n ok 2 dX11_append_10 rfl (show zG P G _ _ 11 _ _ from ?_)
    refine z_iconst ok (1 : Int32) dX11_append_11 (by decide) (show zG P G _ _ 12 _ _ from ?_)
    refine z_bipush ok (40 : Int32) dX11_append_12 (by decide) (show zG P G _ _ 14 _ _ from ?_)
    refine z_callSi ok [.int i2, .int (1 : Int32), .int (40 : Int32)] (m_X11_isIn _ ok.p) cv_X11_44 rfl (by decide) rfl (Nat.le_of_ble_eq_true rfl) rfl dX11_append_14 (fun r14 m14 => (show zG P G _ _ 17 _ _ from ?_))
    refine z_if_ne ok 23 dX11_append_17 (by decide) ?_ (show zG P G _ _ 20 _ _ from ?_)
    · refine z_aload_n ok 0 dX11_append_23 rfl (show zG P G _ _ 24 _ _ from ?_)
      refine z_get ok fd_207 h_a0 (Or.inl rfl) tf_X11_74 dX11_append_24 (show zG P G _ _ 27 _ _ from ?_)
      refine z_iload_n ok 2 dX11_append_27 rfl (show zG P G _ _ 28 _ _ from ?_)
      refine z_iadd ok dX11_append_28 (show zG P G _ _ 29 _ _ from ?_)
      refine z_bipush ok (40 : Int32) dX11_append_29 (by decide) (show zG P G _ _ 31 _ _ from ?_)
      refine z_icmp_le ok 37 dX11_append_31 (by decide) ?_ (show zG P G _ _ 34 _ _ from ?_)
      · refine z_iconst ok (0 : Int32) dX11_append_37 (by decide) (show zG P G _ _ 38 _ _ from ?_)
        refine z_istore_n0 ok [(3, .int (0 : Int32)), (0, .ref a0), (1, .int i1), (2, .int i2)] dX11_append_38 (by decide) rfl (show zG P G _ _ 39 _ _ from ?_)
        exact z_sub [1, 2, 3, 0] [(0, .ref a0), (1, .int i1), (2, .int i2), (3, .int (0 : Int32))] rfl (t_X11_append_b39 ok zfuel _ _ _ _ _ h_a0)
      · refine z_bipush ok (-3 : Int32) dX11_append_34 (by decide) (show zG P G _ _ 36 _ _ from ?_)
        exact z_iret ok dX11_append_36
    · exact z_sub [] [] rfl (t_X11_append_b20 ok)
set_option maxRecDepth 100000 in
set_option maxHeartbeats 4000000 in
theorem t_X11_isOfPath_b17 {P : zSt} {G : zC} (ok : zOK P G RX11 cX11_isOfPath 1 1 22 (some .boolean))   {m : zM}  : zG P G (f_X11_isOfPath_b17 P  m) m 17 [] [] := by
  unfold f_X11_isOfPath_b17
  refine z_iconst ok (1 : Int32) dX11_isOfPath_17 (by decide) (show zG P G _ _ 18 _ _ from ?_)
  refine z_goto ok 22 dX11_isOfPath_18 (by decide) ?_
  exact z_zret ok dX11_isOfPath_22
set_option maxRecDepth 100000 in
set_option maxHeartbeats 4000000 in
theorem m_X11_isOfPath (l : Launch) {P : zSt} (hP : zOKP P) {i0 : Int32}  : zMet l P yX11_isOfPath cX11_isOfPath 1 1 22 (some .boolean) [.int i0] (fun m => f_X11_isOfPath P i0 m) := by
  refine zMet.of hP (by decide +kernel) RX11 rfl [(0, .int i0)] (fun h => h) (Nat.le_of_ble_eq_true rfl) (fun G m ok => ?_)
  show zG P G (f_X11_isOfPath P i0 m) m 0 _ []
  unfold f_X11_isOfPath
  refine z_iload_n ok 0 dX11_isOfPath_0 rfl (show zG P G _ _ 1 _ _ from ?_)
  refine z_bipush ok (47 : Int32) dX11_isOfPath_1 (by decide) (show zG P G _ _ 3 _ _ from ?_)
  refine z_icmp_eq ok 17 dX11_isOfPath_3 (by decide) ?_ (show zG P G _ _ 6 _ _ from ?_)
  · exact z_sub [] [] rfl (t_X11_isOfPath_b17 ok)
  · refine z_iload_n ok 0 dX11_isOfPath_6 rfl (show zG P G _ _ 7 _ _ from ?_)
    refine z_bipush ok (97 : Int32) dX11_isOfPath_7 (by decide) (show zG P G _ _ 9 _ _ from ?_)
    refine z_bipush ok (122 : Int32) dX11_isOfPath_9 (by decide) (show zG P G _ _ 11 _ _ from ?_)
    refine z_callSi ok [.int i0, .int (97 : Int32), .int (122 : Int32)] (m_X11_isIn _ ok.p) cv_X11_44 rfl (by decide) rfl (Nat.le_of_ble_eq_true rfl) rfl dX11_isOfPath_11 (fun r11 m11 => (show zG P G _ _ 14 _ _ from ?_))
    refine z_if_eq ok 21 dX11_isOfPath_14 (by decide) ?_ (show zG P G _ _ 17 _ _ from ?_)
    · refine z_iconst ok (0 : Int32) dX11_isOfPath_21 (by decide) (show zG P G _ _ 22 _ _ from ?_)
      exact z_zret ok dX11_isOfPath_22
    · exact z_sub [] [] rfl (t_X11_isOfPath_b17 ok)
set_option maxRecDepth 100000 in
set_option maxHeartbeats 4000000 in
theorem t_X11_isPath_b18 {P : zSt} {G : zC} (ok : zOK P G RX11 cX11_isPath 2 2 42 (some .boolean))   {m : zM}  : zG P G (f_X11_isPath_b18 P  m) m 18 [] [] := by
  unfold f_X11_isPath_b18
  refine z_iconst ok (0 : Int32) dX11_isPath_18 (by decide) (show zG P G _ _ 19 _ _ from ?_)
  exact z_zret ok dX11_isPath_19
set_option maxRecDepth 100000 in
set_option maxHeartbeats 4000000 in
theorem t_X11_isPath_b22 {P : zSt} {G : zC} (ok : zOK P G RX11 cX11_isPath 2 2 42 (some .boolean))  : ∀ (n : Nat) (a0 : Nat) (x1 : Int32) (m : zM) (h_a0 : zT P 10 a0), zG P G (f_X11_isPath_b22 P n a0 x1 m) m 22 [(0, .ref a0), (1, .int x1)] [] := by
  intro n
  induction n with
  | zero =>
    intros
    exact zG_none
  | succ n ih =>
    intro a0 x1 m h_a0
    unfold f_X11_isPath_b22
    have hr_22 := ih
    refine z_iload_n ok 1 dX11_isPath_22 rfl (show zG P G _ _ 23 _ _ from ?_)
    refine z_aload_n ok 0 dX11_isPath_23 rfl (show zG P G _ _ 24 _ _ from ?_)
    refine z_get ok fd_207 h_a0 (Or.inl rfl) tf_X11_74 dX11_isPath_24 (show zG P G _ _ 27 _ _ from ?_)
    refine z_icmp_ge ok 50 dX11_isPath_27 (by decide) ?_ (show zG P G _ _ 30 _ _ from ?_)
    · refine z_iconst ok (1 : Int32) dX11_isPath_50 (by decide) (show zG P G _ _ 51 _ _ from ?_)
      exact z_zret ok dX11_isPath_51
    · refine z_aload_n ok 0 dX11_isPath_30 rfl (show zG P G _ _ 31 _ _ from ?_)
      refine z_getR ok fd_206 h_a0 (Or.inl rfl) tf_X11_22 dX11_isPath_31 (fun b31 h_b31 => (show zG P G _ _ 34 _ _ from ?_))
      refine z_iload_n ok 1 dX11_isPath_34 rfl (show zG P G _ _ 35 _ _ from ?_)
      refine z_iald ok h_b31 dX11_isPath_35 (show zG P G _ _ 36 _ _ from ?_)
      refine z_callSi ok [.int (za m b31 x1.toNatClampNeg)] (m_X11_isOfPath _ ok.p) cv_X11_77 rfl (by decide) rfl (Nat.le_of_ble_eq_true rfl) rfl dX11_isPath_36 (fun r36 m36 => (show zG P G _ _ 39 _ _ from ?_))
      refine z_if_ne ok 44 dX11_isPath_39 (by decide) ?_ (show zG P G _ _ 42 _ _ from ?_)
      · refine z_iinc ok (fun v44 => [(1, .int v44), (0, .ref a0)]) 1 dX11_isPath_44 rfl (by decide) (by decide) (fun _ => rfl) (fun v44 => (show zG P G _ _ 47 _ _ from ?_))
        refine z_goto ok 22 dX11_isPath_47 (by decide) ?_
        exact z_sub [1, 0] [(0, .ref a0), (1, .int v44)] rfl (hr_22 _ _ _ h_a0)
      · refine z_iconst ok (0 : Int32) dX11_isPath_42 (by decide) (show zG P G _ _ 43 _ _ from ?_)
        exact z_zret ok dX11_isPath_43
set_option maxRecDepth 100000 in
set_option maxHeartbeats 4000000 in
theorem m_X11_isPath (l : Launch) {P : zSt} (hP : zOKP P) {a0 : Nat} (h_a0 : zT P 10 a0) : zMet l P yX11_isPath cX11_isPath 2 2 42 (some .boolean) [.ref a0] (fun m => f_X11_isPath P a0 m) := by
  refine zMet.of hP (by decide +kernel) RX11 rfl [(0, .ref a0)] (fun h => h) (Nat.le_of_ble_eq_true rfl) (fun G m ok => ?_)
  show zG P G (f_X11_isPath P a0 m) m 0 _ []
  unfold f_X11_isPath
  refine z_aload_n ok 0 dX11_isPath_0 rfl (show zG P G _ _ 1 _ _ from ?_)
  refine z_get ok fd_207 h_a0 (Or.inl rfl) tf_X11_74 dX11_isPath_1 (show zG P G _ _ 4 _ _ from ?_)
  refine z_if_eq ok 18 dX11_isPath_4 (by decide) ?_ (show zG P G _ _ 7 _ _ from ?_)
  · exact z_sub [] [] rfl (t_X11_isPath_b18 ok)
  · refine z_aload_n ok 0 dX11_isPath_7 rfl (show zG P G _ _ 8 _ _ from ?_)
    refine z_getR ok fd_206 h_a0 (Or.inl rfl) tf_X11_22 dX11_isPath_8 (fun b8 h_b8 => (show zG P G _ _ 11 _ _ from ?_))
    refine z_iconst ok (0 : Int32) dX11_isPath_11 (by decide) (show zG P G _ _ 12 _ _ from ?_)
    refine z_iald ok h_b8 dX11_isPath_12 (show zG P G _ _ 13 _ _ from ?_)
    refine z_bipush ok (47 : Int32) dX11_isPath_13 (by decide) (show zG P G _ _ 15 _ _ from ?_)
    refine z_icmp_eq ok 20 dX11_isPath_15 (by decide) ?_ (show zG P G _ _ 18 _ _ from ?_)
    · refine z_iconst ok (0 : Int32) dX11_isPath_20 (by decide) (show zG P G _ _ 21 _ _ from ?_)
      refine z_istore_n0 ok [(1, .int (0 : Int32)), (0, .ref a0)] dX11_isPath_21 (by decide) rfl (show zG P G _ _ 22 _ _ from ?_)
      exact z_sub [1, 0] [(0, .ref a0), (1, .int (0 : Int32))] rfl (t_X11_isPath_b22 ok zfuel _ _ _ h_a0)
    · exact z_sub [] [] rfl (t_X11_isPath_b18 ok)
set_option maxRecDepth 100000 in
set_option maxHeartbeats 4000000 in
theorem m_X11_here (l : Launch) {P : zSt} (hP : zOKP P) {a0 : Nat} (h_a0 : zT P 10 a0) : zMet l P yX11_here cX11_here 1 0 0 (some .int) [.ref a0] (fun m => f_X11_here P a0 m) := by
  refine zMet.of hP (by decide +kernel) RX11 rfl [(0, .ref a0)] (fun h => h) (Nat.le_of_ble_eq_true rfl) (fun G m ok => ?_)
  show zG P G (f_X11_here P a0 m) m 0 _ []
  unfold f_X11_here
  refine z_aload_n ok 0 dX11_here_0 rfl (show zG P G _ _ 1 _ _ from ?_)
  refine z_get ok fd_213 h_a0 (Or.inl rfl) tf_X11_80 dX11_here_1 (show zG P G _ _ 4 _ _ from ?_)
  refine z_aload_n ok 0 dX11_here_4 rfl (show zG P G _ _ 5 _ _ from ?_)
  refine z_get ok fd_207 h_a0 (Or.inl rfl) tf_X11_74 dX11_here_5 (show zG P G _ _ 8 _ _ from ?_)
  refine z_icmp_ge ok 23 dX11_here_8 (by decide) ?_ (show zG P G _ _ 11 _ _ from ?_)
  · refine z_iconst ok (-1 : Int32) dX11_here_23 (by decide) (show zG P G _ _ 24 _ _ from ?_)
    exact z_iret ok dX11_here_24
  · refine z_aload_n ok 0 dX11_here_11 rfl (show zG P G _ _ 12 _ _ from ?_)
    refine z_getR ok fd_206 h_a0 (Or.inl rfl) tf_X11_22 dX11_here_12 (fun b12 h_b12 => (show zG P G _ _ 15 _ _ from ?_))
    refine z_aload_n ok 0 dX11_here_15 rfl (show zG P G _ _ 16 _ _ from ?_)
    refine z_get ok fd_213 h_a0 (Or.inl rfl) tf_X11_80 dX11_here_16 (show zG P G _ _ 19 _ _ from ?_)
    refine z_iald ok h_b12 dX11_here_19 (show zG P G _ _ 20 _ _ from ?_)
    refine z_goto ok 24 dX11_here_20 (by decide) ?_
    exact z_iret ok dX11_here_24
set_option maxRecDepth 100000 in
set_option maxHeartbeats 4000000 in
theorem t_X11_sign_b39 {P : zSt} {G : zC} (ok : zOK P G RX11 cX11_sign 2 1 20 none)  {s0 : Int32} {s1 : Int32} {t2 : Nat} {m : zM} (h_t2 : zT P 10 t2) : zG P G (f_X11_sign_b39 P s0 s1 t2 m) m 39 [] [.int s0, .int s1, .ref t2] := by
  unfold f_X11_sign_b39
  refine z_iadd ok dX11_sign_39 (show zG P G _ _ 40 _ _ from ?_)
  refine z_put ok fd_213 h_t2 (Or.inl rfl) tf_X11_80 dX11_sign_40 (fun m40 => (show zG P G _ _ 43 _ _ from ?_))
  exact z_vret ok dX11_sign_43
set_option maxRecDepth 100000 in
set_option maxHeartbeats 4000000 in
theorem t_X11_sign_b18 {P : zSt} {G : zC} (ok : zOK P G RX11 cX11_sign 2 1 20 none)  {a0 : Nat} {s0 : Int32} {s1 : Int32} {t2 : Nat} {m : zM} (h_a0 : zT P 10 a0) (h_t2 : zT P 10 t2) : zG P G (f_X11_sign_b18 P a0 s0 s1 t2 m) m 18 [(0, .ref a0)] [.int s0, .int s1, .ref t2] := by
  unfold f_X11_sign_b18
  refine z_ior ok dX11_sign_18 (show zG P G _ _ 19 _ _ from ?_)
  refine z_putZ ok fd_214 h_t2 (Or.inl rfl) tf_X11_83 dX11_sign_19 (fun m19 => (show zG P G _ _ 22 _ _ from ?_))
  refine z_aload_n ok 0 dX11_sign_22 rfl (show zG P G _ _ 23 _ _ from ?_)
  refine z_dup ok dX11_sign_23 rfl (show zG P G _ _ 24 _ _ from ?_)
  refine z_get ok fd_213 h_a0 (Or.inl rfl) tf_X11_80 dX11_sign_24 (show zG P G _ _ 27 _ _ from ?_)
  refine z_aload_n ok 0 dX11_sign_27 rfl (show zG P G _ _ 28 _ _ from ?_)
  refine z_get ok fd_214 h_a0 (Or.inl rfl) tf_X11_83 dX11_sign_28 (show zG P G _ _ 31 _ _ from ?_)
  refine z_if_eq ok 38 dX11_sign_31 (by decide) ?_ (show zG P G _ _ 34 _ _ from ?_)
  · refine z_iconst ok (1 : Int32) dX11_sign_38 (by decide) (show zG P G _ _ 39 _ _ from ?_)
    exact z_sub [] [] rfl (t_X11_sign_b39 ok h_a0)
  · refine z_iconst ok (0 : Int32) dX11_sign_34 (by decide) (show zG P G _ _ 35 _ _ from ?_)
    refine z_goto ok 39 dX11_sign_35 (by decide) ?_
    exact z_sub [] [] rfl (t_X11_sign_b39 ok h_a0)
set_option maxRecDepth 100000 in
set_option maxHeartbeats 4000000 in
theorem m_X11_sign (l : Launch) {P : zSt} (hP : zOKP P) {a0 : Nat} {i1 : Int32} (h_a0 : zT P 10 a0) : zMet l P yX11_sign cX11_sign 2 1 20 none [.ref a0, .int i1] (fun m => f_X11_sign P a0 i1 m) := by
  refine zMet.of hP (by decide +kernel) RX11 rfl [(0, .ref a0), (1, .int i1)] (fun h => h) (Nat.le_of_ble_eq_true rfl) (fun G m ok => ?_)
  show zG P G (f_X11_sign P a0 i1 m) m 0 _ []
  unfold f_X11_sign
  refine z_aload_n ok 0 dX11_sign_0 rfl (show zG P G _ _ 1 _ _ from ?_)
  refine z_dup ok dX11_sign_1 rfl (show zG P G _ _ 2 _ _ from ?_)
  refine z_get ok fd_214 h_a0 (Or.inl rfl) tf_X11_83 dX11_sign_2 (show zG P G _ _ 5 _ _ from ?_)
  refine z_aload_n ok 0 dX11_sign_5 rfl (show zG P G _ _ 6 _ _ from ?_)
  refine z_callVi ok [] (m_X11_here _ ok.p h_a0) cv_X11_86 h_a0 rfl (by decide) rfl (Nat.le_of_ble_eq_true rfl) rfl dX11_sign_6 (fun r6 m6 => (show zG P G _ _ 9 _ _ from ?_))
  refine z_iload_n ok 1 dX11_sign_9 rfl (show zG P G _ _ 10 _ _ from ?_)
  refine z_icmp_eq ok 17 dX11_sign_10 (by decide) ?_ (show zG P G _ _ 13 _ _ from ?_)
  · refine z_iconst ok (0 : Int32) dX11_sign_17 (by decide) (show zG P G _ _ 18 _ _ from ?_)
    exact z_sub [0] [(0, .ref a0)] rfl (t_X11_sign_b18 ok h_a0 h_a0)
  · refine z_iconst ok (1 : Int32) dX11_sign_13 (by decide) (show zG P G _ _ 14 _ _ from ?_)
    refine z_goto ok 18 dX11_sign_14 (by decide) ?_
    exact z_sub [0] [(0, .ref a0)] rfl (t_X11_sign_b18 ok h_a0 h_a0)
set_option maxRecDepth 100000 in
set_option maxHeartbeats 4000000 in
theorem t_X11_digit_b48 {P : zSt} {G : zC} (ok : zOK P G RX11 cX11_digit 4 1 22 (some .int))  {a0 : Nat} {x3 : Int32} {s0 : Int32} {s1 : Int32} {t2 : Nat} {m : zM} (h_a0 : zT P 10 a0) (h_t2 : zT P 10 t2) : zG P G (f_X11_digit_b48 P a0 x3 s0 s1 t2 m) m 48 [(0, .ref a0), (3, .int x3)] [.int s0, .int s1, .ref t2] := by
  unfold f_X11_digit_b48
  refine z_iadd ok dX11_digit_48 (show zG P G _ _ 49 _ _ from ?_)
  refine z_put ok fd_213 h_t2 (Or.inl rfl) tf_X11_80 dX11_digit_49 (fun m49 => (show zG P G _ _ 52 _ _ from ?_))
  refine z_aload_n ok 0 dX11_digit_52 rfl (show zG P G _ _ 53 _ _ from ?_)
  refine z_get ok fd_214 h_a0 (Or.inl rfl) tf_X11_83 dX11_digit_53 (show zG P G _ _ 56 _ _ from ?_)
  refine z_if_eq ok 63 dX11_digit_56 (by decide) ?_ (show zG P G _ _ 59 _ _ from ?_)
  · refine z_iload_n ok 1 dX11_digit_63 rfl (show zG P G _ _ 64 _ _ from ?_)
    exact z_iret ok dX11_digit_64
  · refine z_iconst ok (0 : Int32) dX11_digit_59 (by decide) (show zG P G _ _ 60 _ _ from ?_)
    refine z_goto ok 64 dX11_digit_60 (by decide) ?_
    exact z_iret ok dX11_digit_64
set_option maxRecDepth 100000 in
set_option maxHeartbeats 4000000 in
theorem t_X11_digit_b27 {P : zSt} {G : zC} (ok : zOK P G RX11 cX11_digit 4 1 22 (some .int))  {a0 : Nat} {x3 : Int32} {s0 : Int32} {s1 : Int32} {t2 : Nat} {m : zM} (h_a0 : zT P 10 a0) (h_t2 : zT P 10 t2) : zG P G (f_X11_digit_b27 P a0 x3 s0 s1 t2 m) m 27 [(0, .ref a0), (3, .int x3)] [.int s0, .int s1, .ref t2] := by
  unfold f_X11_digit_b27
  refine z_ior ok dX11_digit_27 (show zG P G _ _ 28 _ _ from ?_)
  refine z_putZ ok fd_214 h_t2 (Or.inl rfl) tf_X11_83 dX11_digit_28 (fun m28 => (show zG P G _ _ 31 _ _ from ?_))
  refine z_aload_n ok 0 dX11_digit_31 rfl (show zG P G _ _ 32 _ _ from ?_)
  refine z_dup ok dX11_digit_32 rfl (show zG P G _ _ 33 _ _ from ?_)
  refine z_get ok fd_213 h_a0 (Or.inl rfl) tf_X11_80 dX11_digit_33 (show zG P G _ _ 36 _ _ from ?_)
  refine z_aload_n ok 0 dX11_digit_36 rfl (show zG P G _ _ 37 _ _ from ?_)
  refine z_get ok fd_214 h_a0 (Or.inl rfl) tf_X11_83 dX11_digit_37 (show zG P G _ _ 40 _ _ from ?_)
  refine z_if_eq ok 47 dX11_digit_40 (by decide) ?_ (show zG P G _ _ 43 _ _ from ?_)
  · refine z_iconst ok (1 : Int32) dX11_digit_47 (by decide) (show zG P G _ _ 48 _ _ from ?_)
    exact z_sub [0, 1] [(0, .ref a0), (3, .int x3)] rfl (t_X11_digit_b48 ok h_a0 h_a0)
  · refine z_iconst ok (0 : Int32) dX11_digit_43 (by decide) (show zG P G _ _ 44 _ _ from ?_)
    refine z_goto ok 48 dX11_digit_44 (by decide) ?_
    exact z_sub [0, 1] [(0, .ref a0), (3, .int x3)] rfl (t_X11_digit_b48 ok h_a0 h_a0)
set_option maxRecDepth 100000 in
set_option maxHeartbeats 4000000 in
theorem m_X11_digit (l : Launch) {P : zSt} (hP : zOKP P) {a0 : Nat} {i1 : Int32} {i2 : Int32} (h_a0 : zT P 10 a0) : zMet l P yX11_digit cX11_digit 4 1 22 (some .int) [.ref a0, .int i1, .int i2] (fun m => f_X11_digit P a0 i1 i2 m) := by
  refine zMet.of hP (by decide +kernel) RX11 rfl [(0, .ref a0), (1, .int i1), (2, .int i2)] (fun h => h) (Nat.le_of_ble_eq_true rfl) (fun G m ok => ?_)
  show zG P G (f_X11_digit P a0 i1 i2 m) m 0 _ []
  unfold f_X11_digit
  refine z_aload_n ok 0 dX11_digit_0 rfl (show zG P G _ _ 1 _ _ from ?_)
  refine z_callVi ok [] (m_X11_here _ ok.p h_a0) cv_X11_86 h_a0 rfl (by decide) rfl (Nat.le_of_ble_eq_true rfl) rfl dX11_digit_1 (fun r1 m1 => (show zG P G _ _ 4 _ _ from ?_))
  refine z_bipush ok (48 : Int32) dX11_digit_4 (by decide) (show zG P G _ _ 6 _ _ from ?_)
  refine z_isub ok dX11_digit_6 (show zG P G _ _ 7 _ _ from ?_)
  refine z_istore_n ok (fun v7 => [(3, .int v7), (0, .ref a0), (1, .int i1), (2, .int i2)]) dX11_digit_7 (by decide) (fun _ => rfl) (fun v7 => (show zG P G _ _ 8 _ _ from ?_))
  refine z_aload_n ok 1 dX11_digit_8 rfl (show zG P G _ _ 9 _ _ from ?_)
  refine z_dup ok dX11_digit_9 rfl (show zG P G _ _ 10 _ _ from ?_)
  refine z_get ok fd_214 h_a0 (Or.inl rfl) tf_X11_83 dX11_digit_10 (show zG P G _ _ 13 _ _ from ?_)
  refine z_iload_n ok 0 dX11_digit_13 rfl (show zG P G _ _ 14 _ _ from ?_)
  refine z_iload_n ok 2 dX11_digit_14 rfl (show zG P G _ _ 15 _ _ from ?_)
  refine z_iload_n ok 3 dX11_digit_15 rfl (show zG P G _ _ 16 _ _ from ?_)
  refine z_callSi ok [.int v7, .int i1, .int i2] (m_X11_isIn _ ok.p) cv_X11_44 rfl (by decide) rfl (Nat.le_of_ble_eq_true rfl) rfl dX11_digit_16 (fun r16 m16 => (show zG P G _ _ 19 _ _ from ?_))
  refine z_if_ne ok 26 dX11_digit_19 (by decide) ?_ (show zG P G _ _ 22 _ _ from ?_)
  · refine z_iconst ok (0 : Int32) dX11_digit_26 (by decide) (show zG P G _ _ 27 _ _ from ?_)
    exact z_sub [1, 0] [(0, .ref a0), (3, .int v7)] rfl (t_X11_digit_b27 ok h_a0 h_a0)
  · refine z_iconst ok (1 : Int32) dX11_digit_22 (by decide) (show zG P G _ _ 23 _ _ from ?_)
    refine z_goto ok 27 dX11_digit_23 (by decide) ?_
    exact z_sub [1, 0] [(0, .ref a0), (3, .int v7)] rfl (t_X11_digit_b27 ok h_a0 h_a0)
set_option maxRecDepth 100000 in
set_option maxHeartbeats 4000000 in
theorem t_X11_target_b71 {P : zSt} {G : zC} (ok : zOK P G RX11 cX11_target 4 2 45 none) (rec_41 : Nat → Int32 → Int32 → Int32 → zM → Option (Int32 × zM)) (hr_41 : ∀ (a0 : Nat) (x1 : Int32) (x2 : Int32) (x3 : Int32) (m : zM), zT P 10 a0 → zG P G (rec_41 a0 x1 x2 x3 m) m 41 [(0, .ref a0), (1, .int x1), (2, .int x2), (3, .int x3)] []) {a0 : Nat} {x1 : Int32} {x2 : Int32} {x3 : Int32} {s0 : Int32} {s1 : Int32} {t2 : Nat} {m : zM} (h_a0 : zT P 10 a0) (h_t2 : zT P 10 t2) : zG P G (f_X11_target_b71 P rec_41 a0 x1 x2 x3 s0 s1 t2 m) m 71 [(0, .ref a0), (1, .int x1), (2, .int x2), (3, .int x3)] [.int s0, .int s1, .ref t2] := by
  unfold f_X11_target_b71
  refine z_ior ok dX11_target_71 (show zG P G _ _ 72 _ _ from ?_)
  refine z_putZ ok fd_214 h_t2 (Or.inl rfl) tf_X11_83 dX11_target_72 (fun m72 => (show zG P G _ _ 75 _ _ from ?_))
  refine z_iinc ok (fun v75 => [(3, .int v75), (0, .ref a0), (1, .int x1), (2, .int x2)]) 3 dX11_target_75 rfl (by decide) (by decide) (fun _ => rfl) (fun v75 => (show zG P G _ _ 78 _ _ from ?_))
  refine z_goto ok 41 dX11_target_78 (by decide) ?_
  exact z_sub [1, 2, 3, 0] [(0, .ref a0), (1, .int x1), (2, .int x2), (3, .int v75)] rfl (hr_41 _ _ _ _ _ h_a0)
set_option maxRecDepth 100000 in
set_option maxHeartbeats 4000000 in
theorem t_X11_target_b164 {P : zSt} {G : zC} (ok : zOK P G RX11 cX11_target 4 2 45 none)  {a0 : Nat} {m : zM} (h_a0 : zT P 10 a0) : zG P G (f_X11_target_b164 P a0 m) m 164 [(0, .ref a0)] [] := by
  unfold f_X11_target_b164
  refine z_aload_n ok 0 dX11_target_164 rfl (show zG P G _ _ 165 _ _ from ?_)
  refine z_getR ok fd_215 h_a0 (Or.inl rfl) tf_X11_34 dX11_target_165 (fun b165 h_b165 => (show zG P G _ _ 168 _ _ from ?_))
  refine z_bipush ok (43 : Int32) dX11_target_168 (by decide) (show zG P G _ _ 170 _ _ from ?_)
  refine z_dup2 ok dX11_target_170 rfl rfl (show zG P G _ _ 171 _ _ from ?_)
  refine z_iald ok h_b165 dX11_target_171 (show zG P G _ _ 172 _ _ from ?_)
  refine z_iconst ok (1 : Int32) dX11_target_172 (by decide) (show zG P G _ _ 173 _ _ from ?_)
  refine z_iadd ok dX11_target_173 (show zG P G _ _ 174 _ _ from ?_)
  refine z_iast ok h_b165 dX11_target_174 (fun m174 => (show zG P G _ _ 175 _ _ from ?_))
  exact z_vret ok dX11_target_175
set_option maxRecDepth 100000 in
set_option maxHeartbeats 4000000 in
theorem t_X11_target_b41 {P : zSt} {G : zC} (ok : zOK P G RX11 cX11_target 4 2 45 none)  : ∀ (n : Nat) (a0 : Nat) (x1 : Int32) (x2 : Int32) (x3 : Int32) (m : zM) (h_a0 : zT P 10 a0), zG P G (f_X11_target_b41 P n a0 x1 x2 x3 m) m 41 [(0, .ref a0), (1, .int x1), (2, .int x2), (3, .int x3)] [] := by
  intro n
  induction n with
  | zero =>
    intros
    exact zG_none
  | succ n ih =>
    intro a0 x1 x2 x3 m h_a0
    unfold f_X11_target_b41
    have hr_41 := ih
    refine z_iload_n ok 3 dX11_target_41 rfl (show zG P G _ _ 42 _ _ from ?_)
    refine z_iload_n ok 1 dX11_target_42 rfl (show zG P G _ _ 43 _ _ from ?_)
    refine z_icmp_ge ok 81 dX11_target_43 (by decide) ?_ (show zG P G _ _ 46 _ _ from ?_)
    · refine z_aload_n ok 0 dX11_target_81 rfl (show zG P G _ _ 82 _ _ from ?_)
      refine z_get ok fd_214 h_a0 (Or.inl rfl) tf_X11_83 dX11_target_82 (show zG P G _ _ 85 _ _ from ?_)
      refine z_if_eq ok 89 dX11_target_85 (by decide) ?_ (show zG P G _ _ 88 _ _ from ?_)
      · refine z_aload_n ok 0 dX11_target_89 rfl (show zG P G _ _ 90 _ _ from ?_)
        refine z_dup ok dX11_target_90 rfl (show zG P G _ _ 91 _ _ from ?_)
        refine z_get ok fd_213 h_a0 (Or.inl rfl) tf_X11_80 dX11_target_91 (show zG P G _ _ 94 _ _ from ?_)
        refine z_iconst ok (1 : Int32) dX11_target_94 (by decide) (show zG P G _ _ 95 _ _ from ?_)
        refine z_iadd ok dX11_target_95 (show zG P G _ _ 96 _ _ from ?_)
        refine z_put ok fd_213 h_a0 (Or.inl rfl) tf_X11_80 dX11_target_96 (fun m96 => (show zG P G _ _ 99 _ _ from ?_))
        refine z_aload_n ok 0 dX11_target_99 rfl (show zG P G _ _ 100 _ _ from ?_)
        refine z_getR ok fd_215 h_a0 (Or.inl rfl) tf_X11_34 dX11_target_100 (fun b100 h_b100 => (show zG P G _ _ 103 _ _ from ?_))
        refine z_bipush ok (44 : Int32) dX11_target_103 (by decide) (show zG P G _ _ 105 _ _ from ?_)
        refine z_iconst ok (4 : Int32) dX11_target_105 (by decide) (show zG P G _ _ 106 _ _ from ?_)
        refine z_iload_n ok 1 dX11_target_106 rfl (show zG P G _ _ 107 _ _ from ?_)
        refine z_imul ok dX11_target_107 (show zG P G _ _ 108 _ _ from ?_)
        refine z_iadd ok dX11_target_108 (show zG P G _ _ 109 _ _ from ?_)
        refine z_iload_n ok 2 dX11_target_109 rfl (show zG P G _ _ 110 _ _ from ?_)
        refine z_iast ok h_b100 dX11_target_110 (fun m110 => (show zG P G _ _ 111 _ _ from ?_))
        refine z_aload_n ok 0 dX11_target_111 rfl (show zG P G _ _ 112 _ _ from ?_)
        refine z_getR ok fd_215 h_a0 (Or.inl rfl) tf_X11_34 dX11_target_112 (fun b112 h_b112 => (show zG P G _ _ 115 _ _ from ?_))
        refine z_bipush ok (44 : Int32) dX11_target_115 (by decide) (show zG P G _ _ 117 _ _ from ?_)
        refine z_iconst ok (4 : Int32) dX11_target_117 (by decide) (show zG P G _ _ 118 _ _ from ?_)
        refine z_iload_n ok 1 dX11_target_118 rfl (show zG P G _ _ 119 _ _ from ?_)
        refine z_imul ok dX11_target_119 (show zG P G _ _ 120 _ _ from ?_)
        refine z_iadd ok dX11_target_120 (show zG P G _ _ 121 _ _ from ?_)
        refine z_iconst ok (1 : Int32) dX11_target_121 (by decide) (show zG P G _ _ 122 _ _ from ?_)
        refine z_iadd ok dX11_target_122 (show zG P G _ _ 123 _ _ from ?_)
        refine z_iconst ok (1 : Int32) dX11_target_123 (by decide) (show zG P G _ _ 124 _ _ from ?_)
        refine z_iast ok h_b112 dX11_target_124 (fun m124 => (show zG P G _ _ 125 _ _ from ?_))
        refine z_aload_n ok 0 dX11_target_125 rfl (show zG P G _ _ 126 _ _ from ?_)
        refine z_callVi ok [] (m_X11_here _ ok.p h_a0) cv_X11_86 h_a0 rfl (by decide) rfl (Nat.le_of_ble_eq_true rfl) rfl dX11_target_126 (fun r126 m126 => (show zG P G _ _ 129 _ _ from ?_))
        refine z_bipush ok (58 : Int32) dX11_target_129 (by decide) (show zG P G _ _ 131 _ _ from ?_)
        refine z_icmp_ne ok 164 dX11_target_131 (by decide) ?_ (show zG P G _ _ 134 _ _ from ?_)
        · exact z_sub [0] [(0, .ref a0)] rfl (t_X11_target_b164 ok h_a0)
        · refine z_aload_n ok 0 dX11_target_134 rfl (show zG P G _ _ 135 _ _ from ?_)
          refine z_dup ok dX11_target_135 rfl (show zG P G _ _ 136 _ _ from ?_)
          refine z_get ok fd_213 h_a0 (Or.inl rfl) tf_X11_80 dX11_target_136 (show zG P G _ _ 139 _ _ from ?_)
          refine z_iconst ok (1 : Int32) dX11_target_139 (by decide) (show zG P G _ _ 140 _ _ from ?_)
          refine z_iadd ok dX11_target_140 (show zG P G _ _ 141 _ _ from ?_)
          refine z_put ok fd_213 h_a0 (Or.inl rfl) tf_X11_80 dX11_target_141 (fun m141 => (show zG P G _ _ 144 _ _ from ?_))
          refine z_aload_n ok 0 dX11_target_144 rfl (show zG P G _ _ 145 _ _ from ?_)
          refine z_getR ok fd_215 h_a0 (Or.inl rfl) tf_X11_34 dX11_target_145 (fun b145 h_b145 => (show zG P G _ _ 148 _ _ from ?_))
          refine z_bipush ok (44 : Int32) dX11_target_148 (by decide) (show zG P G _ _ 150 _ _ from ?_)
          refine z_iconst ok (4 : Int32) dX11_target_150 (by decide) (show zG P G _ _ 151 _ _ from ?_)
          refine z_iload_n ok 1 dX11_target_151 rfl (show zG P G _ _ 152 _ _ from ?_)
          refine z_imul ok dX11_target_152 (show zG P G _ _ 153 _ _ from ?_)
          refine z_iadd ok dX11_target_153 (show zG P G _ _ 154 _ _ from ?_)
          refine z_iconst ok (1 : Int32) dX11_target_154 (by decide) (show zG P G _ _ 155 _ _ from ?_)
          refine z_iadd ok dX11_target_155 (show zG P G _ _ 156 _ _ from ?_)
          refine z_aload_n ok 0 dX11_target_156 rfl (show zG P G _ _ 157 _ _ from ?_)
          refine z_iconst ok (1 : Int32) dX11_target_157 (by decide) (show zG P G _ _ 158 _ _ from ?_)
          refine z_bipush ok (9 : Int32) dX11_target_158 (by decide) (show zG P G _ _ 160 _ _ from ?_)
          refine z_callVi ok [.int (1 : Int32), .int (9 : Int32)] (m_X11_digit _ ok.p h_a0) cv_X11_90 h_a0 rfl (by decide) rfl (Nat.le_of_ble_eq_true rfl) rfl dX11_target_160 (fun r160 m160 => (show zG P G _ _ 163 _ _ from ?_))
          refine z_iast ok h_b145 dX11_target_163 (fun m163 => (show zG P G _ _ 164 _ _ from ?_))
          exact z_sub [0] [(0, .ref a0)] rfl (t_X11_target_b164 ok h_a0)
      · exact z_vret ok dX11_target_88
    · refine z_aload_n ok 0 dX11_target_46 rfl (show zG P G _ _ 47 _ _ from ?_)
      refine z_dup ok dX11_target_47 rfl (show zG P G _ _ 48 _ _ from ?_)
      refine z_get ok fd_214 h_a0 (Or.inl rfl) tf_X11_83 dX11_target_48 (show zG P G _ _ 51 _ _ from ?_)
      refine z_aload_n ok 0 dX11_target_51 rfl (show zG P G _ _ 52 _ _ from ?_)
      refine z_getR ok fd_215 h_a0 (Or.inl rfl) tf_X11_34 dX11_target_52 (fun b52 h_b52 => (show zG P G _ _ 55 _ _ from ?_))
      refine z_bipush ok (44 : Int32) dX11_target_55 (by decide) (show zG P G _ _ 57 _ _ from ?_)
      refine z_iconst ok (4 : Int32) dX11_target_57 (by decide) (show zG P G _ _ 58 _ _ from ?_)
      refine z_iload_n ok 3 dX11_target_58 rfl (show zG P G _ _ 59 _ _ from ?_)
      refine z_imul ok dX11_target_59 (show zG P G _ _ 60 _ _ from ?_)
      refine z_iadd ok dX11_target_60 (show zG P G _ _ 61 _ _ from ?_)
      refine z_iald ok h_b52 dX11_target_61 (show zG P G _ _ 62 _ _ from ?_)
      refine z_iload_n ok 2 dX11_target_62 rfl (show zG P G _ _ 63 _ _ from ?_)
      refine z_icmp_ne ok 70 dX11_target_63 (by decide) ?_ (show zG P G _ _ 66 _ _ from ?_)
      · refine z_iconst ok (0 : Int32) dX11_target_70 (by decide) (show zG P G _ _ 71 _ _ from ?_)
        exact z_sub [0, 1, 2, 3] [(0, .ref a0), (1, .int x1), (2, .int x2), (3, .int x3)] rfl (t_X11_target_b71 ok (f_X11_target_b41 P n) hr_41 h_a0 h_a0)
      · refine z_iconst ok (1 : Int32) dX11_target_66 (by decide) (show zG P G _ _ 67 _ _ from ?_)
        refine z_goto ok 71 dX11_target_67 (by decide) ?_
        exact z_sub [0, 1, 2, 3] [(0, .ref a0), (1, .int x1), (2, .int x2), (3, .int x3)] rfl (t_X11_target_b71 ok (f_X11_target_b41 P n) hr_41 h_a0 h_a0)
set_option maxRecDepth 100000 in
set_option maxHeartbeats 4000000 in
theorem t_X11_target_b35 {P : zSt} {G : zC} (ok : zOK P G RX11 cX11_target 4 2 45 none)  {a0 : Nat} {x1 : Int32} {x2 : Int32} {s0 : Int32} {s1 : Int32} {t2 : Nat} {m : zM} (h_a0 : zT P 10 a0) (h_t2 : zT P 10 t2) : zG P G (f_X11_target_b35 P a0 x1 x2 s0 s1 t2 m) m 35 [(0, .ref a0), (1, .int x1), (2, .int x2)] [.int s0, .int s1, .ref t2] := by
  unfold f_X11_target_b35
  refine z_ior ok dX11_target_35 (show zG P G _ _ 36 _ _ from ?_)
  refine z_putZ ok fd_214 h_t2 (Or.inl rfl) tf_X11_83 dX11_target_36 (fun m36 => (show zG P G _ _ 39 _ _ from ?_))
  refine z_iconst ok (0 : Int32) dX11_target_39 (by decide) (show zG P G _ _ 40 _ _ from ?_)
  refine z_istore_n0 ok [(3, .int (0 : Int32)), (0, .ref a0), (1, .int x1), (2, .int x2)] dX11_target_40 (by decide) rfl (show zG P G _ _ 41 _ _ from ?_)
  exact z_sub [1, 2, 3, 0] [(0, .ref a0), (1, .int x1), (2, .int x2), (3, .int (0 : Int32))] rfl (t_X11_target_b41 ok zfuel _ _ _ _ _ h_a0)
set_option maxRecDepth 100000 in
set_option maxHeartbeats 4000000 in
theorem m_X11_target (l : Launch) {P : zSt} (hP : zOKP P) {a0 : Nat} (h_a0 : zT P 10 a0) : zMet l P yX11_target cX11_target 4 2 45 none [.ref a0] (fun m => f_X11_target P a0 m) := by
  refine zMet.of hP (by decide +kernel) RX11 rfl [(0, .ref a0)] (fun h => h) (Nat.le_of_ble_eq_true rfl) (fun G m ok => ?_)
  show zG P G (f_X11_target P a0 m) m 0 _ []
  unfold f_X11_target
  refine z_aload_n ok 0 dX11_target_0 rfl (show zG P G _ _ 1 _ _ from ?_)
  refine z_getR ok fd_215 h_a0 (Or.inl rfl) tf_X11_34 dX11_target_1 (fun b1 h_b1 => (show zG P G _ _ 4 _ _ from ?_))
  refine z_bipush ok (43 : Int32) dX11_target_4 (by decide) (show zG P G _ _ 6 _ _ from ?_)
  refine z_iald ok h_b1 dX11_target_6 (show zG P G _ _ 7 _ _ from ?_)
  refine z_istore_n ok (fun v7 => [(1, .int v7), (0, .ref a0)]) dX11_target_7 (by decide) (fun _ => rfl) (fun v7 => (show zG P G _ _ 8 _ _ from ?_))
  refine z_aload_n ok 1 dX11_target_8 rfl (show zG P G _ _ 9 _ _ from ?_)
  refine z_callVi ok [] (m_X11_here _ ok.p h_a0) cv_X11_86 h_a0 rfl (by decide) rfl (Nat.le_of_ble_eq_true rfl) rfl dX11_target_9 (fun r9 m9 => (show zG P G _ _ 12 _ _ from ?_))
  refine z_bipush ok (48 : Int32) dX11_target_12 (by decide) (show zG P G _ _ 14 _ _ from ?_)
  refine z_isub ok dX11_target_14 (show zG P G _ _ 15 _ _ from ?_)
  refine z_istore_n ok (fun v15 => [(2, .int v15), (1, .int v7), (0, .ref a0)]) dX11_target_15 (by decide) (fun _ => rfl) (fun v15 => (show zG P G _ _ 16 _ _ from ?_))
  refine z_aload_n ok 2 dX11_target_16 rfl (show zG P G _ _ 17 _ _ from ?_)
  refine z_dup ok dX11_target_17 rfl (show zG P G _ _ 18 _ _ from ?_)
  refine z_get ok fd_214 h_a0 (Or.inl rfl) tf_X11_83 dX11_target_18 (show zG P G _ _ 21 _ _ from ?_)
  refine z_iload_n ok 0 dX11_target_21 rfl (show zG P G _ _ 22 _ _ from ?_)
  refine z_iconst ok (0 : Int32) dX11_target_22 (by decide) (show zG P G _ _ 23 _ _ from ?_)
  refine z_iconst ok (3 : Int32) dX11_target_23 (by decide) (show zG P G _ _ 24 _ _ from ?_)
  refine z_callSi ok [.int v15, .int (0 : Int32), .int (3 : Int32)] (m_X11_isIn _ ok.p) cv_X11_44 rfl (by decide) rfl (Nat.le_of_ble_eq_true rfl) rfl dX11_target_24 (fun r24 m24 => (show zG P G _ _ 27 _ _ from ?_))
  refine z_if_ne ok 34 dX11_target_27 (by decide) ?_ (show zG P G _ _ 30 _ _ from ?_)
  · refine z_iconst ok (0 : Int32) dX11_target_34 (by decide) (show zG P G _ _ 35 _ _ from ?_)
    exact z_sub [2, 1, 0] [(0, .ref a0), (1, .int v7), (2, .int v15)] rfl (t_X11_target_b35 ok h_a0 h_a0)
  · refine z_iconst ok (1 : Int32) dX11_target_30 (by decide) (show zG P G _ _ 31 _ _ from ?_)
    refine z_goto ok 35 dX11_target_31 (by decide) ?_
    exact z_sub [2, 1, 0] [(0, .ref a0), (1, .int v7), (2, .int v15)] rfl (t_X11_target_b35 ok h_a0 h_a0)
set_option maxRecDepth 100000 in
set_option maxHeartbeats 4000000 in
theorem t_X11_reads_b306 {P : zSt} {G : zC} (ok : zOK P G RX11 cX11_reads 2 3 68 none) (rec_251 : Nat → Int32 → zM → Option (Int32 × zM)) (hr_251 : ∀ (a0 : Nat) (x1 : Int32) (m : zM), zT P 10 a0 → zG P G (rec_251 a0 x1 m) m 251 [(0, .ref a0), (1, .int x1)] []) {a0 : Nat} {x1 : Int32} {s0 : Int32} {s1 : Int32} {t2 : Nat} {m : zM} (h_a0 : zT P 10 a0) (h_t2 : zT P 10 t2) : zG P G (f_X11_reads_b306 P rec_251 a0 x1 s0 s1 t2 m) m 306 [(0, .ref a0), (1, .int x1)] [.int s0, .int s1, .ref t2] := by
  unfold f_X11_reads_b306
  refine z_iadd ok dX11_reads_306 (show zG P G _ _ 307 _ _ from ?_)
  refine z_put ok fd_213 h_t2 (Or.inl rfl) tf_X11_80 dX11_reads_307 (fun m307 => (show zG P G _ _ 310 _ _ from ?_))
  refine z_goto ok 251 dX11_reads_310 (by decide) ?_
  exact z_sub [0, 1] [(0, .ref a0), (1, .int x1)] rfl (hr_251 _ _ _ h_a0)
set_option maxRecDepth 100000 in
set_option maxHeartbeats 4000000 in
theorem t_X11_reads_b291 {P : zSt} {G : zC} (ok : zOK P G RX11 cX11_reads 2 3 68 none) (rec_251 : Nat → Int32 → zM → Option (Int32 × zM)) (hr_251 : ∀ (a0 : Nat) (x1 : Int32) (m : zM), zT P 10 a0 → zG P G (rec_251 a0 x1 m) m 251 [(0, .ref a0), (1, .int x1)] []) {a0 : Nat} {s0 : Int32} {m : zM} (h_a0 : zT P 10 a0) : zG P G (f_X11_reads_b291 P rec_251 a0 s0 m) m 291 [(0, .ref a0)] [.int s0] := by
  unfold f_X11_reads_b291
  refine z_istore_n0 ok [(1, .int s0), (0, .ref a0)] dX11_reads_291 (by decide) rfl (show zG P G _ _ 292 _ _ from ?_)
  refine z_aload_n ok 1 dX11_reads_292 rfl (show zG P G _ _ 293 _ _ from ?_)
  refine z_dup ok dX11_reads_293 rfl (show zG P G _ _ 294 _ _ from ?_)
  refine z_get ok fd_213 h_a0 (Or.inl rfl) tf_X11_80 dX11_reads_294 (show zG P G _ _ 297 _ _ from ?_)
  refine z_iload_n ok 0 dX11_reads_297 rfl (show zG P G _ _ 298 _ _ from ?_)
  refine z_if_eq ok 305 dX11_reads_298 (by decide) ?_ (show zG P G _ _ 301 _ _ from ?_)
  · refine z_iconst ok (0 : Int32) dX11_reads_305 (by decide) (show zG P G _ _ 306 _ _ from ?_)
    exact z_sub [1, 0] [(0, .ref a0), (1, .int s0)] rfl (t_X11_reads_b306 ok rec_251 hr_251 h_a0 h_a0)
  · refine z_iconst ok (1 : Int32) dX11_reads_301 (by decide) (show zG P G _ _ 302 _ _ from ?_)
    refine z_goto ok 306 dX11_reads_302 (by decide) ?_
    exact z_sub [1, 0] [(0, .ref a0), (1, .int s0)] rfl (t_X11_reads_b306 ok rec_251 hr_251 h_a0 h_a0)
set_option maxRecDepth 100000 in
set_option maxHeartbeats 4000000 in
theorem t_X11_reads_b290 {P : zSt} {G : zC} (ok : zOK P G RX11 cX11_reads 2 3 68 none) (rec_251 : Nat → Int32 → zM → Option (Int32 × zM)) (hr_251 : ∀ (a0 : Nat) (x1 : Int32) (m : zM), zT P 10 a0 → zG P G (rec_251 a0 x1 m) m 251 [(0, .ref a0), (1, .int x1)] []) {a0 : Nat} {m : zM} (h_a0 : zT P 10 a0) : zG P G (f_X11_reads_b290 P rec_251 a0 m) m 290 [(0, .ref a0)] [] := by
  unfold f_X11_reads_b290
  refine z_iconst ok (0 : Int32) dX11_reads_290 (by decide) (show zG P G _ _ 291 _ _ from ?_)
  exact z_sub [0] [(0, .ref a0)] rfl (t_X11_reads_b291 ok rec_251 hr_251 h_a0)
set_option maxRecDepth 100000 in
set_option maxHeartbeats 4000000 in
theorem t_X11_reads_b412 {P : zSt} {G : zC} (ok : zOK P G RX11 cX11_reads 2 3 68 none)  {s0 : Int32} {s1 : Int32} {t2 : Nat} {m : zM} (h_t2 : zT P 10 t2) : zG P G (f_X11_reads_b412 P s0 s1 t2 m) m 412 [] [.int s0, .int s1, .ref t2] := by
  unfold f_X11_reads_b412
  refine z_ior ok dX11_reads_412 (show zG P G _ _ 413 _ _ from ?_)
  refine z_putZ ok fd_214 h_t2 (Or.inl rfl) tf_X11_83 dX11_reads_413 (fun m413 => (show zG P G _ _ 416 _ _ from ?_))
  exact z_vret ok dX11_reads_416
set_option maxRecDepth 100000 in
set_option maxHeartbeats 4000000 in
theorem t_X11_reads_b391 {P : zSt} {G : zC} (ok : zOK P G RX11 cX11_reads 2 3 68 none)  {a0 : Nat} {m : zM} (h_a0 : zT P 10 a0) : zG P G (f_X11_reads_b391 P a0 m) m 391 [(0, .ref a0)] [] := by
  unfold f_X11_reads_b391
  refine z_aload_n ok 0 dX11_reads_391 rfl (show zG P G _ _ 392 _ _ from ?_)
  refine z_dup ok dX11_reads_392 rfl (show zG P G _ _ 393 _ _ from ?_)
  refine z_get ok fd_214 h_a0 (Or.inl rfl) tf_X11_83 dX11_reads_393 (show zG P G _ _ 396 _ _ from ?_)
  refine z_aload_n ok 0 dX11_reads_396 rfl (show zG P G _ _ 397 _ _ from ?_)
  refine z_get ok fd_213 h_a0 (Or.inl rfl) tf_X11_80 dX11_reads_397 (show zG P G _ _ 400 _ _ from ?_)
  refine z_aload_n ok 0 dX11_reads_400 rfl (show zG P G _ _ 401 _ _ from ?_)
  refine z_get ok fd_207 h_a0 (Or.inl rfl) tf_X11_74 dX11_reads_401 (show zG P G _ _ 404 _ _ from ?_)
  refine z_icmp_ge ok 411 dX11_reads_404 (by decide) ?_ (show zG P G _ _ 407 _ _ from ?_)
  · refine z_iconst ok (0 : Int32) dX11_reads_411 (by decide) (show zG P G _ _ 412 _ _ from ?_)
    exact z_sub [] [] rfl (t_X11_reads_b412 ok h_a0)
  · refine z_iconst ok (1 : Int32) dX11_reads_407 (by decide) (show zG P G _ _ 408 _ _ from ?_)
    refine z_goto ok 412 dX11_reads_408 (by decide) ?_
    exact z_sub [] [] rfl (t_X11_reads_b412 ok h_a0)
set_option maxRecDepth 100000 in
set_option maxHeartbeats 4000000 in
theorem t_X11_reads_b352 {P : zSt} {G : zC} (ok : zOK P G RX11 cX11_reads 2 3 68 none)  {a0 : Nat} {m : zM} (h_a0 : zT P 10 a0) : zG P G (f_X11_reads_b352 P a0 m) m 352 [(0, .ref a0)] [] := by
  unfold f_X11_reads_b352
  refine z_aload_n ok 0 dX11_reads_352 rfl (show zG P G _ _ 353 _ _ from ?_)
  refine z_get ok fd_214 h_a0 (Or.inl rfl) tf_X11_83 dX11_reads_353 (show zG P G _ _ 356 _ _ from ?_)
  refine z_if_ne ok 391 dX11_reads_356 (by decide) ?_ (show zG P G _ _ 359 _ _ from ?_)
  · exact z_sub [0] [(0, .ref a0)] rfl (t_X11_reads_b391 ok h_a0)
  · refine z_aload_n ok 0 dX11_reads_359 rfl (show zG P G _ _ 360 _ _ from ?_)
    refine z_callVi ok [] (m_X11_here _ ok.p h_a0) cv_X11_86 h_a0 rfl (by decide) rfl (Nat.le_of_ble_eq_true rfl) rfl dX11_reads_360 (fun r360 m360 => (show zG P G _ _ 363 _ _ from ?_))
    refine z_bipush ok (42 : Int32) dX11_reads_363 (by decide) (show zG P G _ _ 365 _ _ from ?_)
    refine z_icmp_ne ok 391 dX11_reads_365 (by decide) ?_ (show zG P G _ _ 368 _ _ from ?_)
    · exact z_sub [0] [(0, .ref a0)] rfl (t_X11_reads_b391 ok h_a0)
    · refine z_aload_n ok 0 dX11_reads_368 rfl (show zG P G _ _ 369 _ _ from ?_)
      refine z_dup ok dX11_reads_369 rfl (show zG P G _ _ 370 _ _ from ?_)
      refine z_get ok fd_213 h_a0 (Or.inl rfl) tf_X11_80 dX11_reads_370 (show zG P G _ _ 373 _ _ from ?_)
      refine z_iconst ok (1 : Int32) dX11_reads_373 (by decide) (show zG P G _ _ 374 _ _ from ?_)
      refine z_iadd ok dX11_reads_374 (show zG P G _ _ 375 _ _ from ?_)
      refine z_put ok fd_213 h_a0 (Or.inl rfl) tf_X11_80 dX11_reads_375 (fun m375 => (show zG P G _ _ 378 _ _ from ?_))
      refine z_aload_n ok 0 dX11_reads_378 rfl (show zG P G _ _ 379 _ _ from ?_)
      refine z_getR ok fd_215 h_a0 (Or.inl rfl) tf_X11_34 dX11_reads_379 (fun b379 h_b379 => (show zG P G _ _ 382 _ _ from ?_))
      refine z_bipush ok (56 : Int32) dX11_reads_382 (by decide) (show zG P G _ _ 384 _ _ from ?_)
      refine z_aload_n ok 0 dX11_reads_384 rfl (show zG P G _ _ 385 _ _ from ?_)
      refine z_iconst ok (1 : Int32) dX11_reads_385 (by decide) (show zG P G _ _ 386 _ _ from ?_)
      refine z_iconst ok (4 : Int32) dX11_reads_386 (by decide) (show zG P G _ _ 387 _ _ from ?_)
      refine z_callVi ok [.int (1 : Int32), .int (4 : Int32)] (m_X11_digit _ ok.p h_a0) cv_X11_90 h_a0 rfl (by decide) rfl (Nat.le_of_ble_eq_true rfl) rfl dX11_reads_387 (fun r387 m387 => (show zG P G _ _ 390 _ _ from ?_))
      refine z_iast ok h_b379 dX11_reads_390 (fun m390 => (show zG P G _ _ 391 _ _ from ?_))
      exact z_sub [0] [(0, .ref a0)] rfl (t_X11_reads_b391 ok h_a0)
set_option maxRecDepth 100000 in
set_option maxHeartbeats 4000000 in
theorem t_X11_reads_b251 {P : zSt} {G : zC} (ok : zOK P G RX11 cX11_reads 2 3 68 none)  : ∀ (n : Nat) (a0 : Nat) (x1 : Int32) (m : zM) (h_a0 : zT P 10 a0), zG P G (f_X11_reads_b251 P n a0 x1 m) m 251 [(0, .ref a0), (1, .int x1)] [] := by
  intro n
  induction n with
  | zero =>
    intros
    exact zG_none
  | succ n ih =>
    intro a0 x1 m h_a0
    unfold f_X11_reads_b251
    have hr_251 := ih
    refine z_iload_n ok 1 dX11_reads_251 rfl (show zG P G _ _ 252 _ _ from ?_)
    refine z_if_eq ok 313 dX11_reads_252 (by decide) ?_ (show zG P G _ _ 255 _ _ from ?_)
    · refine z_aload_n ok 0 dX11_reads_313 rfl (show zG P G _ _ 314 _ _ from ?_)
      refine z_get ok fd_214 h_a0 (Or.inl rfl) tf_X11_83 dX11_reads_314 (show zG P G _ _ 317 _ _ from ?_)
      refine z_if_ne ok 352 dX11_reads_317 (by decide) ?_ (show zG P G _ _ 320 _ _ from ?_)
      · exact z_sub [0] [(0, .ref a0)] rfl (t_X11_reads_b352 ok h_a0)
      · refine z_aload_n ok 0 dX11_reads_320 rfl (show zG P G _ _ 321 _ _ from ?_)
        refine z_callVi ok [] (m_X11_here _ ok.p h_a0) cv_X11_86 h_a0 rfl (by decide) rfl (Nat.le_of_ble_eq_true rfl) rfl dX11_reads_321 (fun r321 m321 => (show zG P G _ _ 324 _ _ from ?_))
        refine z_bipush ok (126 : Int32) dX11_reads_324 (by decide) (show zG P G _ _ 326 _ _ from ?_)
        refine z_icmp_ne ok 352 dX11_reads_326 (by decide) ?_ (show zG P G _ _ 329 _ _ from ?_)
        · exact z_sub [0] [(0, .ref a0)] rfl (t_X11_reads_b352 ok h_a0)
        · refine z_aload_n ok 0 dX11_reads_329 rfl (show zG P G _ _ 330 _ _ from ?_)
          refine z_dup ok dX11_reads_330 rfl (show zG P G _ _ 331 _ _ from ?_)
          refine z_get ok fd_213 h_a0 (Or.inl rfl) tf_X11_80 dX11_reads_331 (show zG P G _ _ 334 _ _ from ?_)
          refine z_iconst ok (1 : Int32) dX11_reads_334 (by decide) (show zG P G _ _ 335 _ _ from ?_)
          refine z_iadd ok dX11_reads_335 (show zG P G _ _ 336 _ _ from ?_)
          refine z_put ok fd_213 h_a0 (Or.inl rfl) tf_X11_80 dX11_reads_336 (fun m336 => (show zG P G _ _ 339 _ _ from ?_))
          refine z_aload_n ok 0 dX11_reads_339 rfl (show zG P G _ _ 340 _ _ from ?_)
          refine z_getR ok fd_215 h_a0 (Or.inl rfl) tf_X11_34 dX11_reads_340 (fun b340 h_b340 => (show zG P G _ _ 343 _ _ from ?_))
          refine z_bipush ok (57 : Int32) dX11_reads_343 (by decide) (show zG P G _ _ 345 _ _ from ?_)
          refine z_aload_n ok 0 dX11_reads_345 rfl (show zG P G _ _ 346 _ _ from ?_)
          refine z_iconst ok (0 : Int32) dX11_reads_346 (by decide) (show zG P G _ _ 347 _ _ from ?_)
          refine z_iconst ok (3 : Int32) dX11_reads_347 (by decide) (show zG P G _ _ 348 _ _ from ?_)
          refine z_callVi ok [.int (0 : Int32), .int (3 : Int32)] (m_X11_digit _ ok.p h_a0) cv_X11_90 h_a0 rfl (by decide) rfl (Nat.le_of_ble_eq_true rfl) rfl dX11_reads_348 (fun r348 m348 => (show zG P G _ _ 351 _ _ from ?_))
          refine z_iast ok h_b340 dX11_reads_351 (fun m351 => (show zG P G _ _ 352 _ _ from ?_))
          exact z_sub [0] [(0, .ref a0)] rfl (t_X11_reads_b352 ok h_a0)
    · refine z_aload_n ok 0 dX11_reads_255 rfl (show zG P G _ _ 256 _ _ from ?_)
      refine z_callVv ok [] (m_X11_target _ ok.p h_a0) cv_X11_97 h_a0 rfl (by decide) rfl (Nat.le_of_ble_eq_true rfl) rfl dX11_reads_256 (fun _ m256 => (show zG P G _ _ 259 _ _ from ?_))
      refine z_aload_n ok 0 dX11_reads_259 rfl (show zG P G _ _ 260 _ _ from ?_)
      refine z_get ok fd_214 h_a0 (Or.inl rfl) tf_X11_83 dX11_reads_260 (show zG P G _ _ 263 _ _ from ?_)
      refine z_if_ne ok 290 dX11_reads_263 (by decide) ?_ (show zG P G _ _ 266 _ _ from ?_)
      · exact z_sub [0] [(0, .ref a0)] rfl (t_X11_reads_b290 ok (f_X11_reads_b251 P n) hr_251 h_a0)
      · refine z_aload_n ok 0 dX11_reads_266 rfl (show zG P G _ _ 267 _ _ from ?_)
        refine z_callVi ok [] (m_X11_here _ ok.p h_a0) cv_X11_86 h_a0 rfl (by decide) rfl (Nat.le_of_ble_eq_true rfl) rfl dX11_reads_267 (fun r267 m267 => (show zG P G _ _ 270 _ _ from ?_))
        refine z_bipush ok (44 : Int32) dX11_reads_270 (by decide) (show zG P G _ _ 272 _ _ from ?_)
        refine z_icmp_ne ok 290 dX11_reads_272 (by decide) ?_ (show zG P G _ _ 275 _ _ from ?_)
        · exact z_sub [0] [(0, .ref a0)] rfl (t_X11_reads_b290 ok (f_X11_reads_b251 P n) hr_251 h_a0)
        · refine z_aload_n ok 0 dX11_reads_275 rfl (show zG P G _ _ 276 _ _ from ?_)
          refine z_getR ok fd_215 h_a0 (Or.inl rfl) tf_X11_34 dX11_reads_276 (fun b276 h_b276 => (show zG P G _ _ 279 _ _ from ?_))
          refine z_bipush ok (43 : Int32) dX11_reads_279 (by decide) (show zG P G _ _ 281 _ _ from ?_)
          refine z_iald ok h_b276 dX11_reads_281 (show zG P G _ _ 282 _ _ from ?_)
          refine z_iconst ok (3 : Int32) dX11_reads_282 (by decide) (show zG P G _ _ 283 _ _ from ?_)
          refine z_icmp_ge ok 290 dX11_reads_283 (by decide) ?_ (show zG P G _ _ 286 _ _ from ?_)
          · exact z_sub [0] [(0, .ref a0)] rfl (t_X11_reads_b290 ok (f_X11_reads_b251 P n) hr_251 h_a0)
          · refine z_iconst ok (1 : Int32) dX11_reads_286 (by decide) (show zG P G _ _ 287 _ _ from ?_)
            refine z_goto ok 291 dX11_reads_287 (by decide) ?_
            exact z_sub [0] [(0, .ref a0)] rfl (t_X11_reads_b291 ok (f_X11_reads_b251 P n) hr_251 h_a0)
set_option maxRecDepth 100000 in
set_option maxHeartbeats 4000000 in
theorem t_X11_reads_b250 {P : zSt} {G : zC} (ok : zOK P G RX11 cX11_reads 2 3 68 none)  {a0 : Nat} {s0 : Int32} {m : zM} (h_a0 : zT P 10 a0) : zG P G (f_X11_reads_b250 P a0 s0 m) m 250 [(0, .ref a0)] [.int s0] := by
  unfold f_X11_reads_b250
  refine z_istore_n0 ok [(1, .int s0), (0, .ref a0)] dX11_reads_250 (by decide) rfl (show zG P G _ _ 251 _ _ from ?_)
  exact z_sub [1, 0] [(0, .ref a0), (1, .int s0)] rfl (t_X11_reads_b251 ok zfuel _ _ _ h_a0)
set_option maxRecDepth 100000 in
set_option maxHeartbeats 4000000 in
theorem t_X11_reads_b238 {P : zSt} {G : zC} (ok : zOK P G RX11 cX11_reads 2 3 68 none)  {a0 : Nat} {m : zM} (h_a0 : zT P 10 a0) : zG P G (f_X11_reads_b238 P a0 m) m 238 [(0, .ref a0)] [] := by
  unfold f_X11_reads_b238
  refine z_aload_n ok 0 dX11_reads_238 rfl (show zG P G _ _ 239 _ _ from ?_)
  refine z_get ok fd_214 h_a0 (Or.inl rfl) tf_X11_83 dX11_reads_239 (show zG P G _ _ 242 _ _ from ?_)
  refine z_if_ne ok 249 dX11_reads_242 (by decide) ?_ (show zG P G _ _ 245 _ _ from ?_)
  · refine z_iconst ok (0 : Int32) dX11_reads_249 (by decide) (show zG P G _ _ 250 _ _ from ?_)
    exact z_sub [0] [(0, .ref a0)] rfl (t_X11_reads_b250 ok h_a0)
  · refine z_iconst ok (1 : Int32) dX11_reads_245 (by decide) (show zG P G _ _ 246 _ _ from ?_)
    refine z_goto ok 250 dX11_reads_246 (by decide) ?_
    exact z_sub [0] [(0, .ref a0)] rfl (t_X11_reads_b250 ok h_a0)
set_option maxRecDepth 100000 in
set_option maxHeartbeats 4000000 in
theorem t_X11_reads_b225 {P : zSt} {G : zC} (ok : zOK P G RX11 cX11_reads 2 3 68 none)  {a0 : Nat} {m : zM} (h_a0 : zT P 10 a0) : zG P G (f_X11_reads_b225 P a0 m) m 225 [(0, .ref a0)] [] := by
  unfold f_X11_reads_b225
  refine z_aload_n ok 0 dX11_reads_225 rfl (show zG P G _ _ 226 _ _ from ?_)
  refine z_get ok fd_214 h_a0 (Or.inl rfl) tf_X11_83 dX11_reads_226 (show zG P G _ _ 229 _ _ from ?_)
  refine z_if_ne ok 238 dX11_reads_229 (by decide) ?_ (show zG P G _ _ 232 _ _ from ?_)
  · exact z_sub [0] [(0, .ref a0)] rfl (t_X11_reads_b238 ok h_a0)
  · refine z_aload_n ok 0 dX11_reads_232 rfl (show zG P G _ _ 233 _ _ from ?_)
    refine z_bipush ok (61 : Int32) dX11_reads_233 (by decide) (show zG P G _ _ 235 _ _ from ?_)
    refine z_callVv ok [.int (61 : Int32)] (m_X11_sign _ ok.p h_a0) cv_X11_93 h_a0 rfl (by decide) rfl (Nat.le_of_ble_eq_true rfl) rfl dX11_reads_235 (fun _ m235 => (show zG P G _ _ 238 _ _ from ?_))
    exact z_sub [0] [(0, .ref a0)] rfl (t_X11_reads_b238 ok h_a0)
set_option maxRecDepth 100000 in
set_option maxHeartbeats 4000000 in
theorem t_X11_reads_b212 {P : zSt} {G : zC} (ok : zOK P G RX11 cX11_reads 2 3 68 none)  {a0 : Nat} {m : zM} (h_a0 : zT P 10 a0) : zG P G (f_X11_reads_b212 P a0 m) m 212 [(0, .ref a0)] [] := by
  unfold f_X11_reads_b212
  refine z_aload_n ok 0 dX11_reads_212 rfl (show zG P G _ _ 213 _ _ from ?_)
  refine z_get ok fd_214 h_a0 (Or.inl rfl) tf_X11_83 dX11_reads_213 (show zG P G _ _ 216 _ _ from ?_)
  refine z_if_ne ok 225 dX11_reads_216 (by decide) ?_ (show zG P G _ _ 219 _ _ from ?_)
  · exact z_sub [0] [(0, .ref a0)] rfl (t_X11_reads_b225 ok h_a0)
  · refine z_aload_n ok 0 dX11_reads_219 rfl (show zG P G _ _ 220 _ _ from ?_)
    refine z_bipush ok (93 : Int32) dX11_reads_220 (by decide) (show zG P G _ _ 222 _ _ from ?_)
    refine z_callVv ok [.int (93 : Int32)] (m_X11_sign _ ok.p h_a0) cv_X11_93 h_a0 rfl (by decide) rfl (Nat.le_of_ble_eq_true rfl) rfl dX11_reads_222 (fun _ m222 => (show zG P G _ _ 225 _ _ from ?_))
    exact z_sub [0] [(0, .ref a0)] rfl (t_X11_reads_b225 ok h_a0)
set_option maxRecDepth 100000 in
set_option maxHeartbeats 4000000 in
theorem t_X11_reads_b185 {P : zSt} {G : zC} (ok : zOK P G RX11 cX11_reads 2 3 68 none)  {a0 : Nat} {m : zM} (h_a0 : zT P 10 a0) : zG P G (f_X11_reads_b185 P a0 m) m 185 [(0, .ref a0)] [] := by
  unfold f_X11_reads_b185
  refine z_aload_n ok 0 dX11_reads_185 rfl (show zG P G _ _ 186 _ _ from ?_)
  refine z_get ok fd_214 h_a0 (Or.inl rfl) tf_X11_83 dX11_reads_186 (show zG P G _ _ 189 _ _ from ?_)
  refine z_if_ne ok 212 dX11_reads_189 (by decide) ?_ (show zG P G _ _ 192 _ _ from ?_)
  · exact z_sub [0] [(0, .ref a0)] rfl (t_X11_reads_b212 ok h_a0)
  · refine z_aload_n ok 0 dX11_reads_192 rfl (show zG P G _ _ 193 _ _ from ?_)
    refine z_getR ok fd_215 h_a0 (Or.inl rfl) tf_X11_34 dX11_reads_193 (fun b193 h_b193 => (show zG P G _ _ 196 _ _ from ?_))
    refine z_bipush ok (42 : Int32) dX11_reads_196 (by decide) (show zG P G _ _ 198 _ _ from ?_)
    refine z_aload_n ok 0 dX11_reads_198 rfl (show zG P G _ _ 199 _ _ from ?_)
    refine z_aload_n ok 0 dX11_reads_199 rfl (show zG P G _ _ 200 _ _ from ?_)
    refine z_getR ok fd_215 h_a0 (Or.inl rfl) tf_X11_34 dX11_reads_200 (fun b200 h_b200 => (show zG P G _ _ 203 _ _ from ?_))
    refine z_bipush ok (41 : Int32) dX11_reads_203 (by decide) (show zG P G _ _ 205 _ _ from ?_)
    refine z_iald ok h_b200 dX11_reads_205 (show zG P G _ _ 206 _ _ from ?_)
    refine z_bipush ok (9 : Int32) dX11_reads_206 (by decide) (show zG P G _ _ 208 _ _ from ?_)
    refine z_callVi ok [.int (za m b200 (41 : Int32).toNatClampNeg), .int (9 : Int32)] (m_X11_digit _ ok.p h_a0) cv_X11_90 h_a0 rfl (by decide) rfl (Nat.le_of_ble_eq_true rfl) rfl dX11_reads_208 (fun r208 m208 => (show zG P G _ _ 211 _ _ from ?_))
    refine z_iast ok h_b193 dX11_reads_211 (fun m211 => (show zG P G _ _ 212 _ _ from ?_))
    exact z_sub [0] [(0, .ref a0)] rfl (t_X11_reads_b212 ok h_a0)
set_option maxRecDepth 100000 in
set_option maxHeartbeats 4000000 in
theorem t_X11_reads_b132 {P : zSt} {G : zC} (ok : zOK P G RX11 cX11_reads 2 3 68 none)  {a0 : Nat} {m : zM} (h_a0 : zT P 10 a0) : zG P G (f_X11_reads_b132 P a0 m) m 132 [(0, .ref a0)] [] := by
  unfold f_X11_reads_b132
  refine z_aload_n ok 0 dX11_reads_132 rfl (show zG P G _ _ 133 _ _ from ?_)
  refine z_get ok fd_214 h_a0 (Or.inl rfl) tf_X11_83 dX11_reads_133 (show zG P G _ _ 136 _ _ from ?_)
  refine z_if_ne ok 225 dX11_reads_136 (by decide) ?_ (show zG P G _ _ 139 _ _ from ?_)
  · exact z_sub [0] [(0, .ref a0)] rfl (t_X11_reads_b225 ok h_a0)
  · refine z_aload_n ok 0 dX11_reads_139 rfl (show zG P G _ _ 140 _ _ from ?_)
    refine z_callVi ok [] (m_X11_here _ ok.p h_a0) cv_X11_86 h_a0 rfl (by decide) rfl (Nat.le_of_ble_eq_true rfl) rfl dX11_reads_140 (fun r140 m140 => (show zG P G _ _ 143 _ _ from ?_))
    refine z_bipush ok (91 : Int32) dX11_reads_143 (by decide) (show zG P G _ _ 145 _ _ from ?_)
    refine z_icmp_ne ok 225 dX11_reads_145 (by decide) ?_ (show zG P G _ _ 148 _ _ from ?_)
    · exact z_sub [0] [(0, .ref a0)] rfl (t_X11_reads_b225 ok h_a0)
    · refine z_aload_n ok 0 dX11_reads_148 rfl (show zG P G _ _ 149 _ _ from ?_)
      refine z_dup ok dX11_reads_149 rfl (show zG P G _ _ 150 _ _ from ?_)
      refine z_get ok fd_213 h_a0 (Or.inl rfl) tf_X11_80 dX11_reads_150 (show zG P G _ _ 153 _ _ from ?_)
      refine z_iconst ok (1 : Int32) dX11_reads_153 (by decide) (show zG P G _ _ 154 _ _ from ?_)
      refine z_iadd ok dX11_reads_154 (show zG P G _ _ 155 _ _ from ?_)
      refine z_put ok fd_213 h_a0 (Or.inl rfl) tf_X11_80 dX11_reads_155 (fun m155 => (show zG P G _ _ 158 _ _ from ?_))
      refine z_aload_n ok 0 dX11_reads_158 rfl (show zG P G _ _ 159 _ _ from ?_)
      refine z_getR ok fd_215 h_a0 (Or.inl rfl) tf_X11_34 dX11_reads_159 (fun b159 h_b159 => (show zG P G _ _ 162 _ _ from ?_))
      refine z_bipush ok (41 : Int32) dX11_reads_162 (by decide) (show zG P G _ _ 164 _ _ from ?_)
      refine z_aload_n ok 0 dX11_reads_164 rfl (show zG P G _ _ 165 _ _ from ?_)
      refine z_iconst ok (0 : Int32) dX11_reads_165 (by decide) (show zG P G _ _ 166 _ _ from ?_)
      refine z_bipush ok (9 : Int32) dX11_reads_166 (by decide) (show zG P G _ _ 168 _ _ from ?_)
      refine z_callVi ok [.int (0 : Int32), .int (9 : Int32)] (m_X11_digit _ ok.p h_a0) cv_X11_90 h_a0 rfl (by decide) rfl (Nat.le_of_ble_eq_true rfl) rfl dX11_reads_168 (fun r168 m168 => (show zG P G _ _ 171 _ _ from ?_))
      refine z_iast ok h_b159 dX11_reads_171 (fun m171 => (show zG P G _ _ 172 _ _ from ?_))
      refine z_aload_n ok 0 dX11_reads_172 rfl (show zG P G _ _ 173 _ _ from ?_)
      refine z_get ok fd_214 h_a0 (Or.inl rfl) tf_X11_83 dX11_reads_173 (show zG P G _ _ 176 _ _ from ?_)
      refine z_if_ne ok 185 dX11_reads_176 (by decide) ?_ (show zG P G _ _ 179 _ _ from ?_)
      · exact z_sub [0] [(0, .ref a0)] rfl (t_X11_reads_b185 ok h_a0)
      · refine z_aload_n ok 0 dX11_reads_179 rfl (show zG P G _ _ 180 _ _ from ?_)
        refine z_bipush ok (45 : Int32) dX11_reads_180 (by decide) (show zG P G _ _ 182 _ _ from ?_)
        refine z_callVv ok [.int (45 : Int32)] (m_X11_sign _ ok.p h_a0) cv_X11_93 h_a0 rfl (by decide) rfl (Nat.le_of_ble_eq_true rfl) rfl dX11_reads_182 (fun _ m182 => (show zG P G _ _ 185 _ _ from ?_))
        exact z_sub [0] [(0, .ref a0)] rfl (t_X11_reads_b185 ok h_a0)
set_option maxRecDepth 100000 in
set_option maxHeartbeats 4000000 in
theorem t_X11_reads_b64 {P : zSt} {G : zC} (ok : zOK P G RX11 cX11_reads 2 3 68 none)  : ∀ (n : Nat) (a0 : Nat) (m : zM) (h_a0 : zT P 10 a0), zG P G (f_X11_reads_b64 P n a0 m) m 64 [(0, .ref a0)] [] := by
  intro n
  induction n with
  | zero =>
    intros
    exact zG_none
  | succ n ih =>
    intro a0 m h_a0
    unfold f_X11_reads_b64
    have hr_64 := ih
    refine z_aload_n ok 0 dX11_reads_64 rfl (show zG P G _ _ 65 _ _ from ?_)
    refine z_get ok fd_214 h_a0 (Or.inl rfl) tf_X11_83 dX11_reads_65 (show zG P G _ _ 68 _ _ from ?_)
    refine z_if_ne ok 132 dX11_reads_68 (by decide) ?_ (show zG P G _ _ 71 _ _ from ?_)
    · exact z_sub [0] [(0, .ref a0)] rfl (t_X11_reads_b132 ok h_a0)
    · refine z_aload_n ok 0 dX11_reads_71 rfl (show zG P G _ _ 72 _ _ from ?_)
      refine z_get ok fd_213 h_a0 (Or.inl rfl) tf_X11_80 dX11_reads_72 (show zG P G _ _ 75 _ _ from ?_)
      refine z_aload_n ok 0 dX11_reads_75 rfl (show zG P G _ _ 76 _ _ from ?_)
      refine z_get ok fd_207 h_a0 (Or.inl rfl) tf_X11_74 dX11_reads_76 (show zG P G _ _ 79 _ _ from ?_)
      refine z_icmp_ge ok 132 dX11_reads_79 (by decide) ?_ (show zG P G _ _ 82 _ _ from ?_)
      · exact z_sub [0] [(0, .ref a0)] rfl (t_X11_reads_b132 ok h_a0)
      · refine z_aload_n ok 0 dX11_reads_82 rfl (show zG P G _ _ 83 _ _ from ?_)
        refine z_callVi ok [] (m_X11_here _ ok.p h_a0) cv_X11_86 h_a0 rfl (by decide) rfl (Nat.le_of_ble_eq_true rfl) rfl dX11_reads_83 (fun r83 m83 => (show zG P G _ _ 86 _ _ from ?_))
        refine z_callSi ok [.int r83] (m_X11_isOfPath _ ok.p) cv_X11_77 rfl (by decide) rfl (Nat.le_of_ble_eq_true rfl) rfl dX11_reads_86 (fun r86 m86 => (show zG P G _ _ 89 _ _ from ?_))
        refine z_if_eq ok 132 dX11_reads_89 (by decide) ?_ (show zG P G _ _ 92 _ _ from ?_)
        · exact z_sub [0] [(0, .ref a0)] rfl (t_X11_reads_b132 ok h_a0)
        · refine z_aload_n ok 0 dX11_reads_92 rfl (show zG P G _ _ 93 _ _ from ?_)
          refine z_getR ok fd_215 h_a0 (Or.inl rfl) tf_X11_34 dX11_reads_93 (fun b93 h_b93 => (show zG P G _ _ 96 _ _ from ?_))
          refine z_iconst ok (1 : Int32) dX11_reads_96 (by decide) (show zG P G _ _ 97 _ _ from ?_)
          refine z_aload_n ok 0 dX11_reads_97 rfl (show zG P G _ _ 98 _ _ from ?_)
          refine z_getR ok fd_215 h_a0 (Or.inl rfl) tf_X11_34 dX11_reads_98 (fun b98 h_b98 => (show zG P G _ _ 101 _ _ from ?_))
          refine z_iconst ok (0 : Int32) dX11_reads_101 (by decide) (show zG P G _ _ 102 _ _ from ?_)
          refine z_iald ok h_b98 dX11_reads_102 (show zG P G _ _ 103 _ _ from ?_)
          refine z_iadd ok dX11_reads_103 (show zG P G _ _ 104 _ _ from ?_)
          refine z_aload_n ok 0 dX11_reads_104 rfl (show zG P G _ _ 105 _ _ from ?_)
          refine z_callVi ok [] (m_X11_here _ ok.p h_a0) cv_X11_86 h_a0 rfl (by decide) rfl (Nat.le_of_ble_eq_true rfl) rfl dX11_reads_105 (fun r105 m105 => (show zG P G _ _ 108 _ _ from ?_))
          refine z_iast ok h_b93 dX11_reads_108 (fun m108 => (show zG P G _ _ 109 _ _ from ?_))
          refine z_aload_n ok 0 dX11_reads_109 rfl (show zG P G _ _ 110 _ _ from ?_)
          refine z_getR ok fd_215 h_a0 (Or.inl rfl) tf_X11_34 dX11_reads_110 (fun b110 h_b110 => (show zG P G _ _ 113 _ _ from ?_))
          refine z_iconst ok (0 : Int32) dX11_reads_113 (by decide) (show zG P G _ _ 114 _ _ from ?_)
          refine z_dup2 ok dX11_reads_114 rfl rfl (show zG P G _ _ 115 _ _ from ?_)
          refine z_iald ok h_b110 dX11_reads_115 (show zG P G _ _ 116 _ _ from ?_)
          refine z_iconst ok (1 : Int32) dX11_reads_116 (by decide) (show zG P G _ _ 117 _ _ from ?_)
          refine z_iadd ok dX11_reads_117 (show zG P G _ _ 118 _ _ from ?_)
          refine z_iast ok h_b110 dX11_reads_118 (fun m118 => (show zG P G _ _ 119 _ _ from ?_))
          refine z_aload_n ok 0 dX11_reads_119 rfl (show zG P G _ _ 120 _ _ from ?_)
          refine z_dup ok dX11_reads_120 rfl (show zG P G _ _ 121 _ _ from ?_)
          refine z_get ok fd_213 h_a0 (Or.inl rfl) tf_X11_80 dX11_reads_121 (show zG P G _ _ 124 _ _ from ?_)
          refine z_iconst ok (1 : Int32) dX11_reads_124 (by decide) (show zG P G _ _ 125 _ _ from ?_)
          refine z_iadd ok dX11_reads_125 (show zG P G _ _ 126 _ _ from ?_)
          refine z_put ok fd_213 h_a0 (Or.inl rfl) tf_X11_80 dX11_reads_126 (fun m126 => (show zG P G _ _ 129 _ _ from ?_))
          refine z_goto ok 64 dX11_reads_129 (by decide) ?_
          exact z_sub [0] [(0, .ref a0)] rfl (hr_64 _ _ h_a0)
set_option maxRecDepth 100000 in
set_option maxHeartbeats 4000000 in
theorem t_X11_reads_b61 {P : zSt} {G : zC} (ok : zOK P G RX11 cX11_reads 2 3 68 none)  {a0 : Nat} {s0 : Int32} {t1 : Nat} {m : zM} (h_a0 : zT P 10 a0) (h_t1 : zT P 10 t1) : zG P G (f_X11_reads_b61 P a0 s0 t1 m) m 61 [(0, .ref a0)] [.int s0, .ref t1] := by
  unfold f_X11_reads_b61
  refine z_putZ ok fd_214 h_t1 (Or.inl rfl) tf_X11_83 dX11_reads_61 (fun m61 => (show zG P G _ _ 64 _ _ from ?_))
  exact z_sub [0] [(0, .ref a0)] rfl (t_X11_reads_b64 ok zfuel _ _ h_a0)
set_option maxRecDepth 100000 in
set_option maxHeartbeats 4000000 in
theorem t_X11_reads_b2 {P : zSt} {G : zC} (ok : zOK P G RX11 cX11_reads 2 3 68 none)  : ∀ (n : Nat) (a0 : Nat) (x1 : Int32) (m : zM) (h_a0 : zT P 10 a0), zG P G (f_X11_reads_b2 P n a0 x1 m) m 2 [(0, .ref a0), (1, .int x1)] [] := by
  intro n
  induction n with
  | zero =>
    intros
    exact zG_none
  | succ n ih =>
    intro a0 x1 m h_a0
    unfold f_X11_reads_b2
    have hr_2 := ih
    refine z_iload_n ok 1 dX11_reads_2 rfl (show zG P G _ _ 3 _ _ from ?_)
    refine z_bipush ok (58 : Int32) dX11_reads_3 (by decide) (show zG P G _ _ 5 _ _ from ?_)
    refine z_icmp_ge ok 21 dX11_reads_5 (by decide) ?_ (show zG P G _ _ 8 _ _ from ?_)
    · refine z_aload_n ok 0 dX11_reads_21 rfl (show zG P G _ _ 22 _ _ from ?_)
      refine z_getR ok fd_215 h_a0 (Or.inl rfl) tf_X11_34 dX11_reads_22 (fun b22 h_b22 => (show zG P G _ _ 25 _ _ from ?_))
      refine z_bipush ok (42 : Int32) dX11_reads_25 (by decide) (show zG P G _ _ 27 _ _ from ?_)
      refine z_bipush ok (9 : Int32) dX11_reads_27 (by decide) (show zG P G _ _ 29 _ _ from ?_)
      refine z_iast ok h_b22 dX11_reads_29 (fun m29 => (show zG P G _ _ 30 _ _ from ?_))
      refine z_aload_n ok 0 dX11_reads_30 rfl (show zG P G _ _ 31 _ _ from ?_)
      refine z_getR ok fd_215 h_a0 (Or.inl rfl) tf_X11_34 dX11_reads_31 (fun b31 h_b31 => (show zG P G _ _ 34 _ _ from ?_))
      refine z_bipush ok (56 : Int32) dX11_reads_34 (by decide) (show zG P G _ _ 36 _ _ from ?_)
      refine z_iconst ok (1 : Int32) dX11_reads_36 (by decide) (show zG P G _ _ 37 _ _ from ?_)
      refine z_iast ok h_b31 dX11_reads_37 (fun m37 => (show zG P G _ _ 38 _ _ from ?_))
      refine z_aload_n ok 0 dX11_reads_38 rfl (show zG P G _ _ 39 _ _ from ?_)
      refine z_getR ok fd_215 h_a0 (Or.inl rfl) tf_X11_34 dX11_reads_39 (fun b39 h_b39 => (show zG P G _ _ 42 _ _ from ?_))
      refine z_bipush ok (57 : Int32) dX11_reads_42 (by decide) (show zG P G _ _ 44 _ _ from ?_)
      refine z_iconst ok (-1 : Int32) dX11_reads_44 (by decide) (show zG P G _ _ 45 _ _ from ?_)
      refine z_iast ok h_b39 dX11_reads_45 (fun m45 => (show zG P G _ _ 46 _ _ from ?_))
      refine z_aload_n ok 0 dX11_reads_46 rfl (show zG P G _ _ 47 _ _ from ?_)
      refine z_aload_n ok 0 dX11_reads_47 rfl (show zG P G _ _ 48 _ _ from ?_)
      refine z_callVi ok [] (m_X11_here _ ok.p h_a0) cv_X11_86 h_a0 rfl (by decide) rfl (Nat.le_of_ble_eq_true rfl) rfl dX11_reads_48 (fun r48 m48 => (show zG P G _ _ 51 _ _ from ?_))
      refine z_bipush ok (47 : Int32) dX11_reads_51 (by decide) (show zG P G _ _ 53 _ _ from ?_)
      refine z_icmp_eq ok 60 dX11_reads_53 (by decide) ?_ (show zG P G _ _ 56 _ _ from ?_)
      · refine z_iconst ok (0 : Int32) dX11_reads_60 (by decide) (show zG P G _ _ 61 _ _ from ?_)
        exact z_sub [0] [(0, .ref a0)] rfl (t_X11_reads_b61 ok h_a0 h_a0)
      · refine z_iconst ok (1 : Int32) dX11_reads_56 (by decide) (show zG P G _ _ 57 _ _ from ?_)
        refine z_goto ok 61 dX11_reads_57 (by decide) ?_
        exact z_sub [0] [(0, .ref a0)] rfl (t_X11_reads_b61 ok h_a0 h_a0)
    · refine z_aload_n ok 0 dX11_reads_8 rfl (show zG P G _ _ 9 _ _ from ?_)
      refine z_getR ok fd_215 h_a0 (Or.inl rfl) tf_X11_34 dX11_reads_9 (fun b9 h_b9 => (show zG P G _ _ 12 _ _ from ?_))
      refine z_iload_n ok 1 dX11_reads_12 rfl (show zG P G _ _ 13 _ _ from ?_)
      refine z_iconst ok (0 : Int32) dX11_reads_13 (by decide) (show zG P G _ _ 14 _ _ from ?_)
      refine z_iast ok h_b9 dX11_reads_14 (fun m14 => (show zG P G _ _ 15 _ _ from ?_))
      refine z_iinc ok (fun v15 => [(1, .int v15), (0, .ref a0)]) 1 dX11_reads_15 rfl (by decide) (by decide) (fun _ => rfl) (fun v15 => (show zG P G _ _ 18 _ _ from ?_))
      refine z_goto ok 2 dX11_reads_18 (by decide) ?_
      exact z_sub [1, 0] [(0, .ref a0), (1, .int v15)] rfl (hr_2 _ _ _ h_a0)
set_option maxRecDepth 100000 in
set_option maxHeartbeats 4000000 in
theorem m_X11_reads (l : Launch) {P : zSt} (hP : zOKP P) {a0 : Nat} (h_a0 : zT P 10 a0) : zMet l P yX11_reads cX11_reads 2 3 68 none [.ref a0] (fun m => f_X11_reads P a0 m) := by
  refine zMet.of hP (by decide +kernel) RX11 rfl [(0, .ref a0)] (fun h => h) (Nat.le_of_ble_eq_true rfl) (fun G m ok => ?_)
  show zG P G (f_X11_reads P a0 m) m 0 _ []
  unfold f_X11_reads
  refine z_iconst ok (0 : Int32) dX11_reads_0 (by decide) (show zG P G _ _ 1 _ _ from ?_)
  refine z_istore_n0 ok [(1, .int (0 : Int32)), (0, .ref a0)] dX11_reads_1 (by decide) rfl (show zG P G _ _ 2 _ _ from ?_)
  exact z_sub [1, 0] [(0, .ref a0), (1, .int (0 : Int32))] rfl (t_X11_reads_b2 ok zfuel _ _ _ h_a0)
set_option maxRecDepth 100000 in
set_option maxHeartbeats 4000000 in
theorem t_X11_addRule_b51 {P : zSt} {G : zC} (ok : zOK P G RX11 cX11_addRule 2 4 89 (some .int))  : ∀ (n : Nat) (a0 : Nat) (x1 : Int32) (m : zM) (h_a0 : zT P 10 a0), zG P G (f_X11_addRule_b51 P n a0 x1 m) m 51 [(0, .ref a0), (1, .int x1)] [] := by
  intro n
  induction n with
  | zero =>
    intros
    exact zG_none
  | succ n ih =>
    intro a0 x1 m h_a0
    unfold f_X11_addRule_b51
    have hr_51 := ih
    refine z_iload_n ok 1 dX11_addRule_51 rfl (show zG P G _ _ 52 _ _ from ?_)
    refine z_bipush ok (58 : Int32) dX11_addRule_52 (by decide) (show zG P G _ _ 54 _ _ from ?_)
    refine z_icmp_ge ok 91 dX11_addRule_54 (by decide) ?_ (show zG P G _ _ 57 _ _ from ?_)
    · refine z_aload_n ok 0 dX11_addRule_91 rfl (show zG P G _ _ 92 _ _ from ?_)
      refine z_getR ok fd_200 h_a0 (Or.inl rfl) tf_X11_9 dX11_addRule_92 (fun b92 h_b92 => (show zG P G _ _ 95 _ _ from ?_))
      refine z_sipush ok (230 : Int32) dX11_addRule_95 (by decide) (show zG P G _ _ 98 _ _ from ?_)
      refine z_dup2 ok dX11_addRule_98 rfl rfl (show zG P G _ _ 99 _ _ from ?_)
      refine z_iald ok h_b92 dX11_addRule_99 (show zG P G _ _ 100 _ _ from ?_)
      refine z_iconst ok (1 : Int32) dX11_addRule_100 (by decide) (show zG P G _ _ 101 _ _ from ?_)
      refine z_iadd ok dX11_addRule_101 (show zG P G _ _ 102 _ _ from ?_)
      refine z_iast ok h_b92 dX11_addRule_102 (fun m102 => (show zG P G _ _ 103 _ _ from ?_))
      refine z_aload_n ok 0 dX11_addRule_103 rfl (show zG P G _ _ 104 _ _ from ?_)
      refine z_getR ok fd_200 h_a0 (Or.inl rfl) tf_X11_9 dX11_addRule_104 (fun b104 h_b104 => (show zG P G _ _ 107 _ _ from ?_))
      refine z_sipush ok (230 : Int32) dX11_addRule_107 (by decide) (show zG P G _ _ 110 _ _ from ?_)
      refine z_iald ok h_b104 dX11_addRule_110 (show zG P G _ _ 111 _ _ from ?_)
      refine z_iconst ok (1 : Int32) dX11_addRule_111 (by decide) (show zG P G _ _ 112 _ _ from ?_)
      refine z_isub ok dX11_addRule_112 (show zG P G _ _ 113 _ _ from ?_)
      exact z_iret ok dX11_addRule_113
    · refine z_aload_n ok 0 dX11_addRule_57 rfl (show zG P G _ _ 58 _ _ from ?_)
      refine z_getR ok fd_200 h_a0 (Or.inl rfl) tf_X11_9 dX11_addRule_58 (fun b58 h_b58 => (show zG P G _ _ 61 _ _ from ?_))
      refine z_sipush ok (231 : Int32) dX11_addRule_61 (by decide) (show zG P G _ _ 64 _ _ from ?_)
      refine z_bipush ok (58 : Int32) dX11_addRule_64 (by decide) (show zG P G _ _ 66 _ _ from ?_)
      refine z_aload_n ok 0 dX11_addRule_66 rfl (show zG P G _ _ 67 _ _ from ?_)
      refine z_getR ok fd_200 h_a0 (Or.inl rfl) tf_X11_9 dX11_addRule_67 (fun b67 h_b67 => (show zG P G _ _ 70 _ _ from ?_))
      refine z_sipush ok (230 : Int32) dX11_addRule_70 (by decide) (show zG P G _ _ 73 _ _ from ?_)
      refine z_iald ok h_b67 dX11_addRule_73 (show zG P G _ _ 74 _ _ from ?_)
      refine z_imul ok dX11_addRule_74 (show zG P G _ _ 75 _ _ from ?_)
      refine z_iadd ok dX11_addRule_75 (show zG P G _ _ 76 _ _ from ?_)
      refine z_iload_n ok 1 dX11_addRule_76 rfl (show zG P G _ _ 77 _ _ from ?_)
      refine z_iadd ok dX11_addRule_77 (show zG P G _ _ 78 _ _ from ?_)
      refine z_aload_n ok 0 dX11_addRule_78 rfl (show zG P G _ _ 79 _ _ from ?_)
      refine z_getR ok fd_215 h_a0 (Or.inl rfl) tf_X11_34 dX11_addRule_79 (fun b79 h_b79 => (show zG P G _ _ 82 _ _ from ?_))
      refine z_iload_n ok 1 dX11_addRule_82 rfl (show zG P G _ _ 83 _ _ from ?_)
      refine z_iald ok h_b79 dX11_addRule_83 (show zG P G _ _ 84 _ _ from ?_)
      refine z_iast ok h_b58 dX11_addRule_84 (fun m84 => (show zG P G _ _ 85 _ _ from ?_))
      refine z_iinc ok (fun v85 => [(1, .int v85), (0, .ref a0)]) 1 dX11_addRule_85 rfl (by decide) (by decide) (fun _ => rfl) (fun v85 => (show zG P G _ _ 88 _ _ from ?_))
      refine z_goto ok 51 dX11_addRule_88 (by decide) ?_
      exact z_sub [1, 0] [(0, .ref a0), (1, .int v85)] rfl (hr_51 _ _ _ h_a0)
set_option maxRecDepth 100000 in
set_option maxHeartbeats 4000000 in
theorem m_X11_addRule (l : Launch) {P : zSt} (hP : zOKP P) {a0 : Nat} (h_a0 : zT P 10 a0) : zMet l P yX11_addRule cX11_addRule 2 4 89 (some .int) [.ref a0] (fun m => f_X11_addRule P a0 m) := by
  refine zMet.of hP (by decide +kernel) RX11 rfl [(0, .ref a0)] (fun h => h) (Nat.le_of_ble_eq_true rfl) (fun G m ok => ?_)
  show zG P G (f_X11_addRule P a0 m) m 0 _ []
  unfold f_X11_addRule
  refine z_aload_n ok 0 dX11_addRule_0 rfl (show zG P G _ _ 1 _ _ from ?_)
  refine z_iconst ok (0 : Int32) dX11_addRule_1 (by decide) (show zG P G _ _ 2 _ _ from ?_)
  refine z_put ok fd_213 h_a0 (Or.inl rfl) tf_X11_80 dX11_addRule_2 (fun m2 => (show zG P G _ _ 5 _ _ from ?_))
  refine z_aload_n ok 0 dX11_addRule_5 rfl (show zG P G _ _ 6 _ _ from ?_)
  refine z_callVv ok [] (m_X11_reads _ ok.p h_a0) cv_X11_100 h_a0 rfl (by decide) rfl (Nat.le_of_ble_eq_true rfl) rfl dX11_addRule_6 (fun _ m6 => (show zG P G _ _ 9 _ _ from ?_))
  refine z_aload_n ok 0 dX11_addRule_9 rfl (show zG P G _ _ 10 _ _ from ?_)
  refine z_iconst ok (0 : Int32) dX11_addRule_10 (by decide) (show zG P G _ _ 11 _ _ from ?_)
  refine z_put ok fd_207 h_a0 (Or.inl rfl) tf_X11_74 dX11_addRule_11 (fun m11 => (show zG P G _ _ 14 _ _ from ?_))
  refine z_aload_n ok 0 dX11_addRule_14 rfl (show zG P G _ _ 15 _ _ from ?_)
  refine z_get ok fd_214 h_a0 (Or.inl rfl) tf_X11_83 dX11_addRule_15 (show zG P G _ _ 18 _ _ from ?_)
  refine z_if_eq ok 29 dX11_addRule_18 (by decide) ?_ (show zG P G _ _ 21 _ _ from ?_)
  · refine z_aload_n ok 0 dX11_addRule_29 rfl (show zG P G _ _ 30 _ _ from ?_)
    refine z_getR ok fd_200 h_a0 (Or.inl rfl) tf_X11_9 dX11_addRule_30 (fun b30 h_b30 => (show zG P G _ _ 33 _ _ from ?_))
    refine z_sipush ok (230 : Int32) dX11_addRule_33 (by decide) (show zG P G _ _ 36 _ _ from ?_)
    refine z_iald ok h_b30 dX11_addRule_36 (show zG P G _ _ 37 _ _ from ?_)
    refine z_bipush ok (8 : Int32) dX11_addRule_37 (by decide) (show zG P G _ _ 39 _ _ from ?_)
    refine z_icmp_ne ok 45 dX11_addRule_39 (by decide) ?_ (show zG P G _ _ 42 _ _ from ?_)
    · refine z_aload_n ok 0 dX11_addRule_45 rfl (show zG P G _ _ 46 _ _ from ?_)
      refine z_callVv ok [] (m_X11_changes _ ok.p h_a0) cv_X11_55 h_a0 rfl (by decide) rfl (Nat.le_of_ble_eq_true rfl) rfl dX11_addRule_46 (fun _ m46 => (show zG P G _ _ 49 _ _ from ?_))
      refine z_iconst ok (0 : Int32) dX11_addRule_49 (by decide) (show zG P G _ _ 50 _ _ from ?_)
      refine z_istore_n0 ok [(1, .int (0 : Int32)), (0, .ref a0)] dX11_addRule_50 (by decide) rfl (show zG P G _ _ 51 _ _ from ?_)
      exact z_sub [1, 0] [(0, .ref a0), (1, .int (0 : Int32))] rfl (t_X11_addRule_b51 ok zfuel _ _ _ h_a0)
    · refine z_bipush ok (-3 : Int32) dX11_addRule_42 (by decide) (show zG P G _ _ 44 _ _ from ?_)
      exact z_iret ok dX11_addRule_44
  · refine z_bipush ok (-100 : Int32) dX11_addRule_21 (by decide) (show zG P G _ _ 23 _ _ from ?_)
    refine z_aload_n ok 0 dX11_addRule_23 rfl (show zG P G _ _ 24 _ _ from ?_)
    refine z_get ok fd_213 h_a0 (Or.inl rfl) tf_X11_80 dX11_addRule_24 (show zG P G _ _ 27 _ _ from ?_)
    refine z_isub ok dX11_addRule_27 (show zG P G _ _ 28 _ _ from ?_)
    exact z_iret ok dX11_addRule_28
set_option maxRecDepth 100000 in
set_option maxHeartbeats 4000000 in
theorem m_X11_isRule (l : Launch) {P : zSt} (hP : zOKP P) {a0 : Nat} {i1 : Int32} (h_a0 : zT P 10 a0) : zMet l P yX11_isRule cX11_isRule 2 1 22 (some .boolean) [.ref a0, .int i1] (fun m => f_X11_isRule P a0 i1 m) := by
  refine zMet.of hP (by decide +kernel) RX11 rfl [(0, .ref a0), (1, .int i1)] (fun h => h) (Nat.le_of_ble_eq_true rfl) (fun G m ok => ?_)
  show zG P G (f_X11_isRule P a0 i1 m) m 0 _ []
  unfold f_X11_isRule
  refine z_iload_n ok 1 dX11_isRule_0 rfl (show zG P G _ _ 1 _ _ from ?_)
  refine z_iconst ok (0 : Int32) dX11_isRule_1 (by decide) (show zG P G _ _ 2 _ _ from ?_)
  refine z_aload_n ok 0 dX11_isRule_2 rfl (show zG P G _ _ 3 _ _ from ?_)
  refine z_getR ok fd_200 h_a0 (Or.inl rfl) tf_X11_9 dX11_isRule_3 (fun b3 h_b3 => (show zG P G _ _ 6 _ _ from ?_))
  refine z_sipush ok (230 : Int32) dX11_isRule_6 (by decide) (show zG P G _ _ 9 _ _ from ?_)
  refine z_iald ok h_b3 dX11_isRule_9 (show zG P G _ _ 10 _ _ from ?_)
  refine z_iconst ok (1 : Int32) dX11_isRule_10 (by decide) (show zG P G _ _ 11 _ _ from ?_)
  refine z_isub ok dX11_isRule_11 (show zG P G _ _ 12 _ _ from ?_)
  refine z_callSi ok [.int i1, .int (0 : Int32), .int ((za m b3 (230 : Int32).toNatClampNeg) - (1 : Int32))] (m_X11_isIn _ ok.p) cv_X11_44 rfl (by decide) rfl (Nat.le_of_ble_eq_true rfl) rfl dX11_isRule_12 (fun r12 m12 => (show zG P G _ _ 15 _ _ from ?_))
  exact z_zret ok dX11_isRule_15
set_option maxRecDepth 100000 in
set_option maxHeartbeats 4000000 in
theorem t_X11_removeRule_b35 {P : zSt} {G : zC} (ok : zOK P G RX11 cX11_removeRule 3 2 43 (some .int))  : ∀ (n : Nat) (a0 : Nat) (x2 : Int32) (m : zM) (h_a0 : zT P 10 a0), zG P G (f_X11_removeRule_b35 P n a0 x2 m) m 35 [(0, .ref a0), (2, .int x2)] [] := by
  intro n
  induction n with
  | zero =>
    intros
    exact zG_none
  | succ n ih =>
    intro a0 x2 m h_a0
    unfold f_X11_removeRule_b35
    have hr_35 := ih
    refine z_iload_n ok 1 dX11_removeRule_35 rfl (show zG P G _ _ 36 _ _ from ?_)
    refine z_sipush ok (231 : Int32) dX11_removeRule_36 (by decide) (show zG P G _ _ 39 _ _ from ?_)
    refine z_bipush ok (58 : Int32) dX11_removeRule_39 (by decide) (show zG P G _ _ 41 _ _ from ?_)
    refine z_aload_n ok 0 dX11_removeRule_41 rfl (show zG P G _ _ 42 _ _ from ?_)
    refine z_getR ok fd_200 h_a0 (Or.inl rfl) tf_X11_9 dX11_removeRule_42 (fun b42 h_b42 => (show zG P G _ _ 45 _ _ from ?_))
    refine z_sipush ok (230 : Int32) dX11_removeRule_45 (by decide) (show zG P G _ _ 48 _ _ from ?_)
    refine z_iald ok h_b42 dX11_removeRule_48 (show zG P G _ _ 49 _ _ from ?_)
    refine z_imul ok dX11_removeRule_49 (show zG P G _ _ 50 _ _ from ?_)
    refine z_iadd ok dX11_removeRule_50 (show zG P G _ _ 51 _ _ from ?_)
    refine z_icmp_ge ok 75 dX11_removeRule_51 (by decide) ?_ (show zG P G _ _ 54 _ _ from ?_)
    · refine z_aload_n ok 0 dX11_removeRule_75 rfl (show zG P G _ _ 76 _ _ from ?_)
      refine z_getR ok fd_200 h_a0 (Or.inl rfl) tf_X11_9 dX11_removeRule_76 (fun b76 h_b76 => (show zG P G _ _ 79 _ _ from ?_))
      refine z_sipush ok (230 : Int32) dX11_removeRule_79 (by decide) (show zG P G _ _ 82 _ _ from ?_)
      refine z_iald ok h_b76 dX11_removeRule_82 (show zG P G _ _ 83 _ _ from ?_)
      exact z_iret ok dX11_removeRule_83
    · refine z_aload_n ok 0 dX11_removeRule_54 rfl (show zG P G _ _ 55 _ _ from ?_)
      refine z_getR ok fd_200 h_a0 (Or.inl rfl) tf_X11_9 dX11_removeRule_55 (fun b55 h_b55 => (show zG P G _ _ 58 _ _ from ?_))
      refine z_iload_n ok 1 dX11_removeRule_58 rfl (show zG P G _ _ 59 _ _ from ?_)
      refine z_aload_n ok 0 dX11_removeRule_59 rfl (show zG P G _ _ 60 _ _ from ?_)
      refine z_getR ok fd_200 h_a0 (Or.inl rfl) tf_X11_9 dX11_removeRule_60 (fun b60 h_b60 => (show zG P G _ _ 63 _ _ from ?_))
      refine z_iload_n ok 1 dX11_removeRule_63 rfl (show zG P G _ _ 64 _ _ from ?_)
      refine z_bipush ok (58 : Int32) dX11_removeRule_64 (by decide) (show zG P G _ _ 66 _ _ from ?_)
      refine z_iadd ok dX11_removeRule_66 (show zG P G _ _ 67 _ _ from ?_)
      refine z_iald ok h_b60 dX11_removeRule_67 (show zG P G _ _ 68 _ _ from ?_)
      refine z_iast ok h_b55 dX11_removeRule_68 (fun m68 => (show zG P G _ _ 69 _ _ from ?_))
      refine z_iinc ok (fun v69 => [(2, .int v69), (0, .ref a0)]) 1 dX11_removeRule_69 rfl (by decide) (by decide) (fun _ => rfl) (fun v69 => (show zG P G _ _ 72 _ _ from ?_))
      refine z_goto ok 35 dX11_removeRule_72 (by decide) ?_
      exact z_sub [1, 0] [(0, .ref a0), (2, .int v69)] rfl (hr_35 _ _ _ h_a0)
set_option maxRecDepth 100000 in
set_option maxHeartbeats 4000000 in
theorem m_X11_removeRule (l : Launch) {P : zSt} (hP : zOKP P) {a0 : Nat} {i1 : Int32} (h_a0 : zT P 10 a0) : zMet l P yX11_removeRule cX11_removeRule 3 2 43 (some .int) [.ref a0, .int i1] (fun m => f_X11_removeRule P a0 i1 m) := by
  refine zMet.of hP (by decide +kernel) RX11 rfl [(0, .ref a0), (1, .int i1)] (fun h => h) (Nat.le_of_ble_eq_true rfl) (fun G m ok => ?_)
  show zG P G (f_X11_removeRule P a0 i1 m) m 0 _ []
  unfold f_X11_removeRule
  refine z_aload_n ok 0 dX11_removeRule_0 rfl (show zG P G _ _ 1 _ _ from ?_)
  refine z_iload_n ok 1 dX11_removeRule_1 rfl (show zG P G _ _ 2 _ _ from ?_)
  refine z_callVi ok [.int i1] (m_X11_isRule _ ok.p h_a0) cv_X11_103 h_a0 rfl (by decide) rfl (Nat.le_of_ble_eq_true rfl) rfl dX11_removeRule_2 (fun r2 m2 => (show zG P G _ _ 5 _ _ from ?_))
  refine z_if_ne ok 10 dX11_removeRule_5 (by decide) ?_ (show zG P G _ _ 8 _ _ from ?_)
  · refine z_aload_n ok 0 dX11_removeRule_10 rfl (show zG P G _ _ 11 _ _ from ?_)
    refine z_callVv ok [] (m_X11_changes _ ok.p h_a0) cv_X11_55 h_a0 rfl (by decide) rfl (Nat.le_of_ble_eq_true rfl) rfl dX11_removeRule_11 (fun _ m11 => (show zG P G _ _ 14 _ _ from ?_))
    refine z_aload_n ok 0 dX11_removeRule_14 rfl (show zG P G _ _ 15 _ _ from ?_)
    refine z_getR ok fd_200 h_a0 (Or.inl rfl) tf_X11_9 dX11_removeRule_15 (fun b15 h_b15 => (show zG P G _ _ 18 _ _ from ?_))
    refine z_sipush ok (230 : Int32) dX11_removeRule_18 (by decide) (show zG P G _ _ 21 _ _ from ?_)
    refine z_dup2 ok dX11_removeRule_21 rfl rfl (show zG P G _ _ 22 _ _ from ?_)
    refine z_iald ok h_b15 dX11_removeRule_22 (show zG P G _ _ 23 _ _ from ?_)
    refine z_iconst ok (1 : Int32) dX11_removeRule_23 (by decide) (show zG P G _ _ 24 _ _ from ?_)
    refine z_isub ok dX11_removeRule_24 (show zG P G _ _ 25 _ _ from ?_)
    refine z_iast ok h_b15 dX11_removeRule_25 (fun m25 => (show zG P G _ _ 26 _ _ from ?_))
    refine z_sipush ok (231 : Int32) dX11_removeRule_26 (by decide) (show zG P G _ _ 29 _ _ from ?_)
    refine z_bipush ok (58 : Int32) dX11_removeRule_29 (by decide) (show zG P G _ _ 31 _ _ from ?_)
    refine z_iload_n ok 1 dX11_removeRule_31 rfl (show zG P G _ _ 32 _ _ from ?_)
    refine z_imul ok dX11_removeRule_32 (show zG P G _ _ 33 _ _ from ?_)
    refine z_iadd ok dX11_removeRule_33 (show zG P G _ _ 34 _ _ from ?_)
    refine z_istore_n ok (fun v34 => [(2, .int v34), (0, .ref a0), (1, .int i1)]) dX11_removeRule_34 (by decide) (fun _ => rfl) (fun v34 => (show zG P G _ _ 35 _ _ from ?_))
    exact z_sub [1, 0] [(0, .ref a0), (2, .int v34)] rfl (t_X11_removeRule_b35 ok zfuel _ _ _ h_a0)
  · refine z_iconst ok (-1 : Int32) dX11_removeRule_8 (by decide) (show zG P G _ _ 9 _ _ from ?_)
    exact z_iret ok dX11_removeRule_9
set_option maxRecDepth 100000 in
set_option maxHeartbeats 4000000 in
theorem t_X11_swaps_b9 {P : zSt} {G : zC} (ok : zOK P G RX11 cX11_swaps 4 0 0 none)  : ∀ (n : Nat) (a0 : Nat) (x1 : Int32) (x2 : Int32) (m : zM) (h_a0 : zT P 10 a0), zG P G (f_X11_swaps_b9 P n a0 x1 x2 m) m 9 [(0, .ref a0), (1, .int x1), (2, .int x2)] [] := by
  intro n
  induction n with
  | zero =>
    intros
    exact zG_none
  | succ n ih =>
    intro a0 x1 x2 m h_a0
    unfold f_X11_swaps_b9
    have hr_9 := ih
    refine z_iload_n ok 2 dX11_swaps_9 rfl (show zG P G _ _ 10 _ _ from ?_)
    refine z_sipush ok (231 : Int32) dX11_swaps_10 (by decide) (show zG P G _ _ 13 _ _ from ?_)
    refine z_bipush ok (58 : Int32) dX11_swaps_13 (by decide) (show zG P G _ _ 15 _ _ from ?_)
    refine z_iload_n ok 1 dX11_swaps_15 rfl (show zG P G _ _ 16 _ _ from ?_)
    refine z_iconst ok (1 : Int32) dX11_swaps_16 (by decide) (show zG P G _ _ 17 _ _ from ?_)
    refine z_iadd ok dX11_swaps_17 (show zG P G _ _ 18 _ _ from ?_)
    refine z_imul ok dX11_swaps_18 (show zG P G _ _ 19 _ _ from ?_)
    refine z_iadd ok dX11_swaps_19 (show zG P G _ _ 20 _ _ from ?_)
    refine z_icmp_ge ok 61 dX11_swaps_20 (by decide) ?_ (show zG P G _ _ 23 _ _ from ?_)
    · exact z_vret ok dX11_swaps_61
    · refine z_aload_n ok 0 dX11_swaps_23 rfl (show zG P G _ _ 24 _ _ from ?_)
      refine z_getR ok fd_200 h_a0 (Or.inl rfl) tf_X11_9 dX11_swaps_24 (fun b24 h_b24 => (show zG P G _ _ 27 _ _ from ?_))
      refine z_iload_n ok 2 dX11_swaps_27 rfl (show zG P G _ _ 28 _ _ from ?_)
      refine z_iald ok h_b24 dX11_swaps_28 (show zG P G _ _ 29 _ _ from ?_)
      refine z_istore_n ok (fun v29 => [(3, .int v29), (0, .ref a0), (1, .int x1), (2, .int x2)]) dX11_swaps_29 (by decide) (fun _ => rfl) (fun v29 => (show zG P G _ _ 30 _ _ from ?_))
      refine z_aload_n ok 1 dX11_swaps_30 rfl (show zG P G _ _ 31 _ _ from ?_)
      refine z_getR ok fd_200 h_a0 (Or.inl rfl) tf_X11_9 dX11_swaps_31 (fun b31 h_b31 => (show zG P G _ _ 34 _ _ from ?_))
      refine z_iload_n ok 3 dX11_swaps_34 rfl (show zG P G _ _ 35 _ _ from ?_)
      refine z_aload_n ok 1 dX11_swaps_35 rfl (show zG P G _ _ 36 _ _ from ?_)
      refine z_getR ok fd_200 h_a0 (Or.inl rfl) tf_X11_9 dX11_swaps_36 (fun b36 h_b36 => (show zG P G _ _ 39 _ _ from ?_))
      refine z_iload_n ok 3 dX11_swaps_39 rfl (show zG P G _ _ 40 _ _ from ?_)
      refine z_bipush ok (58 : Int32) dX11_swaps_40 (by decide) (show zG P G _ _ 42 _ _ from ?_)
      refine z_iadd ok dX11_swaps_42 (show zG P G _ _ 43 _ _ from ?_)
      refine z_iald ok h_b36 dX11_swaps_43 (show zG P G _ _ 44 _ _ from ?_)
      refine z_iast ok h_b31 dX11_swaps_44 (fun m44 => (show zG P G _ _ 45 _ _ from ?_))
      refine z_aload_n ok 1 dX11_swaps_45 rfl (show zG P G _ _ 46 _ _ from ?_)
      refine z_getR ok fd_200 h_a0 (Or.inl rfl) tf_X11_9 dX11_swaps_46 (fun b46 h_b46 => (show zG P G _ _ 49 _ _ from ?_))
      refine z_iload_n ok 3 dX11_swaps_49 rfl (show zG P G _ _ 50 _ _ from ?_)
      refine z_bipush ok (58 : Int32) dX11_swaps_50 (by decide) (show zG P G _ _ 52 _ _ from ?_)
      refine z_iadd ok dX11_swaps_52 (show zG P G _ _ 53 _ _ from ?_)
      refine z_iload_n ok 0 dX11_swaps_53 rfl (show zG P G _ _ 54 _ _ from ?_)
      refine z_iast ok h_b46 dX11_swaps_54 (fun m54 => (show zG P G _ _ 55 _ _ from ?_))
      refine z_iinc ok (fun v55 => [(2, .int v55), (3, .int v29), (0, .ref a0), (1, .int x1)]) 3 dX11_swaps_55 rfl (by decide) (by decide) (fun _ => rfl) (fun v55 => (show zG P G _ _ 58 _ _ from ?_))
      refine z_goto ok 9 dX11_swaps_58 (by decide) ?_
      exact z_sub [2, 3, 0] [(0, .ref a0), (1, .int x1), (2, .int v55)] rfl (hr_9 _ _ _ _ h_a0)
set_option maxRecDepth 100000 in
set_option maxHeartbeats 4000000 in
theorem m_X11_swaps (l : Launch) {P : zSt} (hP : zOKP P) {a0 : Nat} {i1 : Int32} (h_a0 : zT P 10 a0) : zMet l P yX11_swaps cX11_swaps 4 0 0 none [.ref a0, .int i1] (fun m => f_X11_swaps P a0 i1 m) := by
  refine zMet.of hP (by decide +kernel) RX11 rfl [(0, .ref a0), (1, .int i1)] (fun h => h) (Nat.le_of_ble_eq_true rfl) (fun G m ok => ?_)
  show zG P G (f_X11_swaps P a0 i1 m) m 0 _ []
  unfold f_X11_swaps
  refine z_sipush ok (231 : Int32) dX11_swaps_0 (by decide) (show zG P G _ _ 3 _ _ from ?_)
  refine z_bipush ok (58 : Int32) dX11_swaps_3 (by decide) (show zG P G _ _ 5 _ _ from ?_)
  refine z_iload_n ok 1 dX11_swaps_5 rfl (show zG P G _ _ 6 _ _ from ?_)
  refine z_imul ok dX11_swaps_6 (show zG P G _ _ 7 _ _ from ?_)
  refine z_iadd ok dX11_swaps_7 (show zG P G _ _ 8 _ _ from ?_)
  refine z_istore_n ok (fun v8 => [(2, .int v8), (0, .ref a0), (1, .int i1)]) dX11_swaps_8 (by decide) (fun _ => rfl) (fun v8 => (show zG P G _ _ 9 _ _ from ?_))
  exact z_sub [1, 2, 0] [(0, .ref a0), (1, .int i1), (2, .int v8)] rfl (t_X11_swaps_b9 ok zfuel _ _ _ _ h_a0)
set_option maxRecDepth 100000 in
set_option maxHeartbeats 4000000 in
theorem t_X11_moveRule_b47 {P : zSt} {G : zC} (ok : zOK P G RX11 cX11_moveRule 4 2 43 (some .int))  : ∀ (n : Nat) (a0 : Nat) (x1 : Int32) (x2 : Int32) (x3 : Int32) (m : zM) (h_a0 : zT P 10 a0), zG P G (f_X11_moveRule_b47 P n a0 x1 x2 x3 m) m 47 [(0, .ref a0), (1, .int x1), (2, .int x2), (3, .int x3)] [] := by
  intro n
  induction n with
  | zero =>
    intros
    exact zG_none
  | succ n ih =>
    intro a0 x1 x2 x3 m h_a0
    unfold f_X11_moveRule_b47
    have hr_47 := ih
    refine z_iload_n ok 3 dX11_moveRule_47 rfl (show zG P G _ _ 48 _ _ from ?_)
    refine z_iload_n ok 2 dX11_moveRule_48 rfl (show zG P G _ _ 49 _ _ from ?_)
    refine z_icmp_lt ok 63 dX11_moveRule_49 (by decide) ?_ (show zG P G _ _ 52 _ _ from ?_)
    · refine z_iload_n ok 1 dX11_moveRule_63 rfl (show zG P G _ _ 64 _ _ from ?_)
      refine z_iload_n ok 2 dX11_moveRule_64 rfl (show zG P G _ _ 65 _ _ from ?_)
      refine z_icmp_le ok 74 dX11_moveRule_65 (by decide) ?_ (show zG P G _ _ 68 _ _ from ?_)
      · refine z_iload_n ok 2 dX11_moveRule_74 rfl (show zG P G _ _ 75 _ _ from ?_)
        refine z_iload_n ok 1 dX11_moveRule_75 rfl (show zG P G _ _ 76 _ _ from ?_)
        refine z_isub ok dX11_moveRule_76 (show zG P G _ _ 77 _ _ from ?_)
        exact z_iret ok dX11_moveRule_77
      · refine z_iload_n ok 1 dX11_moveRule_68 rfl (show zG P G _ _ 69 _ _ from ?_)
        refine z_iload_n ok 2 dX11_moveRule_69 rfl (show zG P G _ _ 70 _ _ from ?_)
        refine z_isub ok dX11_moveRule_70 (show zG P G _ _ 71 _ _ from ?_)
        refine z_goto ok 77 dX11_moveRule_71 (by decide) ?_
        exact z_iret ok dX11_moveRule_77
    · refine z_aload_n ok 0 dX11_moveRule_52 rfl (show zG P G _ _ 53 _ _ from ?_)
      refine z_iload_n ok 3 dX11_moveRule_53 rfl (show zG P G _ _ 54 _ _ from ?_)
      refine z_callVv ok [.int x3] (m_X11_swaps _ ok.p h_a0) cv_X11_106 h_a0 rfl (by decide) rfl (Nat.le_of_ble_eq_true rfl) rfl dX11_moveRule_54 (fun _ m54 => (show zG P G _ _ 57 _ _ from ?_))
      refine z_iinc ok (fun v57 => [(3, .int v57), (0, .ref a0), (1, .int x1), (2, .int x2)]) 3 dX11_moveRule_57 rfl (by decide) (by decide) (fun _ => rfl) (fun v57 => (show zG P G _ _ 60 _ _ from ?_))
      refine z_goto ok 47 dX11_moveRule_60 (by decide) ?_
      exact z_sub [1, 2, 3, 0] [(0, .ref a0), (1, .int x1), (2, .int x2), (3, .int v57)] rfl (hr_47 _ _ _ _ _ h_a0)
set_option maxRecDepth 100000 in
set_option maxHeartbeats 4000000 in
theorem t_X11_moveRule_b27 {P : zSt} {G : zC} (ok : zOK P G RX11 cX11_moveRule 4 2 43 (some .int))  : ∀ (n : Nat) (a0 : Nat) (x1 : Int32) (x2 : Int32) (x3 : Int32) (m : zM) (h_a0 : zT P 10 a0), zG P G (f_X11_moveRule_b27 P n a0 x1 x2 x3 m) m 27 [(0, .ref a0), (1, .int x1), (2, .int x2), (3, .int x3)] [] := by
  intro n
  induction n with
  | zero =>
    intros
    exact zG_none
  | succ n ih =>
    intro a0 x1 x2 x3 m h_a0
    unfold f_X11_moveRule_b27
    have hr_27 := ih
    refine z_iload_n ok 3 dX11_moveRule_27 rfl (show zG P G _ _ 28 _ _ from ?_)
    refine z_iload_n ok 2 dX11_moveRule_28 rfl (show zG P G _ _ 29 _ _ from ?_)
    refine z_icmp_ge ok 43 dX11_moveRule_29 (by decide) ?_ (show zG P G _ _ 32 _ _ from ?_)
    · refine z_iload_n ok 1 dX11_moveRule_43 rfl (show zG P G _ _ 44 _ _ from ?_)
      refine z_iconst ok (1 : Int32) dX11_moveRule_44 (by decide) (show zG P G _ _ 45 _ _ from ?_)
      refine z_isub ok dX11_moveRule_45 (show zG P G _ _ 46 _ _ from ?_)
      refine z_istore_n ok (fun v46 => [(3, .int v46), (0, .ref a0), (1, .int x1), (2, .int x2)]) dX11_moveRule_46 (by decide) (fun _ => rfl) (fun v46 => (show zG P G _ _ 47 _ _ from ?_))
      exact z_sub [1, 2, 3, 0] [(0, .ref a0), (1, .int x1), (2, .int x2), (3, .int v46)] rfl (t_X11_moveRule_b47 ok zfuel _ _ _ _ _ h_a0)
    · refine z_aload_n ok 0 dX11_moveRule_32 rfl (show zG P G _ _ 33 _ _ from ?_)
      refine z_iload_n ok 3 dX11_moveRule_33 rfl (show zG P G _ _ 34 _ _ from ?_)
      refine z_callVv ok [.int x3] (m_X11_swaps _ ok.p h_a0) cv_X11_106 h_a0 rfl (by decide) rfl (Nat.le_of_ble_eq_true rfl) rfl dX11_moveRule_34 (fun _ m34 => (show zG P G _ _ 37 _ _ from ?_))
      refine z_iinc ok (fun v37 => [(3, .int v37), (0, .ref a0), (1, .int x1), (2, .int x2)]) 3 dX11_moveRule_37 rfl (by decide) (by decide) (fun _ => rfl) (fun v37 => (show zG P G _ _ 40 _ _ from ?_))
      refine z_goto ok 27 dX11_moveRule_40 (by decide) ?_
      exact z_sub [1, 2, 3, 0] [(0, .ref a0), (1, .int x1), (2, .int x2), (3, .int v37)] rfl (hr_27 _ _ _ _ _ h_a0)
set_option maxRecDepth 100000 in
set_option maxHeartbeats 4000000 in
theorem m_X11_moveRule (l : Launch) {P : zSt} (hP : zOKP P) {a0 : Nat} {i1 : Int32} {i2 : Int32} (h_a0 : zT P 10 a0) : zMet l P yX11_moveRule cX11_moveRule 4 2 43 (some .int) [.ref a0, .int i1, .int i2] (fun m => f_X11_moveRule P a0 i1 i2 m) := by
  refine zMet.of hP (by decide +kernel) RX11 rfl [(0, .ref a0), (1, .int i1), (2, .int i2)] (fun h => h) (Nat.le_of_ble_eq_true rfl) (fun G m ok => ?_)
  show zG P G (f_X11_moveRule P a0 i1 i2 m) m 0 _ []
  unfold f_X11_moveRule
  refine z_aload_n ok 0 dX11_moveRule_0 rfl (show zG P G _ _ 1 _ _ from ?_)
  refine z_iload_n ok 1 dX11_moveRule_1 rfl (show zG P G _ _ 2 _ _ from ?_)
  refine z_callVi ok [.int i1] (m_X11_isRule _ ok.p h_a0) cv_X11_103 h_a0 rfl (by decide) rfl (Nat.le_of_ble_eq_true rfl) rfl dX11_moveRule_2 (fun r2 m2 => (show zG P G _ _ 5 _ _ from ?_))
  refine z_if_ne ok 10 dX11_moveRule_5 (by decide) ?_ (show zG P G _ _ 8 _ _ from ?_)
  · refine z_aload_n ok 0 dX11_moveRule_10 rfl (show zG P G _ _ 11 _ _ from ?_)
    refine z_iload_n ok 2 dX11_moveRule_11 rfl (show zG P G _ _ 12 _ _ from ?_)
    refine z_callVi ok [.int i2] (m_X11_isRule _ ok.p h_a0) cv_X11_103 h_a0 rfl (by decide) rfl (Nat.le_of_ble_eq_true rfl) rfl dX11_moveRule_12 (fun r12 m12 => (show zG P G _ _ 15 _ _ from ?_))
    refine z_if_ne ok 21 dX11_moveRule_15 (by decide) ?_ (show zG P G _ _ 18 _ _ from ?_)
    · refine z_aload_n ok 0 dX11_moveRule_21 rfl (show zG P G _ _ 22 _ _ from ?_)
      refine z_callVv ok [] (m_X11_changes _ ok.p h_a0) cv_X11_55 h_a0 rfl (by decide) rfl (Nat.le_of_ble_eq_true rfl) rfl dX11_moveRule_22 (fun _ m22 => (show zG P G _ _ 25 _ _ from ?_))
      refine z_iload_n ok 1 dX11_moveRule_25 rfl (show zG P G _ _ 26 _ _ from ?_)
      refine z_istore_n0 ok [(3, .int i1), (0, .ref a0), (1, .int i1), (2, .int i2)] dX11_moveRule_26 (by decide) rfl (show zG P G _ _ 27 _ _ from ?_)
      exact z_sub [1, 2, 3, 0] [(0, .ref a0), (1, .int i1), (2, .int i2), (3, .int i1)] rfl (t_X11_moveRule_b27 ok zfuel _ _ _ _ _ h_a0)
    · refine z_bipush ok (-2 : Int32) dX11_moveRule_18 (by decide) (show zG P G _ _ 20 _ _ from ?_)
      exact z_iret ok dX11_moveRule_20
  · refine z_iconst ok (-1 : Int32) dX11_moveRule_8 (by decide) (show zG P G _ _ 9 _ _ from ?_)
    exact z_iret ok dX11_moveRule_9
set_option maxRecDepth 100000 in
set_option maxHeartbeats 4000000 in
theorem t_X11_fits_b47 {P : zSt} {G : zC} (ok : zOK P G RX11 cX11_fits 5 1 22 (some .boolean))   {m : zM}  : zG P G (f_X11_fits_b47 P  m) m 47 [] [] := by
  unfold f_X11_fits_b47
  refine z_iconst ok (0 : Int32) dX11_fits_47 (by decide) (show zG P G _ _ 48 _ _ from ?_)
  exact z_zret ok dX11_fits_48
set_option maxRecDepth 100000 in
set_option maxHeartbeats 4000000 in
theorem t_X11_fits_b52 {P : zSt} {G : zC} (ok : zOK P G RX11 cX11_fits 5 1 22 (some .boolean))  : ∀ (n : Nat) (a0 : Nat) (x3 : Int32) (x4 : Int32) (m : zM) (h_a0 : zT P 10 a0), zG P G (f_X11_fits_b52 P n a0 x3 x4 m) m 52 [(0, .ref a0), (3, .int x3), (4, .int x4)] [] := by
  intro n
  induction n with
  | zero =>
    intros
    exact zG_none
  | succ n ih =>
    intro a0 x3 x4 m h_a0
    unfold f_X11_fits_b52
    have hr_52 := ih
    refine z_iload ok 2 dX11_fits_52 rfl (show zG P G _ _ 54 _ _ from ?_)
    refine z_aload_n ok 0 dX11_fits_54 rfl (show zG P G _ _ 55 _ _ from ?_)
    refine z_getR ok fd_200 h_a0 (Or.inl rfl) tf_X11_9 dX11_fits_55 (fun b55 h_b55 => (show zG P G _ _ 58 _ _ from ?_))
    refine z_iload_n ok 1 dX11_fits_58 rfl (show zG P G _ _ 59 _ _ from ?_)
    refine z_iald ok h_b55 dX11_fits_59 (show zG P G _ _ 60 _ _ from ?_)
    refine z_icmp_ge ok 92 dX11_fits_60 (by decide) ?_ (show zG P G _ _ 63 _ _ from ?_)
    · refine z_iconst ok (1 : Int32) dX11_fits_92 (by decide) (show zG P G _ _ 93 _ _ from ?_)
      exact z_zret ok dX11_fits_93
    · refine z_aload_n ok 0 dX11_fits_63 rfl (show zG P G _ _ 64 _ _ from ?_)
      refine z_getR ok fd_200 h_a0 (Or.inl rfl) tf_X11_9 dX11_fits_64 (fun b64 h_b64 => (show zG P G _ _ 67 _ _ from ?_))
      refine z_iload_n ok 1 dX11_fits_67 rfl (show zG P G _ _ 68 _ _ from ?_)
      refine z_iconst ok (1 : Int32) dX11_fits_68 (by decide) (show zG P G _ _ 69 _ _ from ?_)
      refine z_iadd ok dX11_fits_69 (show zG P G _ _ 70 _ _ from ?_)
      refine z_iload ok 2 dX11_fits_70 rfl (show zG P G _ _ 72 _ _ from ?_)
      refine z_iadd ok dX11_fits_72 (show zG P G _ _ 73 _ _ from ?_)
      refine z_iald ok h_b64 dX11_fits_73 (show zG P G _ _ 74 _ _ from ?_)
      refine z_aload_n ok 0 dX11_fits_74 rfl (show zG P G _ _ 75 _ _ from ?_)
      refine z_getR ok fd_206 h_a0 (Or.inl rfl) tf_X11_22 dX11_fits_75 (fun b75 h_b75 => (show zG P G _ _ 78 _ _ from ?_))
      refine z_iload ok 2 dX11_fits_78 rfl (show zG P G _ _ 80 _ _ from ?_)
      refine z_iald ok h_b75 dX11_fits_80 (show zG P G _ _ 81 _ _ from ?_)
      refine z_icmp_eq ok 86 dX11_fits_81 (by decide) ?_ (show zG P G _ _ 84 _ _ from ?_)
      · refine z_iinc ok (fun v86 => [(4, .int v86), (0, .ref a0), (3, .int x3)]) 2 dX11_fits_86 rfl (by decide) (by decide) (fun _ => rfl) (fun v86 => (show zG P G _ _ 89 _ _ from ?_))
        refine z_goto ok 52 dX11_fits_89 (by decide) ?_
        exact z_sub [1, 2, 0] [(0, .ref a0), (3, .int x3), (4, .int v86)] rfl (hr_52 _ _ _ _ h_a0)
      · refine z_iconst ok (0 : Int32) dX11_fits_84 (by decide) (show zG P G _ _ 85 _ _ from ?_)
        exact z_zret ok dX11_fits_85
set_option maxRecDepth 100000 in
set_option maxHeartbeats 4000000 in
theorem m_X11_fits (l : Launch) {P : zSt} (hP : zOKP P) {a0 : Nat} {i1 : Int32} {i2 : Int32} (h_a0 : zT P 10 a0) : zMet l P yX11_fits cX11_fits 5 1 22 (some .boolean) [.ref a0, .int i1, .int i2] (fun m => f_X11_fits P a0 i1 i2 m) := by
  refine zMet.of hP (by decide +kernel) RX11 rfl [(0, .ref a0), (1, .int i1), (2, .int i2)] (fun h => h) (Nat.le_of_ble_eq_true rfl) (fun G m ok => ?_)
  show zG P G (f_X11_fits P a0 i1 i2 m) m 0 _ []
  unfold f_X11_fits
  refine z_sipush ok (231 : Int32) dX11_fits_0 (by decide) (show zG P G _ _ 3 _ _ from ?_)
  refine z_bipush ok (58 : Int32) dX11_fits_3 (by decide) (show zG P G _ _ 5 _ _ from ?_)
  refine z_iload_n ok 1 dX11_fits_5 rfl (show zG P G _ _ 6 _ _ from ?_)
  refine z_imul ok dX11_fits_6 (show zG P G _ _ 7 _ _ from ?_)
  refine z_iadd ok dX11_fits_7 (show zG P G _ _ 8 _ _ from ?_)
  refine z_istore_n ok (fun v8 => [(3, .int v8), (0, .ref a0), (1, .int i1), (2, .int i2)]) dX11_fits_8 (by decide) (fun _ => rfl) (fun v8 => (show zG P G _ _ 9 _ _ from ?_))
  refine z_aload_n ok 1 dX11_fits_9 rfl (show zG P G _ _ 10 _ _ from ?_)
  refine z_getR ok fd_200 h_a0 (Or.inl rfl) tf_X11_9 dX11_fits_10 (fun b10 h_b10 => (show zG P G _ _ 13 _ _ from ?_))
  refine z_iload_n ok 0 dX11_fits_13 rfl (show zG P G _ _ 14 _ _ from ?_)
  refine z_iald ok h_b10 dX11_fits_14 (show zG P G _ _ 15 _ _ from ?_)
  refine z_aload_n ok 1 dX11_fits_15 rfl (show zG P G _ _ 16 _ _ from ?_)
  refine z_get ok fd_207 h_a0 (Or.inl rfl) tf_X11_74 dX11_fits_16 (show zG P G _ _ 19 _ _ from ?_)
  refine z_icmp_gt ok 47 dX11_fits_19 (by decide) ?_ (show zG P G _ _ 22 _ _ from ?_)
  · exact z_sub [] [] rfl (t_X11_fits_b47 ok)
  · refine z_iload_n ok 3 dX11_fits_22 rfl (show zG P G _ _ 23 _ _ from ?_)
    refine z_aload_n ok 1 dX11_fits_23 rfl (show zG P G _ _ 24 _ _ from ?_)
    refine z_getR ok fd_200 h_a0 (Or.inl rfl) tf_X11_9 dX11_fits_24 (fun b24 h_b24 => (show zG P G _ _ 27 _ _ from ?_))
    refine z_iload_n ok 0 dX11_fits_27 rfl (show zG P G _ _ 28 _ _ from ?_)
    refine z_bipush ok (41 : Int32) dX11_fits_28 (by decide) (show zG P G _ _ 30 _ _ from ?_)
    refine z_iadd ok dX11_fits_30 (show zG P G _ _ 31 _ _ from ?_)
    refine z_iald ok h_b24 dX11_fits_31 (show zG P G _ _ 32 _ _ from ?_)
    refine z_aload_n ok 1 dX11_fits_32 rfl (show zG P G _ _ 33 _ _ from ?_)
    refine z_getR ok fd_200 h_a0 (Or.inl rfl) tf_X11_9 dX11_fits_33 (fun b33 h_b33 => (show zG P G _ _ 36 _ _ from ?_))
    refine z_iload_n ok 0 dX11_fits_36 rfl (show zG P G _ _ 37 _ _ from ?_)
    refine z_bipush ok (42 : Int32) dX11_fits_37 (by decide) (show zG P G _ _ 39 _ _ from ?_)
    refine z_iadd ok dX11_fits_39 (show zG P G _ _ 40 _ _ from ?_)
    refine z_iald ok h_b33 dX11_fits_40 (show zG P G _ _ 41 _ _ from ?_)
    refine z_callSi ok [.int i2, .int (za m b24 (v8 + (41 : Int32)).toNatClampNeg), .int (za m b33 (v8 + (42 : Int32)).toNatClampNeg)] (m_X11_isIn _ ok.p) cv_X11_44 rfl (by decide) rfl (Nat.le_of_ble_eq_true rfl) rfl dX11_fits_41 (fun r41 m41 => (show zG P G _ _ 44 _ _ from ?_))
    refine z_if_ne ok 49 dX11_fits_44 (by decide) ?_ (show zG P G _ _ 47 _ _ from ?_)
    · refine z_iconst ok (0 : Int32) dX11_fits_49 (by decide) (show zG P G _ _ 50 _ _ from ?_)
      refine z_istore0 ok [(4, .int (0 : Int32)), (3, .int v8), (0, .ref a0), (1, .int i1), (2, .int i2)] dX11_fits_50 (by decide) rfl (show zG P G _ _ 52 _ _ from ?_)
      exact z_sub [2, 1, 0] [(0, .ref a0), (3, .int v8), (4, .int (0 : Int32))] rfl (t_X11_fits_b52 ok zfuel _ _ _ _ h_a0)
    · exact z_sub [] [] rfl (t_X11_fits_b47 ok)
set_option maxRecDepth 100000 in
set_option maxHeartbeats 4000000 in
theorem t_X11_ruleOf_b29 {P : zSt} {G : zC} (ok : zOK P G RX11 cX11_ruleOf 3 2 46 (some .int))  {a0 : Nat} {x2 : Int32} {m : zM} (h_a0 : zT P 10 a0) : zG P G (f_X11_ruleOf_b29 P a0 x2 m) m 29 [(0, .ref a0), (2, .int x2)] [] := by
  unfold f_X11_ruleOf_b29
  refine z_iload_n ok 1 dX11_ruleOf_29 rfl (show zG P G _ _ 30 _ _ from ?_)
  refine z_aload_n ok 0 dX11_ruleOf_30 rfl (show zG P G _ _ 31 _ _ from ?_)
  refine z_getR ok fd_200 h_a0 (Or.inl rfl) tf_X11_9 dX11_ruleOf_31 (fun b31 h_b31 => (show zG P G _ _ 34 _ _ from ?_))
  refine z_sipush ok (230 : Int32) dX11_ruleOf_34 (by decide) (show zG P G _ _ 37 _ _ from ?_)
  refine z_iald ok h_b31 dX11_ruleOf_37 (show zG P G _ _ 38 _ _ from ?_)
  refine z_icmp_ge ok 45 dX11_ruleOf_38 (by decide) ?_ (show zG P G _ _ 41 _ _ from ?_)
  · refine z_iconst ok (-1 : Int32) dX11_ruleOf_45 (by decide) (show zG P G _ _ 46 _ _ from ?_)
    exact z_iret ok dX11_ruleOf_46
  · refine z_iload_n ok 1 dX11_ruleOf_41 rfl (show zG P G _ _ 42 _ _ from ?_)
    refine z_goto ok 46 dX11_ruleOf_42 (by decide) ?_
    exact z_iret ok dX11_ruleOf_46
set_option maxRecDepth 100000 in
set_option maxHeartbeats 4000000 in
theorem t_X11_ruleOf_b2 {P : zSt} {G : zC} (ok : zOK P G RX11 cX11_ruleOf 3 2 46 (some .int))  : ∀ (n : Nat) (a0 : Nat) (x1 : Int32) (x2 : Int32) (m : zM) (h_a0 : zT P 10 a0), zG P G (f_X11_ruleOf_b2 P n a0 x1 x2 m) m 2 [(0, .ref a0), (1, .int x1), (2, .int x2)] [] := by
  intro n
  induction n with
  | zero =>
    intros
    exact zG_none
  | succ n ih =>
    intro a0 x1 x2 m h_a0
    unfold f_X11_ruleOf_b2
    have hr_2 := ih
    refine z_iload_n ok 2 dX11_ruleOf_2 rfl (show zG P G _ _ 3 _ _ from ?_)
    refine z_aload_n ok 0 dX11_ruleOf_3 rfl (show zG P G _ _ 4 _ _ from ?_)
    refine z_getR ok fd_200 h_a0 (Or.inl rfl) tf_X11_9 dX11_ruleOf_4 (fun b4 h_b4 => (show zG P G _ _ 7 _ _ from ?_))
    refine z_sipush ok (230 : Int32) dX11_ruleOf_7 (by decide) (show zG P G _ _ 10 _ _ from ?_)
    refine z_iald ok h_b4 dX11_ruleOf_10 (show zG P G _ _ 11 _ _ from ?_)
    refine z_icmp_ge ok 29 dX11_ruleOf_11 (by decide) ?_ (show zG P G _ _ 14 _ _ from ?_)
    · exact z_sub [0, 2] [(0, .ref a0), (2, .int x2)] rfl (t_X11_ruleOf_b29 ok h_a0)
    · refine z_aload_n ok 0 dX11_ruleOf_14 rfl (show zG P G _ _ 15 _ _ from ?_)
      refine z_iload_n ok 2 dX11_ruleOf_15 rfl (show zG P G _ _ 16 _ _ from ?_)
      refine z_iload_n ok 1 dX11_ruleOf_16 rfl (show zG P G _ _ 17 _ _ from ?_)
      refine z_callVi ok [.int x2, .int x1] (m_X11_fits _ ok.p h_a0) cv_X11_109 h_a0 rfl (by decide) rfl (Nat.le_of_ble_eq_true rfl) rfl dX11_ruleOf_17 (fun r17 m17 => (show zG P G _ _ 20 _ _ from ?_))
      refine z_if_ne ok 29 dX11_ruleOf_20 (by decide) ?_ (show zG P G _ _ 23 _ _ from ?_)
      · exact z_sub [0, 2] [(0, .ref a0), (2, .int x2)] rfl (t_X11_ruleOf_b29 ok h_a0)
      · refine z_iinc ok (fun v23 => [(2, .int v23), (0, .ref a0), (1, .int x1)]) 2 dX11_ruleOf_23 rfl (by decide) (by decide) (fun _ => rfl) (fun v23 => (show zG P G _ _ 26 _ _ from ?_))
        refine z_goto ok 2 dX11_ruleOf_26 (by decide) ?_
        exact z_sub [1, 2, 0] [(0, .ref a0), (1, .int x1), (2, .int v23)] rfl (hr_2 _ _ _ _ h_a0)
set_option maxRecDepth 100000 in
set_option maxHeartbeats 4000000 in
theorem m_X11_ruleOf (l : Launch) {P : zSt} (hP : zOKP P) {a0 : Nat} {i1 : Int32} (h_a0 : zT P 10 a0) : zMet l P yX11_ruleOf cX11_ruleOf 3 2 46 (some .int) [.ref a0, .int i1] (fun m => f_X11_ruleOf P a0 i1 m) := by
  refine zMet.of hP (by decide +kernel) RX11 rfl [(0, .ref a0), (1, .int i1)] (fun h => h) (Nat.le_of_ble_eq_true rfl) (fun G m ok => ?_)
  show zG P G (f_X11_ruleOf P a0 i1 m) m 0 _ []
  unfold f_X11_ruleOf
  refine z_iconst ok (0 : Int32) dX11_ruleOf_0 (by decide) (show zG P G _ _ 1 _ _ from ?_)
  refine z_istore_n0 ok [(2, .int (0 : Int32)), (0, .ref a0), (1, .int i1)] dX11_ruleOf_1 (by decide) rfl (show zG P G _ _ 2 _ _ from ?_)
  exact z_sub [1, 2, 0] [(0, .ref a0), (1, .int i1), (2, .int (0 : Int32))] rfl (t_X11_ruleOf_b2 ok zfuel _ _ _ _ h_a0)
set_option maxRecDepth 100000 in
set_option maxHeartbeats 4000000 in
theorem m_X11_match (l : Launch) {P : zSt} (hP : zOKP P) {a0 : Nat} {i1 : Int32} (h_a0 : zT P 10 a0) : zMet l P yX11_match cX11_match 2 3 68 (some .int) [.ref a0, .int i1] (fun m => f_X11_match P a0 i1 m) := by
  refine zMet.of hP (by decide +kernel) RX11 rfl [(0, .ref a0), (1, .int i1)] (fun h => h) (Nat.le_of_ble_eq_true rfl) (fun G m ok => ?_)
  show zG P G (f_X11_match P a0 i1 m) m 0 _ []
  unfold f_X11_match
  refine z_iload_n ok 1 dX11_match_0 rfl (show zG P G _ _ 1 _ _ from ?_)
  refine z_iconst ok (0 : Int32) dX11_match_1 (by decide) (show zG P G _ _ 2 _ _ from ?_)
  refine z_bipush ok (9 : Int32) dX11_match_2 (by decide) (show zG P G _ _ 4 _ _ from ?_)
  refine z_callSi ok [.int i1, .int (0 : Int32), .int (9 : Int32)] (m_X11_isIn _ ok.p) cv_X11_44 rfl (by decide) rfl (Nat.le_of_ble_eq_true rfl) rfl dX11_match_4 (fun r4 m4 => (show zG P G _ _ 7 _ _ from ?_))
  refine z_if_ne ok 15 dX11_match_7 (by decide) ?_ (show zG P G _ _ 10 _ _ from ?_)
  · refine z_aload_n ok 0 dX11_match_15 rfl (show zG P G _ _ 16 _ _ from ?_)
    refine z_callVi ok [] (m_X11_isPath _ ok.p h_a0) cv_X11_113 h_a0 rfl (by decide) rfl (Nat.le_of_ble_eq_true rfl) rfl dX11_match_16 (fun r16 m16 => (show zG P G _ _ 19 _ _ from ?_))
    refine z_if_ne ok 27 dX11_match_19 (by decide) ?_ (show zG P G _ _ 22 _ _ from ?_)
    · refine z_aload_n ok 0 dX11_match_27 rfl (show zG P G _ _ 28 _ _ from ?_)
      refine z_iload_n ok 1 dX11_match_28 rfl (show zG P G _ _ 29 _ _ from ?_)
      refine z_callVi ok [.int i1] (m_X11_ruleOf _ ok.p h_a0) cv_X11_117 h_a0 rfl (by decide) rfl (Nat.le_of_ble_eq_true rfl) rfl dX11_match_29 (fun r29 m29 => (show zG P G _ _ 32 _ _ from ?_))
      exact z_iret ok dX11_match_32
    · refine z_bipush ok (-7 : Int32) dX11_match_22 (by decide) (show zG P G _ _ 24 _ _ from ?_)
      refine z_goto ok 32 dX11_match_24 (by decide) ?_
      exact z_iret ok dX11_match_32
  · refine z_bipush ok (-2 : Int32) dX11_match_10 (by decide) (show zG P G _ _ 12 _ _ from ?_)
    refine z_goto ok 32 dX11_match_12 (by decide) ?_
    exact z_iret ok dX11_match_32
set_option maxRecDepth 100000 in
set_option maxHeartbeats 4000000 in
theorem t_X11_isMember_b23 {P : zSt} {G : zC} (ok : zOK P G RX11 cX11_isMember 3 1 22 (some .boolean))   {m : zM}  : zG P G (f_X11_isMember_b23 P  m) m 23 [] [] := by
  unfold f_X11_isMember_b23
  refine z_iconst ok (0 : Int32) dX11_isMember_23 (by decide) (show zG P G _ _ 24 _ _ from ?_)
  exact z_zret ok dX11_isMember_24
set_option maxRecDepth 100000 in
set_option maxHeartbeats 4000000 in
theorem m_X11_isMember (l : Launch) {P : zSt} (hP : zOKP P) {a0 : Nat} {i1 : Int32} {i2 : Int32} (h_a0 : zT P 10 a0) : zMet l P yX11_isMember cX11_isMember 3 1 22 (some .boolean) [.ref a0, .int i1, .int i2] (fun m => f_X11_isMember P a0 i1 i2 m) := by
  refine zMet.of hP (by decide +kernel) RX11 rfl [(0, .ref a0), (1, .int i1), (2, .int i2)] (fun h => h) (Nat.le_of_ble_eq_true rfl) (fun G m ok => ?_)
  show zG P G (f_X11_isMember P a0 i1 i2 m) m 0 _ []
  unfold f_X11_isMember
  refine z_aload_n ok 0 dX11_isMember_0 rfl (show zG P G _ _ 1 _ _ from ?_)
  refine z_iload_n ok 1 dX11_isMember_1 rfl (show zG P G _ _ 2 _ _ from ?_)
  refine z_iconst ok (0 : Int32) dX11_isMember_2 (by decide) (show zG P G _ _ 3 _ _ from ?_)
  refine z_callVi ok [.int i1, .int (0 : Int32)] (m_X11_of _ ok.p h_a0) cv_X11_66 h_a0 rfl (by decide) rfl (Nat.le_of_ble_eq_true rfl) rfl dX11_isMember_3 (fun r3 m3 => (show zG P G _ _ 6 _ _ from ?_))
  refine z_iload_n ok 2 dX11_isMember_6 rfl (show zG P G _ _ 7 _ _ from ?_)
  refine z_icmp_ne ok 23 dX11_isMember_7 (by decide) ?_ (show zG P G _ _ 10 _ _ from ?_)
  · exact z_sub [] [] rfl (t_X11_isMember_b23 ok)
  · refine z_aload_n ok 0 dX11_isMember_10 rfl (show zG P G _ _ 11 _ _ from ?_)
    refine z_iload_n ok 1 dX11_isMember_11 rfl (show zG P G _ _ 12 _ _ from ?_)
    refine z_iconst ok (2 : Int32) dX11_isMember_12 (by decide) (show zG P G _ _ 13 _ _ from ?_)
    refine z_callVi ok [.int i1, .int (2 : Int32)] (m_X11_of _ ok.p h_a0) cv_X11_66 h_a0 rfl (by decide) rfl (Nat.le_of_ble_eq_true rfl) rfl dX11_isMember_13 (fun r13 m13 => (show zG P G _ _ 16 _ _ from ?_))
    refine z_if_le ok 23 dX11_isMember_16 (by decide) ?_ (show zG P G _ _ 19 _ _ from ?_)
    · exact z_sub [] [] rfl (t_X11_isMember_b23 ok)
    · refine z_iconst ok (1 : Int32) dX11_isMember_19 (by decide) (show zG P G _ _ 20 _ _ from ?_)
      refine z_goto ok 24 dX11_isMember_20 (by decide) ?_
      exact z_zret ok dX11_isMember_24
set_option maxRecDepth 100000 in
set_option maxHeartbeats 4000000 in
theorem t_X11_isAvailable_b23 {P : zSt} {G : zC} (ok : zOK P G RX11 cX11_isAvailable 3 2 44 (some .boolean))   {m : zM}  : zG P G (f_X11_isAvailable_b23 P  m) m 23 [] [] := by
  unfold f_X11_isAvailable_b23
  refine z_iconst ok (0 : Int32) dX11_isAvailable_23 (by decide) (show zG P G _ _ 24 _ _ from ?_)
  exact z_zret ok dX11_isAvailable_24
set_option maxRecDepth 100000 in
set_option maxHeartbeats 4000000 in
theorem m_X11_isAvailable (l : Launch) {P : zSt} (hP : zOKP P) {a0 : Nat} {i1 : Int32} {i2 : Int32} (h_a0 : zT P 10 a0) : zMet l P yX11_isAvailable cX11_isAvailable 3 2 44 (some .boolean) [.ref a0, .int i1, .int i2] (fun m => f_X11_isAvailable P a0 i1 i2 m) := by
  refine zMet.of hP (by decide +kernel) RX11 rfl [(0, .ref a0), (1, .int i1), (2, .int i2)] (fun h => h) (Nat.le_of_ble_eq_true rfl) (fun G m ok => ?_)
  show zG P G (f_X11_isAvailable P a0 i1 i2 m) m 0 _ []
  unfold f_X11_isAvailable
  refine z_aload_n ok 0 dX11_isAvailable_0 rfl (show zG P G _ _ 1 _ _ from ?_)
  refine z_iload_n ok 1 dX11_isAvailable_1 rfl (show zG P G _ _ 2 _ _ from ?_)
  refine z_iload_n ok 2 dX11_isAvailable_2 rfl (show zG P G _ _ 3 _ _ from ?_)
  refine z_callVi ok [.int i1, .int i2] (m_X11_isMember _ ok.p h_a0) cv_X11_121 h_a0 rfl (by decide) rfl (Nat.le_of_ble_eq_true rfl) rfl dX11_isAvailable_3 (fun r3 m3 => (show zG P G _ _ 6 _ _ from ?_))
  refine z_if_eq ok 23 dX11_isAvailable_6 (by decide) ?_ (show zG P G _ _ 9 _ _ from ?_)
  · exact z_sub [] [] rfl (t_X11_isAvailable_b23 ok)
  · refine z_aload_n ok 0 dX11_isAvailable_9 rfl (show zG P G _ _ 10 _ _ from ?_)
    refine z_iload_n ok 1 dX11_isAvailable_10 rfl (show zG P G _ _ 11 _ _ from ?_)
    refine z_bipush ok (9 : Int32) dX11_isAvailable_11 (by decide) (show zG P G _ _ 13 _ _ from ?_)
    refine z_callVi ok [.int i1, .int (9 : Int32)] (m_X11_of _ ok.p h_a0) cv_X11_66 h_a0 rfl (by decide) rfl (Nat.le_of_ble_eq_true rfl) rfl dX11_isAvailable_13 (fun r13 m13 => (show zG P G _ _ 16 _ _ from ?_))
    refine z_if_ne ok 23 dX11_isAvailable_16 (by decide) ?_ (show zG P G _ _ 19 _ _ from ?_)
    · exact z_sub [] [] rfl (t_X11_isAvailable_b23 ok)
    · refine z_iconst ok (1 : Int32) dX11_isAvailable_19 (by decide) (show zG P G _ _ 20 _ _ from ?_)
      refine z_goto ok 24 dX11_isAvailable_20 (by decide) ?_
      exact z_zret ok dX11_isAvailable_24
set_option maxRecDepth 100000 in
set_option maxHeartbeats 4000000 in
theorem t_X11_availables_b33 {P : zSt} {G : zC} (ok : zOK P G RX11 cX11_availables 4 3 66 (some .int)) (rec_4 : Nat → Int32 → Int32 → Int32 → zM → Option (Int32 × zM)) (hr_4 : ∀ (a0 : Nat) (x1 : Int32) (x2 : Int32) (x3 : Int32) (m : zM), zT P 10 a0 → zG P G (rec_4 a0 x1 x2 x3 m) m 4 [(0, .ref a0), (1, .int x1), (2, .int x2), (3, .int x3)] []) {a0 : Nat} {x1 : Int32} {x3 : Int32} {s0 : Int32} {s1 : Int32} {m : zM} (h_a0 : zT P 10 a0) : zG P G (f_X11_availables_b33 P rec_4 a0 x1 x3 s0 s1 m) m 33 [(0, .ref a0), (1, .int x1), (3, .int x3)] [.int s0, .int s1] := by
  unfold f_X11_availables_b33
  refine z_ior ok dX11_availables_33 (show zG P G _ _ 34 _ _ from ?_)
  refine z_istore_n ok (fun v34 => [(2, .int v34), (0, .ref a0), (1, .int x1), (3, .int x3)]) dX11_availables_34 (by decide) (fun _ => rfl) (fun v34 => (show zG P G _ _ 35 _ _ from ?_))
  refine z_iinc ok (fun v35 => [(3, .int v35), (2, .int v34), (0, .ref a0), (1, .int x1)]) 3 dX11_availables_35 rfl (by decide) (by decide) (fun _ => rfl) (fun v35 => (show zG P G _ _ 38 _ _ from ?_))
  refine z_goto ok 4 dX11_availables_38 (by decide) ?_
  exact z_sub [2, 3, 1, 0] [(0, .ref a0), (1, .int x1), (2, .int v34), (3, .int v35)] rfl (hr_4 _ _ _ _ _ h_a0)
set_option maxRecDepth 100000 in
set_option maxHeartbeats 4000000 in
theorem t_X11_availables_b4 {P : zSt} {G : zC} (ok : zOK P G RX11 cX11_availables 4 3 66 (some .int))  : ∀ (n : Nat) (a0 : Nat) (x1 : Int32) (x2 : Int32) (x3 : Int32) (m : zM) (h_a0 : zT P 10 a0), zG P G (f_X11_availables_b4 P n a0 x1 x2 x3 m) m 4 [(0, .ref a0), (1, .int x1), (2, .int x2), (3, .int x3)] [] := by
  intro n
  induction n with
  | zero =>
    intros
    exact zG_none
  | succ n ih =>
    intro a0 x1 x2 x3 m h_a0
    unfold f_X11_availables_b4
    have hr_4 := ih
    refine z_iload_n ok 3 dX11_availables_4 rfl (show zG P G _ _ 5 _ _ from ?_)
    refine z_aload_n ok 0 dX11_availables_5 rfl (show zG P G _ _ 6 _ _ from ?_)
    refine z_getR ok fd_200 h_a0 (Or.inl rfl) tf_X11_9 dX11_availables_6 (fun b6 h_b6 => (show zG P G _ _ 9 _ _ from ?_))
    refine z_sipush ok (144 : Int32) dX11_availables_9 (by decide) (show zG P G _ _ 12 _ _ from ?_)
    refine z_iald ok h_b6 dX11_availables_12 (show zG P G _ _ 13 _ _ from ?_)
    refine z_icmp_ge ok 41 dX11_availables_13 (by decide) ?_ (show zG P G _ _ 16 _ _ from ?_)
    · refine z_iload_n ok 2 dX11_availables_41 rfl (show zG P G _ _ 42 _ _ from ?_)
      exact z_iret ok dX11_availables_42
    · refine z_iload_n ok 2 dX11_availables_16 rfl (show zG P G _ _ 17 _ _ from ?_)
      refine z_aload_n ok 0 dX11_availables_17 rfl (show zG P G _ _ 18 _ _ from ?_)
      refine z_iload_n ok 3 dX11_availables_18 rfl (show zG P G _ _ 19 _ _ from ?_)
      refine z_iload_n ok 1 dX11_availables_19 rfl (show zG P G _ _ 20 _ _ from ?_)
      refine z_callVi ok [.int x3, .int x1] (m_X11_isAvailable _ ok.p h_a0) cv_X11_124 h_a0 rfl (by decide) rfl (Nat.le_of_ble_eq_true rfl) rfl dX11_availables_20 (fun r20 m20 => (show zG P G _ _ 23 _ _ from ?_))
      refine z_if_eq ok 32 dX11_availables_23 (by decide) ?_ (show zG P G _ _ 26 _ _ from ?_)
      · refine z_iconst ok (0 : Int32) dX11_availables_32 (by decide) (show zG P G _ _ 33 _ _ from ?_)
        exact z_sub [0, 1, 3] [(0, .ref a0), (1, .int x1), (3, .int x3)] rfl (t_X11_availables_b33 ok (f_X11_availables_b4 P n) hr_4 h_a0)
      · refine z_iconst ok (1 : Int32) dX11_availables_26 (by decide) (show zG P G _ _ 27 _ _ from ?_)
        refine z_iload_n ok 3 dX11_availables_27 rfl (show zG P G _ _ 28 _ _ from ?_)
        refine z_ishl ok dX11_availables_28 (show zG P G _ _ 29 _ _ from ?_)
        refine z_goto ok 33 dX11_availables_29 (by decide) ?_
        exact z_sub [0, 1, 3] [(0, .ref a0), (1, .int x1), (3, .int x3)] rfl (t_X11_availables_b33 ok (f_X11_availables_b4 P n) hr_4 h_a0)
set_option maxRecDepth 100000 in
set_option maxHeartbeats 4000000 in
theorem m_X11_availables (l : Launch) {P : zSt} (hP : zOKP P) {a0 : Nat} {i1 : Int32} (h_a0 : zT P 10 a0) : zMet l P yX11_availables cX11_availables 4 3 66 (some .int) [.ref a0, .int i1] (fun m => f_X11_availables P a0 i1 m) := by
  refine zMet.of hP (by decide +kernel) RX11 rfl [(0, .ref a0), (1, .int i1)] (fun h => h) (Nat.le_of_ble_eq_true rfl) (fun G m ok => ?_)
  show zG P G (f_X11_availables P a0 i1 m) m 0 _ []
  unfold f_X11_availables
  refine z_iconst ok (0 : Int32) dX11_availables_0 (by decide) (show zG P G _ _ 1 _ _ from ?_)
  refine z_istore_n0 ok [(2, .int (0 : Int32)), (0, .ref a0), (1, .int i1)] dX11_availables_1 (by decide) rfl (show zG P G _ _ 2 _ _ from ?_)
  refine z_iconst ok (0 : Int32) dX11_availables_2 (by decide) (show zG P G _ _ 3 _ _ from ?_)
  refine z_istore_n0 ok [(3, .int (0 : Int32)), (2, .int (0 : Int32)), (0, .ref a0), (1, .int i1)] dX11_availables_3 (by decide) rfl (show zG P G _ _ 4 _ _ from ?_)
  exact z_sub [2, 3, 1, 0] [(0, .ref a0), (1, .int i1), (2, .int (0 : Int32)), (3, .int (0 : Int32))] rfl (t_X11_availables_b4 ok zfuel _ _ _ _ _ h_a0)
set_option maxRecDepth 100000 in
set_option maxHeartbeats 4000000 in
theorem t_X11_choosesTarget_b132 {P : zSt} {G : zC} (ok : zOK P G RX11 cX11_choosesTarget 7 4 89 (some .int)) (rec_20 : Nat → Int32 → Int32 → Int32 → Int32 → Int32 → zM → Option (Int32 × zM)) (hr_20 : ∀ (a0 : Nat) (x1 : Int32) (x2 : Int32) (x3 : Int32) (x4 : Int32) (x5 : Int32) (m : zM), zT P 10 a0 → zG P G (rec_20 a0 x1 x2 x3 x4 x5 m) m 20 [(0, .ref a0), (1, .int x1), (2, .int x2), (3, .int x3), (4, .int x4), (5, .int x5)] []) {a0 : Nat} {x1 : Int32} {x2 : Int32} {x3 : Int32} {x4 : Int32} {x5 : Int32} {m : zM} (h_a0 : zT P 10 a0) : zG P G (f_X11_choosesTarget_b132 P rec_20 a0 x1 x2 x3 x4 x5 m) m 132 [(0, .ref a0), (1, .int x1), (2, .int x2), (3, .int x3), (4, .int x4), (5, .int x5)] [] := by
  unfold f_X11_choosesTarget_b132
  refine z_iinc ok (fun v132 => [(5, .int v132), (0, .ref a0), (1, .int x1), (2, .int x2), (3, .int x3), (4, .int x4)]) 5 dX11_choosesTarget_132 rfl (by decide) (by decide) (fun _ => rfl) (fun v132 => (show zG P G _ _ 135 _ _ from ?_))
  refine z_goto ok 20 dX11_choosesTarget_135 (by decide) ?_
  exact z_sub [1, 2, 3, 4, 5, 0] [(0, .ref a0), (1, .int x1), (2, .int x2), (3, .int x3), (4, .int x4), (5, .int v132)] rfl (hr_20 _ _ _ _ _ _ _ h_a0)
set_option maxRecDepth 100000 in
set_option maxHeartbeats 4000000 in
theorem t_X11_choosesTarget_b129 {P : zSt} {G : zC} (ok : zOK P G RX11 cX11_choosesTarget 7 4 89 (some .int)) (rec_20 : Nat → Int32 → Int32 → Int32 → Int32 → Int32 → zM → Option (Int32 × zM)) (hr_20 : ∀ (a0 : Nat) (x1 : Int32) (x2 : Int32) (x3 : Int32) (x4 : Int32) (x5 : Int32) (m : zM), zT P 10 a0 → zG P G (rec_20 a0 x1 x2 x3 x4 x5 m) m 20 [(0, .ref a0), (1, .int x1), (2, .int x2), (3, .int x3), (4, .int x4), (5, .int x5)] []) {a0 : Nat} {x1 : Int32} {x2 : Int32} {x4 : Int32} {x5 : Int32} {m : zM} (h_a0 : zT P 10 a0) : zG P G (f_X11_choosesTarget_b129 P rec_20 a0 x1 x2 x4 x5 m) m 129 [(0, .ref a0), (1, .int x1), (2, .int x2), (4, .int x4), (5, .int x5)] [] := by
  unfold f_X11_choosesTarget_b129
  refine z_iload ok 4 dX11_choosesTarget_129 rfl (show zG P G _ _ 131 _ _ from ?_)
  refine z_istore_n0 ok [(3, .int x5), (0, .ref a0), (1, .int x1), (2, .int x2), (4, .int x4), (5, .int x5)] dX11_choosesTarget_131 (by decide) rfl (show zG P G _ _ 132 _ _ from ?_)
  exact z_sub [1, 2, 3, 0, 4, 5] [(0, .ref a0), (1, .int x1), (2, .int x2), (3, .int x5), (4, .int x4), (5, .int x5)] rfl (t_X11_choosesTarget_b132 ok rec_20 hr_20 h_a0)
set_option maxRecDepth 100000 in
set_option maxHeartbeats 4000000 in
theorem t_X11_choosesTarget_b20 {P : zSt} {G : zC} (ok : zOK P G RX11 cX11_choosesTarget 7 4 89 (some .int))  : ∀ (n : Nat) (a0 : Nat) (x1 : Int32) (x2 : Int32) (x3 : Int32) (x4 : Int32) (x5 : Int32) (m : zM) (h_a0 : zT P 10 a0), zG P G (f_X11_choosesTarget_b20 P n a0 x1 x2 x3 x4 x5 m) m 20 [(0, .ref a0), (1, .int x1), (2, .int x2), (3, .int x3), (4, .int x4), (5, .int x5)] [] := by
  intro n
  induction n with
  | zero =>
    intros
    exact zG_none
  | succ n ih =>
    intro a0 x1 x2 x3 x4 x5 m h_a0
    unfold f_X11_choosesTarget_b20
    have hr_20 := ih
    refine z_iload ok 5 dX11_choosesTarget_20 rfl (show zG P G _ _ 22 _ _ from ?_)
    refine z_aload_n ok 0 dX11_choosesTarget_22 rfl (show zG P G _ _ 23 _ _ from ?_)
    refine z_getR ok fd_200 h_a0 (Or.inl rfl) tf_X11_9 dX11_choosesTarget_23 (fun b23 h_b23 => (show zG P G _ _ 26 _ _ from ?_))
    refine z_sipush ok (231 : Int32) dX11_choosesTarget_26 (by decide) (show zG P G _ _ 29 _ _ from ?_)
    refine z_bipush ok (58 : Int32) dX11_choosesTarget_29 (by decide) (show zG P G _ _ 31 _ _ from ?_)
    refine z_iload_n ok 1 dX11_choosesTarget_31 rfl (show zG P G _ _ 32 _ _ from ?_)
    refine z_imul ok dX11_choosesTarget_32 (show zG P G _ _ 33 _ _ from ?_)
    refine z_iadd ok dX11_choosesTarget_33 (show zG P G _ _ 34 _ _ from ?_)
    refine z_bipush ok (43 : Int32) dX11_choosesTarget_34 (by decide) (show zG P G _ _ 36 _ _ from ?_)
    refine z_iadd ok dX11_choosesTarget_36 (show zG P G _ _ 37 _ _ from ?_)
    refine z_iald ok h_b23 dX11_choosesTarget_37 (show zG P G _ _ 38 _ _ from ?_)
    refine z_icmp_ge ok 138 dX11_choosesTarget_38 (by decide) ?_ (show zG P G _ _ 41 _ _ from ?_)
    · refine z_iload_n ok 3 dX11_choosesTarget_138 rfl (show zG P G _ _ 139 _ _ from ?_)
      refine z_if_ge ok 144 dX11_choosesTarget_139 (by decide) ?_ (show zG P G _ _ 142 _ _ from ?_)
      · refine z_aload_n ok 0 dX11_choosesTarget_144 rfl (show zG P G _ _ 145 _ _ from ?_)
        refine z_getR ok fd_200 h_a0 (Or.inl rfl) tf_X11_9 dX11_choosesTarget_145 (fun b145 h_b145 => (show zG P G _ _ 148 _ _ from ?_))
        refine z_iload_n ok 2 dX11_choosesTarget_148 rfl (show zG P G _ _ 149 _ _ from ?_)
        refine z_iconst ok (4 : Int32) dX11_choosesTarget_149 (by decide) (show zG P G _ _ 150 _ _ from ?_)
        refine z_iload_n ok 3 dX11_choosesTarget_150 rfl (show zG P G _ _ 151 _ _ from ?_)
        refine z_imul ok dX11_choosesTarget_151 (show zG P G _ _ 152 _ _ from ?_)
        refine z_iadd ok dX11_choosesTarget_152 (show zG P G _ _ 153 _ _ from ?_)
        refine z_iconst ok (2 : Int32) dX11_choosesTarget_153 (by decide) (show zG P G _ _ 154 _ _ from ?_)
        refine z_iadd ok dX11_choosesTarget_154 (show zG P G _ _ 155 _ _ from ?_)
        refine z_dup2 ok dX11_choosesTarget_155 rfl rfl (show zG P G _ _ 156 _ _ from ?_)
        refine z_iald ok h_b145 dX11_choosesTarget_156 (show zG P G _ _ 157 _ _ from ?_)
        refine z_iload ok 4 dX11_choosesTarget_157 rfl (show zG P G _ _ 159 _ _ from ?_)
        refine z_isub ok dX11_choosesTarget_159 (show zG P G _ _ 160 _ _ from ?_)
        refine z_iast ok h_b145 dX11_choosesTarget_160 (fun m160 => (show zG P G _ _ 161 _ _ from ?_))
        refine z_aload_n ok 0 dX11_choosesTarget_161 rfl (show zG P G _ _ 162 _ _ from ?_)
        refine z_getR ok fd_200 h_a0 (Or.inl rfl) tf_X11_9 dX11_choosesTarget_162 (fun b162 h_b162 => (show zG P G _ _ 165 _ _ from ?_))
        refine z_iload_n ok 2 dX11_choosesTarget_165 rfl (show zG P G _ _ 166 _ _ from ?_)
        refine z_iconst ok (4 : Int32) dX11_choosesTarget_166 (by decide) (show zG P G _ _ 167 _ _ from ?_)
        refine z_iload_n ok 3 dX11_choosesTarget_167 rfl (show zG P G _ _ 168 _ _ from ?_)
        refine z_imul ok dX11_choosesTarget_168 (show zG P G _ _ 169 _ _ from ?_)
        refine z_iadd ok dX11_choosesTarget_169 (show zG P G _ _ 170 _ _ from ?_)
        refine z_iconst ok (3 : Int32) dX11_choosesTarget_170 (by decide) (show zG P G _ _ 171 _ _ from ?_)
        refine z_iadd ok dX11_choosesTarget_171 (show zG P G _ _ 172 _ _ from ?_)
        refine z_dup2 ok dX11_choosesTarget_172 rfl rfl (show zG P G _ _ 173 _ _ from ?_)
        refine z_iald ok h_b162 dX11_choosesTarget_173 (show zG P G _ _ 174 _ _ from ?_)
        refine z_iconst ok (1 : Int32) dX11_choosesTarget_174 (by decide) (show zG P G _ _ 175 _ _ from ?_)
        refine z_iadd ok dX11_choosesTarget_175 (show zG P G _ _ 176 _ _ from ?_)
        refine z_iast ok h_b162 dX11_choosesTarget_176 (fun m176 => (show zG P G _ _ 177 _ _ from ?_))
        refine z_iload_n ok 3 dX11_choosesTarget_177 rfl (show zG P G _ _ 178 _ _ from ?_)
        exact z_iret ok dX11_choosesTarget_178
      · refine z_iconst ok (-1 : Int32) dX11_choosesTarget_142 (by decide) (show zG P G _ _ 143 _ _ from ?_)
        exact z_iret ok dX11_choosesTarget_143
    · refine z_iload_n ok 2 dX11_choosesTarget_41 rfl (show zG P G _ _ 42 _ _ from ?_)
      refine z_iconst ok (4 : Int32) dX11_choosesTarget_42 (by decide) (show zG P G _ _ 43 _ _ from ?_)
      refine z_iload ok 5 dX11_choosesTarget_43 rfl (show zG P G _ _ 45 _ _ from ?_)
      refine z_imul ok dX11_choosesTarget_45 (show zG P G _ _ 46 _ _ from ?_)
      refine z_iadd ok dX11_choosesTarget_46 (show zG P G _ _ 47 _ _ from ?_)
      refine z_istore ok (fun v47 => [(6, .int v47), (0, .ref a0), (1, .int x1), (2, .int x2), (3, .int x3), (4, .int x4), (5, .int x5)]) dX11_choosesTarget_47 (by decide) (fun _ => rfl) (fun v47 => (show zG P G _ _ 49 _ _ from ?_))
      refine z_aload_n ok 1 dX11_choosesTarget_49 rfl (show zG P G _ _ 50 _ _ from ?_)
      refine z_aload_n ok 1 dX11_choosesTarget_50 rfl (show zG P G _ _ 51 _ _ from ?_)
      refine z_getR ok fd_200 h_a0 (Or.inl rfl) tf_X11_9 dX11_choosesTarget_51 (fun b51 h_b51 => (show zG P G _ _ 54 _ _ from ?_))
      refine z_iload ok 0 dX11_choosesTarget_54 rfl (show zG P G _ _ 56 _ _ from ?_)
      refine z_iald ok h_b51 dX11_choosesTarget_56 (show zG P G _ _ 57 _ _ from ?_)
      refine z_callVi ok [.int (za m b51 v47.toNatClampNeg)] (m_X11_availables _ ok.p h_a0) cv_X11_127 h_a0 rfl (by decide) rfl (Nat.le_of_ble_eq_true rfl) rfl dX11_choosesTarget_57 (fun r57 m57 => (show zG P G _ _ 60 _ _ from ?_))
      refine z_if_ne ok 66 dX11_choosesTarget_60 (by decide) ?_ (show zG P G _ _ 63 _ _ from ?_)
      · refine z_aload_n ok 1 dX11_choosesTarget_66 rfl (show zG P G _ _ 67 _ _ from ?_)
        refine z_getR ok fd_200 h_a0 (Or.inl rfl) tf_X11_9 dX11_choosesTarget_67 (fun b67 h_b67 => (show zG P G _ _ 70 _ _ from ?_))
        refine z_iload ok 0 dX11_choosesTarget_70 rfl (show zG P G _ _ 72 _ _ from ?_)
        refine z_iconst ok (2 : Int32) dX11_choosesTarget_72 (by decide) (show zG P G _ _ 73 _ _ from ?_)
        refine z_iadd ok dX11_choosesTarget_73 (show zG P G _ _ 74 _ _ from ?_)
        refine z_dup2 ok dX11_choosesTarget_74 rfl rfl (show zG P G _ _ 75 _ _ from ?_)
        refine z_iald ok h_b67 dX11_choosesTarget_75 (show zG P G _ _ 76 _ _ from ?_)
        refine z_aload_n ok 1 dX11_choosesTarget_76 rfl (show zG P G _ _ 77 _ _ from ?_)
        refine z_getR ok fd_200 h_a0 (Or.inl rfl) tf_X11_9 dX11_choosesTarget_77 (fun b77 h_b77 => (show zG P G _ _ 80 _ _ from ?_))
        refine z_iload ok 0 dX11_choosesTarget_80 rfl (show zG P G _ _ 82 _ _ from ?_)
        refine z_iconst ok (1 : Int32) dX11_choosesTarget_82 (by decide) (show zG P G _ _ 83 _ _ from ?_)
        refine z_iadd ok dX11_choosesTarget_83 (show zG P G _ _ 84 _ _ from ?_)
        refine z_iald ok h_b77 dX11_choosesTarget_84 (show zG P G _ _ 85 _ _ from ?_)
        refine z_iadd ok dX11_choosesTarget_85 (show zG P G _ _ 86 _ _ from ?_)
        refine z_iast ok h_b67 dX11_choosesTarget_86 (fun m86 => (show zG P G _ _ 87 _ _ from ?_))
        refine z_iload ok 5 dX11_choosesTarget_87 rfl (show zG P G _ _ 89 _ _ from ?_)
        refine z_aload_n ok 1 dX11_choosesTarget_89 rfl (show zG P G _ _ 90 _ _ from ?_)
        refine z_getR ok fd_200 h_a0 (Or.inl rfl) tf_X11_9 dX11_choosesTarget_90 (fun b90 h_b90 => (show zG P G _ _ 93 _ _ from ?_))
        refine z_iload ok 0 dX11_choosesTarget_93 rfl (show zG P G _ _ 95 _ _ from ?_)
        refine z_iconst ok (1 : Int32) dX11_choosesTarget_95 (by decide) (show zG P G _ _ 96 _ _ from ?_)
        refine z_iadd ok dX11_choosesTarget_96 (show zG P G _ _ 97 _ _ from ?_)
        refine z_iald ok h_b90 dX11_choosesTarget_97 (show zG P G _ _ 98 _ _ from ?_)
        refine z_iadd ok dX11_choosesTarget_98 (show zG P G _ _ 99 _ _ from ?_)
        refine z_istore ok (fun v99 => [(4, .int v99), (6, .int v47), (0, .ref a0), (1, .int x1), (2, .int x2), (3, .int x3), (5, .int x5)]) dX11_choosesTarget_99 (by decide) (fun _ => rfl) (fun v99 => (show zG P G _ _ 101 _ _ from ?_))
        refine z_iload_n ok 5 dX11_choosesTarget_101 rfl (show zG P G _ _ 102 _ _ from ?_)
        refine z_if_lt ok 129 dX11_choosesTarget_102 (by decide) ?_ (show zG P G _ _ 105 _ _ from ?_)
        · exact z_sub [2, 3, 4, 0, 6] [(0, .ref a0), (1, .int x1), (2, .int x2), (4, .int v99), (5, .int x5)] rfl (t_X11_choosesTarget_b129 ok (f_X11_choosesTarget_b20 P n) hr_20 h_a0)
        · refine z_aload_n ok 2 dX11_choosesTarget_105 rfl (show zG P G _ _ 106 _ _ from ?_)
          refine z_getR ok fd_200 h_a0 (Or.inl rfl) tf_X11_9 dX11_choosesTarget_106 (fun b106 h_b106 => (show zG P G _ _ 109 _ _ from ?_))
          refine z_iload ok 1 dX11_choosesTarget_109 rfl (show zG P G _ _ 111 _ _ from ?_)
          refine z_iconst ok (2 : Int32) dX11_choosesTarget_111 (by decide) (show zG P G _ _ 112 _ _ from ?_)
          refine z_iadd ok dX11_choosesTarget_112 (show zG P G _ _ 113 _ _ from ?_)
          refine z_iald ok h_b106 dX11_choosesTarget_113 (show zG P G _ _ 114 _ _ from ?_)
          refine z_aload_n ok 2 dX11_choosesTarget_114 rfl (show zG P G _ _ 115 _ _ from ?_)
          refine z_getR ok fd_200 h_a0 (Or.inl rfl) tf_X11_9 dX11_choosesTarget_115 (fun b115 h_b115 => (show zG P G _ _ 118 _ _ from ?_))
          refine z_iload_n ok 4 dX11_choosesTarget_118 rfl (show zG P G _ _ 119 _ _ from ?_)
          refine z_iconst ok (4 : Int32) dX11_choosesTarget_119 (by decide) (show zG P G _ _ 120 _ _ from ?_)
          refine z_iload_n ok 5 dX11_choosesTarget_120 rfl (show zG P G _ _ 121 _ _ from ?_)
          refine z_imul ok dX11_choosesTarget_121 (show zG P G _ _ 122 _ _ from ?_)
          refine z_iadd ok dX11_choosesTarget_122 (show zG P G _ _ 123 _ _ from ?_)
          refine z_iconst ok (2 : Int32) dX11_choosesTarget_123 (by decide) (show zG P G _ _ 124 _ _ from ?_)
          refine z_iadd ok dX11_choosesTarget_124 (show zG P G _ _ 125 _ _ from ?_)
          refine z_iald ok h_b115 dX11_choosesTarget_125 (show zG P G _ _ 126 _ _ from ?_)
          refine z_icmp_le ok 132 dX11_choosesTarget_126 (by decide) ?_ (show zG P G _ _ 129 _ _ from ?_)
          · exact z_sub [2, 3, 4, 5, 0, 6] [(0, .ref a0), (1, .int x1), (2, .int x2), (3, .int x3), (4, .int v99), (5, .int x5)] rfl (t_X11_choosesTarget_b132 ok (f_X11_choosesTarget_b20 P n) hr_20 h_a0)
          · exact z_sub [2, 3, 4, 0, 6] [(0, .ref a0), (1, .int x1), (2, .int x2), (4, .int v99), (5, .int x5)] rfl (t_X11_choosesTarget_b129 ok (f_X11_choosesTarget_b20 P n) hr_20 h_a0)
      · refine z_goto ok 132 dX11_choosesTarget_63 (by decide) ?_
        exact z_sub [1, 2, 3, 4, 5, 6] [(0, .ref a0), (1, .int x1), (2, .int x2), (3, .int x3), (4, .int x4), (5, .int x5)] rfl (t_X11_choosesTarget_b132 ok (f_X11_choosesTarget_b20 P n) hr_20 h_a0)
set_option maxRecDepth 100000 in
set_option maxHeartbeats 4000000 in
theorem m_X11_choosesTarget (l : Launch) {P : zSt} (hP : zOKP P) {a0 : Nat} {i1 : Int32} (h_a0 : zT P 10 a0) : zMet l P yX11_choosesTarget cX11_choosesTarget 7 4 89 (some .int) [.ref a0, .int i1] (fun m => f_X11_choosesTarget P a0 i1 m) := by
  refine zMet.of hP (by decide +kernel) RX11 rfl [(0, .ref a0), (1, .int i1)] (fun h => h) (Nat.le_of_ble_eq_true rfl) (fun G m ok => ?_)
  show zG P G (f_X11_choosesTarget P a0 i1 m) m 0 _ []
  unfold f_X11_choosesTarget
  refine z_sipush ok (231 : Int32) dX11_choosesTarget_0 (by decide) (show zG P G _ _ 3 _ _ from ?_)
  refine z_bipush ok (58 : Int32) dX11_choosesTarget_3 (by decide) (show zG P G _ _ 5 _ _ from ?_)
  refine z_iload_n ok 1 dX11_choosesTarget_5 rfl (show zG P G _ _ 6 _ _ from ?_)
  refine z_imul ok dX11_choosesTarget_6 (show zG P G _ _ 7 _ _ from ?_)
  refine z_iadd ok dX11_choosesTarget_7 (show zG P G _ _ 8 _ _ from ?_)
  refine z_bipush ok (44 : Int32) dX11_choosesTarget_8 (by decide) (show zG P G _ _ 10 _ _ from ?_)
  refine z_iadd ok dX11_choosesTarget_10 (show zG P G _ _ 11 _ _ from ?_)
  refine z_istore_n ok (fun v11 => [(2, .int v11), (0, .ref a0), (1, .int i1)]) dX11_choosesTarget_11 (by decide) (fun _ => rfl) (fun v11 => (show zG P G _ _ 12 _ _ from ?_))
  refine z_iconst ok (-1 : Int32) dX11_choosesTarget_12 (by decide) (show zG P G _ _ 13 _ _ from ?_)
  refine z_istore_n0 ok [(3, .int (-1 : Int32)), (2, .int v11), (0, .ref a0), (1, .int i1)] dX11_choosesTarget_13 (by decide) rfl (show zG P G _ _ 14 _ _ from ?_)
  refine z_iconst ok (0 : Int32) dX11_choosesTarget_14 (by decide) (show zG P G _ _ 15 _ _ from ?_)
  refine z_istore0 ok [(4, .int (0 : Int32)), (3, .int (-1 : Int32)), (2, .int v11), (0, .ref a0), (1, .int i1)] dX11_choosesTarget_15 (by decide) rfl (show zG P G _ _ 17 _ _ from ?_)
  refine z_iconst ok (0 : Int32) dX11_choosesTarget_17 (by decide) (show zG P G _ _ 18 _ _ from ?_)
  refine z_istore0 ok [(5, .int (0 : Int32)), (4, .int (0 : Int32)), (3, .int (-1 : Int32)), (2, .int v11), (0, .ref a0), (1, .int i1)] dX11_choosesTarget_18 (by decide) rfl (show zG P G _ _ 20 _ _ from ?_)
  exact z_sub [4, 5, 3, 2, 1, 0] [(0, .ref a0), (1, .int i1), (2, .int v11), (3, .int (-1 : Int32)), (4, .int (0 : Int32)), (5, .int (0 : Int32))] rfl (t_X11_choosesTarget_b20 ok zfuel _ _ _ _ _ _ _ h_a0)
set_option maxRecDepth 100000 in
set_option maxHeartbeats 4000000 in
theorem t_X11_byWeights_b87 {P : zSt} {G : zC} (ok : zOK P G RX11 cX11_byWeights 5 1 23 (some .int)) (rec_7 : Nat → Int32 → Int32 → Int32 → Int32 → zM → Option (Int32 × zM)) (hr_7 : ∀ (a0 : Nat) (x1 : Int32) (x2 : Int32) (x3 : Int32) (x4 : Int32) (m : zM), zT P 10 a0 → zG P G (rec_7 a0 x1 x2 x3 x4 m) m 7 [(0, .ref a0), (1, .int x1), (2, .int x2), (3, .int x3), (4, .int x4)] []) {a0 : Nat} {x1 : Int32} {x2 : Int32} {x3 : Int32} {x4 : Int32} {m : zM} (h_a0 : zT P 10 a0) : zG P G (f_X11_byWeights_b87 P rec_7 a0 x1 x2 x3 x4 m) m 87 [(0, .ref a0), (1, .int x1), (2, .int x2), (3, .int x3), (4, .int x4)] [] := by
  unfold f_X11_byWeights_b87
  refine z_iinc ok (fun v87 => [(4, .int v87), (0, .ref a0), (1, .int x1), (2, .int x2), (3, .int x3)]) 4 dX11_byWeights_87 rfl (by decide) (by decide) (fun _ => rfl) (fun v87 => (show zG P G _ _ 90 _ _ from ?_))
  refine z_goto ok 7 dX11_byWeights_90 (by decide) ?_
  exact z_sub [1, 2, 3, 4, 0] [(0, .ref a0), (1, .int x1), (2, .int x2), (3, .int x3), (4, .int v87)] rfl (hr_7 _ _ _ _ _ _ h_a0)
set_option maxRecDepth 100000 in
set_option maxHeartbeats 4000000 in
theorem t_X11_byWeights_b84 {P : zSt} {G : zC} (ok : zOK P G RX11 cX11_byWeights 5 1 23 (some .int)) (rec_7 : Nat → Int32 → Int32 → Int32 → Int32 → zM → Option (Int32 × zM)) (hr_7 : ∀ (a0 : Nat) (x1 : Int32) (x2 : Int32) (x3 : Int32) (x4 : Int32) (m : zM), zT P 10 a0 → zG P G (rec_7 a0 x1 x2 x3 x4 m) m 7 [(0, .ref a0), (1, .int x1), (2, .int x2), (3, .int x3), (4, .int x4)] []) {a0 : Nat} {x1 : Int32} {x3 : Int32} {x4 : Int32} {m : zM} (h_a0 : zT P 10 a0) : zG P G (f_X11_byWeights_b84 P rec_7 a0 x1 x3 x4 m) m 84 [(0, .ref a0), (1, .int x1), (3, .int x3), (4, .int x4)] [] := by
  unfold f_X11_byWeights_b84
  refine z_iload ok 3 dX11_byWeights_84 rfl (show zG P G _ _ 86 _ _ from ?_)
  refine z_istore_n0 ok [(2, .int x4), (0, .ref a0), (1, .int x1), (3, .int x3), (4, .int x4)] dX11_byWeights_86 (by decide) rfl (show zG P G _ _ 87 _ _ from ?_)
  exact z_sub [1, 2, 0, 3, 4] [(0, .ref a0), (1, .int x1), (2, .int x4), (3, .int x3), (4, .int x4)] rfl (t_X11_byWeights_b87 ok rec_7 hr_7 h_a0)
set_option maxRecDepth 100000 in
set_option maxHeartbeats 4000000 in
theorem t_X11_byWeights_b7 {P : zSt} {G : zC} (ok : zOK P G RX11 cX11_byWeights 5 1 23 (some .int))  : ∀ (n : Nat) (a0 : Nat) (x1 : Int32) (x2 : Int32) (x3 : Int32) (x4 : Int32) (m : zM) (h_a0 : zT P 10 a0), zG P G (f_X11_byWeights_b7 P n a0 x1 x2 x3 x4 m) m 7 [(0, .ref a0), (1, .int x1), (2, .int x2), (3, .int x3), (4, .int x4)] [] := by
  intro n
  induction n with
  | zero =>
    intros
    exact zG_none
  | succ n ih =>
    intro a0 x1 x2 x3 x4 m h_a0
    unfold f_X11_byWeights_b7
    have hr_7 := ih
    refine z_iload ok 4 dX11_byWeights_7 rfl (show zG P G _ _ 9 _ _ from ?_)
    refine z_aload_n ok 0 dX11_byWeights_9 rfl (show zG P G _ _ 10 _ _ from ?_)
    refine z_getR ok fd_200 h_a0 (Or.inl rfl) tf_X11_9 dX11_byWeights_10 (fun b10 h_b10 => (show zG P G _ _ 13 _ _ from ?_))
    refine z_sipush ok (144 : Int32) dX11_byWeights_13 (by decide) (show zG P G _ _ 16 _ _ from ?_)
    refine z_iald ok h_b10 dX11_byWeights_16 (show zG P G _ _ 17 _ _ from ?_)
    refine z_icmp_ge ok 93 dX11_byWeights_17 (by decide) ?_ (show zG P G _ _ 20 _ _ from ?_)
    · refine z_aload_n ok 0 dX11_byWeights_93 rfl (show zG P G _ _ 94 _ _ from ?_)
      refine z_iload_n ok 2 dX11_byWeights_94 rfl (show zG P G _ _ 95 _ _ from ?_)
      refine z_iconst ok (4 : Int32) dX11_byWeights_95 (by decide) (show zG P G _ _ 96 _ _ from ?_)
      refine z_aload_n ok 0 dX11_byWeights_96 rfl (show zG P G _ _ 97 _ _ from ?_)
      refine z_iload_n ok 2 dX11_byWeights_97 rfl (show zG P G _ _ 98 _ _ from ?_)
      refine z_iconst ok (4 : Int32) dX11_byWeights_98 (by decide) (show zG P G _ _ 99 _ _ from ?_)
      refine z_callVi ok [.int x2, .int (4 : Int32)] (m_X11_of _ ok.p h_a0) cv_X11_66 h_a0 rfl (by decide) rfl (Nat.le_of_ble_eq_true rfl) rfl dX11_byWeights_99 (fun r99 m99 => (show zG P G _ _ 102 _ _ from ?_))
      refine z_iload_n ok 3 dX11_byWeights_102 rfl (show zG P G _ _ 103 _ _ from ?_)
      refine z_isub ok dX11_byWeights_103 (show zG P G _ _ 104 _ _ from ?_)
      refine z_callVv ok [.int x2, .int (4 : Int32), .int (r99 - x3)] (m_X11_sets _ ok.p h_a0) cv_X11_58 h_a0 rfl (by decide) rfl (Nat.le_of_ble_eq_true rfl) rfl dX11_byWeights_104 (fun _ m104 => (show zG P G _ _ 107 _ _ from ?_))
      refine z_iload_n ok 2 dX11_byWeights_107 rfl (show zG P G _ _ 108 _ _ from ?_)
      exact z_iret ok dX11_byWeights_108
    · refine z_iload_n ok 1 dX11_byWeights_20 rfl (show zG P G _ _ 21 _ _ from ?_)
      refine z_iload ok 4 dX11_byWeights_21 rfl (show zG P G _ _ 23 _ _ from ?_)
      refine z_ishr ok dX11_byWeights_23 (show zG P G _ _ 24 _ _ from ?_)
      refine z_iconst ok (1 : Int32) dX11_byWeights_24 (by decide) (show zG P G _ _ 25 _ _ from ?_)
      refine z_iand ok dX11_byWeights_25 (show zG P G _ _ 26 _ _ from ?_)
      refine z_if_ne ok 32 dX11_byWeights_26 (by decide) ?_ (show zG P G _ _ 29 _ _ from ?_)
      · refine z_aload_n ok 0 dX11_byWeights_32 rfl (show zG P G _ _ 33 _ _ from ?_)
        refine z_iload ok 4 dX11_byWeights_33 rfl (show zG P G _ _ 35 _ _ from ?_)
        refine z_iconst ok (4 : Int32) dX11_byWeights_35 (by decide) (show zG P G _ _ 36 _ _ from ?_)
        refine z_aload_n ok 0 dX11_byWeights_36 rfl (show zG P G _ _ 37 _ _ from ?_)
        refine z_iload ok 4 dX11_byWeights_37 rfl (show zG P G _ _ 39 _ _ from ?_)
        refine z_iconst ok (4 : Int32) dX11_byWeights_39 (by decide) (show zG P G _ _ 40 _ _ from ?_)
        refine z_callVi ok [.int x4, .int (4 : Int32)] (m_X11_of _ ok.p h_a0) cv_X11_66 h_a0 rfl (by decide) rfl (Nat.le_of_ble_eq_true rfl) rfl dX11_byWeights_40 (fun r40 m40 => (show zG P G _ _ 43 _ _ from ?_))
        refine z_aload_n ok 0 dX11_byWeights_43 rfl (show zG P G _ _ 44 _ _ from ?_)
        refine z_iload ok 4 dX11_byWeights_44 rfl (show zG P G _ _ 46 _ _ from ?_)
        refine z_iconst ok (2 : Int32) dX11_byWeights_46 (by decide) (show zG P G _ _ 47 _ _ from ?_)
        refine z_callVi ok [.int x4, .int (2 : Int32)] (m_X11_of _ ok.p h_a0) cv_X11_66 h_a0 rfl (by decide) rfl (Nat.le_of_ble_eq_true rfl) rfl dX11_byWeights_47 (fun r47 m47 => (show zG P G _ _ 50 _ _ from ?_))
        refine z_iadd ok dX11_byWeights_50 (show zG P G _ _ 51 _ _ from ?_)
        refine z_callVv ok [.int x4, .int (4 : Int32), .int (r40 + r47)] (m_X11_sets _ ok.p h_a0) cv_X11_58 h_a0 rfl (by decide) rfl (Nat.le_of_ble_eq_true rfl) rfl dX11_byWeights_51 (fun _ m51 => (show zG P G _ _ 54 _ _ from ?_))
        refine z_iload_n ok 3 dX11_byWeights_54 rfl (show zG P G _ _ 55 _ _ from ?_)
        refine z_aload_n ok 0 dX11_byWeights_55 rfl (show zG P G _ _ 56 _ _ from ?_)
        refine z_iload ok 4 dX11_byWeights_56 rfl (show zG P G _ _ 58 _ _ from ?_)
        refine z_iconst ok (2 : Int32) dX11_byWeights_58 (by decide) (show zG P G _ _ 59 _ _ from ?_)
        refine z_callVi ok [.int x4, .int (2 : Int32)] (m_X11_of _ ok.p h_a0) cv_X11_66 h_a0 rfl (by decide) rfl (Nat.le_of_ble_eq_true rfl) rfl dX11_byWeights_59 (fun r59 m59 => (show zG P G _ _ 62 _ _ from ?_))
        refine z_iadd ok dX11_byWeights_62 (show zG P G _ _ 63 _ _ from ?_)
        refine z_istore_n ok (fun v63 => [(3, .int v63), (0, .ref a0), (1, .int x1), (2, .int x2), (4, .int x4)]) dX11_byWeights_63 (by decide) (fun _ => rfl) (fun v63 => (show zG P G _ _ 64 _ _ from ?_))
        refine z_iload_n ok 3 dX11_byWeights_64 rfl (show zG P G _ _ 65 _ _ from ?_)
        refine z_if_lt ok 84 dX11_byWeights_65 (by decide) ?_ (show zG P G _ _ 68 _ _ from ?_)
        · exact z_sub [1, 2, 0, 4] [(0, .ref a0), (1, .int x1), (3, .int v63), (4, .int x4)] rfl (t_X11_byWeights_b84 ok (f_X11_byWeights_b7 P n) hr_7 h_a0)
        · refine z_aload_n ok 1 dX11_byWeights_68 rfl (show zG P G _ _ 69 _ _ from ?_)
          refine z_iload ok 4 dX11_byWeights_69 rfl (show zG P G _ _ 71 _ _ from ?_)
          refine z_iconst ok (4 : Int32) dX11_byWeights_71 (by decide) (show zG P G _ _ 72 _ _ from ?_)
          refine z_callVi ok [.int x4, .int (4 : Int32)] (m_X11_of _ ok.p h_a0) cv_X11_66 h_a0 rfl (by decide) rfl (Nat.le_of_ble_eq_true rfl) rfl dX11_byWeights_72 (fun r72 m72 => (show zG P G _ _ 75 _ _ from ?_))
          refine z_aload_n ok 1 dX11_byWeights_75 rfl (show zG P G _ _ 76 _ _ from ?_)
          refine z_iload_n ok 3 dX11_byWeights_76 rfl (show zG P G _ _ 77 _ _ from ?_)
          refine z_iconst ok (4 : Int32) dX11_byWeights_77 (by decide) (show zG P G _ _ 78 _ _ from ?_)
          refine z_callVi ok [.int x2, .int (4 : Int32)] (m_X11_of _ ok.p h_a0) cv_X11_66 h_a0 rfl (by decide) rfl (Nat.le_of_ble_eq_true rfl) rfl dX11_byWeights_78 (fun r78 m78 => (show zG P G _ _ 81 _ _ from ?_))
          refine z_icmp_le ok 87 dX11_byWeights_81 (by decide) ?_ (show zG P G _ _ 84 _ _ from ?_)
          · exact z_sub [1, 2, 3, 0, 4] [(0, .ref a0), (1, .int x1), (2, .int x2), (3, .int v63), (4, .int x4)] rfl (t_X11_byWeights_b87 ok (f_X11_byWeights_b7 P n) hr_7 h_a0)
          · exact z_sub [1, 2, 0, 4] [(0, .ref a0), (1, .int x1), (3, .int v63), (4, .int x4)] rfl (t_X11_byWeights_b84 ok (f_X11_byWeights_b7 P n) hr_7 h_a0)
      · refine z_goto ok 87 dX11_byWeights_29 (by decide) ?_
        exact z_sub [0, 1, 2, 3, 4] [(0, .ref a0), (1, .int x1), (2, .int x2), (3, .int x3), (4, .int x4)] rfl (t_X11_byWeights_b87 ok (f_X11_byWeights_b7 P n) hr_7 h_a0)
set_option maxRecDepth 100000 in
set_option maxHeartbeats 4000000 in
theorem m_X11_byWeights (l : Launch) {P : zSt} (hP : zOKP P) {a0 : Nat} {i1 : Int32} (h_a0 : zT P 10 a0) : zMet l P yX11_byWeights cX11_byWeights 5 1 23 (some .int) [.ref a0, .int i1] (fun m => f_X11_byWeights P a0 i1 m) := by
  refine zMet.of hP (by decide +kernel) RX11 rfl [(0, .ref a0), (1, .int i1)] (fun h => h) (Nat.le_of_ble_eq_true rfl) (fun G m ok => ?_)
  show zG P G (f_X11_byWeights P a0 i1 m) m 0 _ []
  unfold f_X11_byWeights
  refine z_iconst ok (-1 : Int32) dX11_byWeights_0 (by decide) (show zG P G _ _ 1 _ _ from ?_)
  refine z_istore_n0 ok [(2, .int (-1 : Int32)), (0, .ref a0), (1, .int i1)] dX11_byWeights_1 (by decide) rfl (show zG P G _ _ 2 _ _ from ?_)
  refine z_iconst ok (0 : Int32) dX11_byWeights_2 (by decide) (show zG P G _ _ 3 _ _ from ?_)
  refine z_istore_n0 ok [(3, .int (0 : Int32)), (2, .int (-1 : Int32)), (0, .ref a0), (1, .int i1)] dX11_byWeights_3 (by decide) rfl (show zG P G _ _ 4 _ _ from ?_)
  refine z_iconst ok (0 : Int32) dX11_byWeights_4 (by decide) (show zG P G _ _ 5 _ _ from ?_)
  refine z_istore0 ok [(4, .int (0 : Int32)), (3, .int (0 : Int32)), (2, .int (-1 : Int32)), (0, .ref a0), (1, .int i1)] dX11_byWeights_5 (by decide) rfl (show zG P G _ _ 7 _ _ from ?_)
  exact z_sub [3, 4, 2, 1, 0] [(0, .ref a0), (1, .int i1), (2, .int (-1 : Int32)), (3, .int (0 : Int32)), (4, .int (0 : Int32))] rfl (t_X11_byWeights_b7 ok zfuel _ _ _ _ _ _ h_a0)
set_option maxRecDepth 100000 in
set_option maxHeartbeats 4000000 in
theorem t_X11_leastUsed_b60 {P : zSt} {G : zC} (ok : zOK P G RX11 cX11_leastUsed 4 1 22 (some .int)) (rec_4 : Nat → Int32 → Int32 → Int32 → zM → Option (Int32 × zM)) (hr_4 : ∀ (a0 : Nat) (x1 : Int32) (x2 : Int32) (x3 : Int32) (m : zM), zT P 10 a0 → zG P G (rec_4 a0 x1 x2 x3 m) m 4 [(0, .ref a0), (1, .int x1), (2, .int x2), (3, .int x3)] []) {a0 : Nat} {x1 : Int32} {x2 : Int32} {x3 : Int32} {m : zM} (h_a0 : zT P 10 a0) : zG P G (f_X11_leastUsed_b60 P rec_4 a0 x1 x2 x3 m) m 60 [(0, .ref a0), (1, .int x1), (2, .int x2), (3, .int x3)] [] := by
  unfold f_X11_leastUsed_b60
  refine z_iinc ok (fun v60 => [(3, .int v60), (0, .ref a0), (1, .int x1), (2, .int x2)]) 3 dX11_leastUsed_60 rfl (by decide) (by decide) (fun _ => rfl) (fun v60 => (show zG P G _ _ 63 _ _ from ?_))
  refine z_goto ok 4 dX11_leastUsed_63 (by decide) ?_
  exact z_sub [1, 2, 3, 0] [(0, .ref a0), (1, .int x1), (2, .int x2), (3, .int v60)] rfl (hr_4 _ _ _ _ _ h_a0)
set_option maxRecDepth 100000 in
set_option maxHeartbeats 4000000 in
theorem t_X11_leastUsed_b58 {P : zSt} {G : zC} (ok : zOK P G RX11 cX11_leastUsed 4 1 22 (some .int)) (rec_4 : Nat → Int32 → Int32 → Int32 → zM → Option (Int32 × zM)) (hr_4 : ∀ (a0 : Nat) (x1 : Int32) (x2 : Int32) (x3 : Int32) (m : zM), zT P 10 a0 → zG P G (rec_4 a0 x1 x2 x3 m) m 4 [(0, .ref a0), (1, .int x1), (2, .int x2), (3, .int x3)] []) {a0 : Nat} {x1 : Int32} {x3 : Int32} {m : zM} (h_a0 : zT P 10 a0) : zG P G (f_X11_leastUsed_b58 P rec_4 a0 x1 x3 m) m 58 [(0, .ref a0), (1, .int x1), (3, .int x3)] [] := by
  unfold f_X11_leastUsed_b58
  refine z_iload_n ok 2 dX11_leastUsed_58 rfl (show zG P G _ _ 59 _ _ from ?_)
  refine z_istore_n0 ok [(2, .int x3), (0, .ref a0), (1, .int x1), (3, .int x3)] dX11_leastUsed_59 (by decide) rfl (show zG P G _ _ 60 _ _ from ?_)
  exact z_sub [1, 2, 0, 3] [(0, .ref a0), (1, .int x1), (2, .int x3), (3, .int x3)] rfl (t_X11_leastUsed_b60 ok rec_4 hr_4 h_a0)
set_option maxRecDepth 100000 in
set_option maxHeartbeats 4000000 in
theorem t_X11_leastUsed_b4 {P : zSt} {G : zC} (ok : zOK P G RX11 cX11_leastUsed 4 1 22 (some .int))  : ∀ (n : Nat) (a0 : Nat) (x1 : Int32) (x2 : Int32) (x3 : Int32) (m : zM) (h_a0 : zT P 10 a0), zG P G (f_X11_leastUsed_b4 P n a0 x1 x2 x3 m) m 4 [(0, .ref a0), (1, .int x1), (2, .int x2), (3, .int x3)] [] := by
  intro n
  induction n with
  | zero =>
    intros
    exact zG_none
  | succ n ih =>
    intro a0 x1 x2 x3 m h_a0
    unfold f_X11_leastUsed_b4
    have hr_4 := ih
    refine z_iload_n ok 3 dX11_leastUsed_4 rfl (show zG P G _ _ 5 _ _ from ?_)
    refine z_aload_n ok 0 dX11_leastUsed_5 rfl (show zG P G _ _ 6 _ _ from ?_)
    refine z_getR ok fd_200 h_a0 (Or.inl rfl) tf_X11_9 dX11_leastUsed_6 (fun b6 h_b6 => (show zG P G _ _ 9 _ _ from ?_))
    refine z_sipush ok (144 : Int32) dX11_leastUsed_9 (by decide) (show zG P G _ _ 12 _ _ from ?_)
    refine z_iald ok h_b6 dX11_leastUsed_12 (show zG P G _ _ 13 _ _ from ?_)
    refine z_icmp_ge ok 66 dX11_leastUsed_13 (by decide) ?_ (show zG P G _ _ 16 _ _ from ?_)
    · refine z_iload_n ok 2 dX11_leastUsed_66 rfl (show zG P G _ _ 67 _ _ from ?_)
      exact z_iret ok dX11_leastUsed_67
    · refine z_iload_n ok 1 dX11_leastUsed_16 rfl (show zG P G _ _ 17 _ _ from ?_)
      refine z_iload_n ok 3 dX11_leastUsed_17 rfl (show zG P G _ _ 18 _ _ from ?_)
      refine z_ishr ok dX11_leastUsed_18 (show zG P G _ _ 19 _ _ from ?_)
      refine z_iconst ok (1 : Int32) dX11_leastUsed_19 (by decide) (show zG P G _ _ 20 _ _ from ?_)
      refine z_iand ok dX11_leastUsed_20 (show zG P G _ _ 21 _ _ from ?_)
      refine z_iconst ok (1 : Int32) dX11_leastUsed_21 (by decide) (show zG P G _ _ 22 _ _ from ?_)
      refine z_icmp_ne ok 60 dX11_leastUsed_22 (by decide) ?_ (show zG P G _ _ 25 _ _ from ?_)
      · exact z_sub [0, 1, 2, 3] [(0, .ref a0), (1, .int x1), (2, .int x2), (3, .int x3)] rfl (t_X11_leastUsed_b60 ok (f_X11_leastUsed_b4 P n) hr_4 h_a0)
      · refine z_iload_n ok 2 dX11_leastUsed_25 rfl (show zG P G _ _ 26 _ _ from ?_)
        refine z_if_lt ok 58 dX11_leastUsed_26 (by decide) ?_ (show zG P G _ _ 29 _ _ from ?_)
        · exact z_sub [0, 1, 3] [(0, .ref a0), (1, .int x1), (3, .int x3)] rfl (t_X11_leastUsed_b58 ok (f_X11_leastUsed_b4 P n) hr_4 h_a0)
        · refine z_aload_n ok 0 dX11_leastUsed_29 rfl (show zG P G _ _ 30 _ _ from ?_)
          refine z_iload_n ok 3 dX11_leastUsed_30 rfl (show zG P G _ _ 31 _ _ from ?_)
          refine z_iconst ok (5 : Int32) dX11_leastUsed_31 (by decide) (show zG P G _ _ 32 _ _ from ?_)
          refine z_callVi ok [.int x3, .int (5 : Int32)] (m_X11_of _ ok.p h_a0) cv_X11_66 h_a0 rfl (by decide) rfl (Nat.le_of_ble_eq_true rfl) rfl dX11_leastUsed_32 (fun r32 m32 => (show zG P G _ _ 35 _ _ from ?_))
          refine z_aload_n ok 0 dX11_leastUsed_35 rfl (show zG P G _ _ 36 _ _ from ?_)
          refine z_iload_n ok 2 dX11_leastUsed_36 rfl (show zG P G _ _ 37 _ _ from ?_)
          refine z_iconst ok (2 : Int32) dX11_leastUsed_37 (by decide) (show zG P G _ _ 38 _ _ from ?_)
          refine z_callVi ok [.int x2, .int (2 : Int32)] (m_X11_of _ ok.p h_a0) cv_X11_66 h_a0 rfl (by decide) rfl (Nat.le_of_ble_eq_true rfl) rfl dX11_leastUsed_38 (fun r38 m38 => (show zG P G _ _ 41 _ _ from ?_))
          refine z_imul ok dX11_leastUsed_41 (show zG P G _ _ 42 _ _ from ?_)
          refine z_aload_n ok 0 dX11_leastUsed_42 rfl (show zG P G _ _ 43 _ _ from ?_)
          refine z_iload_n ok 2 dX11_leastUsed_43 rfl (show zG P G _ _ 44 _ _ from ?_)
          refine z_iconst ok (5 : Int32) dX11_leastUsed_44 (by decide) (show zG P G _ _ 45 _ _ from ?_)
          refine z_callVi ok [.int x2, .int (5 : Int32)] (m_X11_of _ ok.p h_a0) cv_X11_66 h_a0 rfl (by decide) rfl (Nat.le_of_ble_eq_true rfl) rfl dX11_leastUsed_45 (fun r45 m45 => (show zG P G _ _ 48 _ _ from ?_))
          refine z_aload_n ok 0 dX11_leastUsed_48 rfl (show zG P G _ _ 49 _ _ from ?_)
          refine z_iload_n ok 3 dX11_leastUsed_49 rfl (show zG P G _ _ 50 _ _ from ?_)
          refine z_iconst ok (2 : Int32) dX11_leastUsed_50 (by decide) (show zG P G _ _ 51 _ _ from ?_)
          refine z_callVi ok [.int x3, .int (2 : Int32)] (m_X11_of _ ok.p h_a0) cv_X11_66 h_a0 rfl (by decide) rfl (Nat.le_of_ble_eq_true rfl) rfl dX11_leastUsed_51 (fun r51 m51 => (show zG P G _ _ 54 _ _ from ?_))
          refine z_imul ok dX11_leastUsed_54 (show zG P G _ _ 55 _ _ from ?_)
          refine z_icmp_ge ok 60 dX11_leastUsed_55 (by decide) ?_ (show zG P G _ _ 58 _ _ from ?_)
          · exact z_sub [0, 1, 2, 3] [(0, .ref a0), (1, .int x1), (2, .int x2), (3, .int x3)] rfl (t_X11_leastUsed_b60 ok (f_X11_leastUsed_b4 P n) hr_4 h_a0)
          · exact z_sub [0, 1, 3] [(0, .ref a0), (1, .int x1), (3, .int x3)] rfl (t_X11_leastUsed_b58 ok (f_X11_leastUsed_b4 P n) hr_4 h_a0)
set_option maxRecDepth 100000 in
set_option maxHeartbeats 4000000 in
theorem m_X11_leastUsed (l : Launch) {P : zSt} (hP : zOKP P) {a0 : Nat} {i1 : Int32} (h_a0 : zT P 10 a0) : zMet l P yX11_leastUsed cX11_leastUsed 4 1 22 (some .int) [.ref a0, .int i1] (fun m => f_X11_leastUsed P a0 i1 m) := by
  refine zMet.of hP (by decide +kernel) RX11 rfl [(0, .ref a0), (1, .int i1)] (fun h => h) (Nat.le_of_ble_eq_true rfl) (fun G m ok => ?_)
  show zG P G (f_X11_leastUsed P a0 i1 m) m 0 _ []
  unfold f_X11_leastUsed
  refine z_iconst ok (-1 : Int32) dX11_leastUsed_0 (by decide) (show zG P G _ _ 1 _ _ from ?_)
  refine z_istore_n0 ok [(2, .int (-1 : Int32)), (0, .ref a0), (1, .int i1)] dX11_leastUsed_1 (by decide) rfl (show zG P G _ _ 2 _ _ from ?_)
  refine z_iconst ok (0 : Int32) dX11_leastUsed_2 (by decide) (show zG P G _ _ 3 _ _ from ?_)
  refine z_istore_n0 ok [(3, .int (0 : Int32)), (2, .int (-1 : Int32)), (0, .ref a0), (1, .int i1)] dX11_leastUsed_3 (by decide) rfl (show zG P G _ _ 4 _ _ from ?_)
  exact z_sub [2, 3, 1, 0] [(0, .ref a0), (1, .int i1), (2, .int (-1 : Int32)), (3, .int (0 : Int32))] rfl (t_X11_leastUsed_b4 ok zfuel _ _ _ _ _ h_a0)

set_option maxRecDepth 100000 in
set_option maxHeartbeats 4000000 in
theorem t_X11_weights_b36 {P : zSt} {G : zC} (ok : zOK P G RX11 cX11_weights 4 1 22 (some .int)) (rec_4 : Nat → Int32 → Int32 → Int32 → zM → Option (Int32 × zM)) (hr_4 : ∀ (a0 : Nat) (x1 : Int32) (x2 : Int32) (x3 : Int32) (m : zM), zT P 10 a0 → zG P G (rec_4 a0 x1 x2 x3 m) m 4 [(0, .ref a0), (1, .int x1), (2, .int x2), (3, .int x3)] []) {a0 : Nat} {x1 : Int32} {x3 : Int32} {s0 : Int32} {s1 : Int32} {m : zM} (h_a0 : zT P 10 a0) : zG P G (f_X11_weights_b36 P rec_4 a0 x1 x3 s0 s1 m) m 36 [(0, .ref a0), (1, .int x1), (3, .int x3)] [.int s0, .int s1] := by
  unfold f_X11_weights_b36
  refine z_iadd ok dX11_weights_36 (show zG P G _ _ 37 _ _ from ?_)
  refine z_istore_n ok (fun v37 => [(2, .int v37), (0, .ref a0), (1, .int x1), (3, .int x3)]) dX11_weights_37 (by decide) (fun _ => rfl) (fun v37 => (show zG P G _ _ 38 _ _ from ?_))
  refine z_iinc ok (fun v38 => [(3, .int v38), (2, .int v37), (0, .ref a0), (1, .int x1)]) 3 dX11_weights_38 rfl (by decide) (by decide) (fun _ => rfl) (fun v38 => (show zG P G _ _ 41 _ _ from ?_))
  refine z_goto ok 4 dX11_weights_41 (by decide) ?_
  exact z_sub [2, 3, 1, 0] [(0, .ref a0), (1, .int x1), (2, .int v37), (3, .int v38)] rfl (hr_4 _ _ _ _ _ h_a0)
set_option maxRecDepth 100000 in
set_option maxHeartbeats 4000000 in
theorem t_X11_weights_b4 {P : zSt} {G : zC} (ok : zOK P G RX11 cX11_weights 4 1 22 (some .int))  : ∀ (n : Nat) (a0 : Nat) (x1 : Int32) (x2 : Int32) (x3 : Int32) (m : zM) (h_a0 : zT P 10 a0), zG P G (f_X11_weights_b4 P n a0 x1 x2 x3 m) m 4 [(0, .ref a0), (1, .int x1), (2, .int x2), (3, .int x3)] [] := by
  intro n
  induction n with
  | zero =>
    intros
    exact zG_none
  | succ n ih =>
    intro a0 x1 x2 x3 m h_a0
    unfold f_X11_weights_b4
    have hr_4 := ih
    refine z_iload_n ok 3 dX11_weights_4 rfl (show zG P G _ _ 5 _ _ from ?_)
    refine z_aload_n ok 0 dX11_weights_5 rfl (show zG P G _ _ 6 _ _ from ?_)
    refine z_getR ok fd_200 h_a0 (Or.inl rfl) tf_X11_9 dX11_weights_6 (fun b6 h_b6 => (show zG P G _ _ 9 _ _ from ?_))
    refine z_sipush ok (144 : Int32) dX11_weights_9 (by decide) (show zG P G _ _ 12 _ _ from ?_)
    refine z_iald ok h_b6 dX11_weights_12 (show zG P G _ _ 13 _ _ from ?_)
    refine z_icmp_ge ok 44 dX11_weights_13 (by decide) ?_ (show zG P G _ _ 16 _ _ from ?_)
    · refine z_iload_n ok 2 dX11_weights_44 rfl (show zG P G _ _ 45 _ _ from ?_)
      exact z_iret ok dX11_weights_45
    · refine z_iload_n ok 2 dX11_weights_16 rfl (show zG P G _ _ 17 _ _ from ?_)
      refine z_iload_n ok 1 dX11_weights_17 rfl (show zG P G _ _ 18 _ _ from ?_)
      refine z_iload_n ok 3 dX11_weights_18 rfl (show zG P G _ _ 19 _ _ from ?_)
      refine z_ishr ok dX11_weights_19 (show zG P G _ _ 20 _ _ from ?_)
      refine z_iconst ok (1 : Int32) dX11_weights_20 (by decide) (show zG P G _ _ 21 _ _ from ?_)
      refine z_iand ok dX11_weights_21 (show zG P G _ _ 22 _ _ from ?_)
      refine z_iconst ok (1 : Int32) dX11_weights_22 (by decide) (show zG P G _ _ 23 _ _ from ?_)
      refine z_icmp_ne ok 35 dX11_weights_23 (by decide) ?_ (show zG P G _ _ 26 _ _ from ?_)
      · refine z_iconst ok (0 : Int32) dX11_weights_35 (by decide) (show zG P G _ _ 36 _ _ from ?_)
        exact z_sub [0, 1, 3] [(0, .ref a0), (1, .int x1), (3, .int x3)] rfl (t_X11_weights_b36 ok (f_X11_weights_b4 P n) hr_4 h_a0)
      · refine z_aload_n ok 0 dX11_weights_26 rfl (show zG P G _ _ 27 _ _ from ?_)
        refine z_iload_n ok 3 dX11_weights_27 rfl (show zG P G _ _ 28 _ _ from ?_)
        refine z_iconst ok (2 : Int32) dX11_weights_28 (by decide) (show zG P G _ _ 29 _ _ from ?_)
        refine z_callVi ok [.int x3, .int (2 : Int32)] (m_X11_of _ ok.p h_a0) cv_X11_66 h_a0 rfl (by decide) rfl (Nat.le_of_ble_eq_true rfl) rfl dX11_weights_29 (fun r29 m29 => (show zG P G _ _ 32 _ _ from ?_))
        refine z_goto ok 36 dX11_weights_32 (by decide) ?_
        exact z_sub [0, 1, 3] [(0, .ref a0), (1, .int x1), (3, .int x3)] rfl (t_X11_weights_b36 ok (f_X11_weights_b4 P n) hr_4 h_a0)
set_option maxRecDepth 100000 in
set_option maxHeartbeats 4000000 in
theorem m_X11_weights (l : Launch) {P : zSt} (hP : zOKP P) {a0 : Nat} {i1 : Int32} (h_a0 : zT P 10 a0) : zMet l P yX11_weights cX11_weights 4 1 22 (some .int) [.ref a0, .int i1] (fun m => f_X11_weights P a0 i1 m) := by
  refine zMet.of hP (by decide +kernel) RX11 rfl [(0, .ref a0), (1, .int i1)] (fun h => h) (Nat.le_of_ble_eq_true rfl) (fun G m ok => ?_)
  show zG P G (f_X11_weights P a0 i1 m) m 0 _ []
  unfold f_X11_weights
  refine z_iconst ok (0 : Int32) dX11_weights_0 (by decide) (show zG P G _ _ 1 _ _ from ?_)
  refine z_istore_n0 ok [(2, .int (0 : Int32)), (0, .ref a0), (1, .int i1)] dX11_weights_1 (by decide) rfl (show zG P G _ _ 2 _ _ from ?_)
  refine z_iconst ok (0 : Int32) dX11_weights_2 (by decide) (show zG P G _ _ 3 _ _ from ?_)
  refine z_istore_n0 ok [(3, .int (0 : Int32)), (2, .int (0 : Int32)), (0, .ref a0), (1, .int i1)] dX11_weights_3 (by decide) rfl (show zG P G _ _ 4 _ _ from ?_)
  exact z_sub [2, 3, 1, 0] [(0, .ref a0), (1, .int i1), (2, .int (0 : Int32)), (3, .int (0 : Int32))] rfl (t_X11_weights_b4 ok zfuel _ _ _ _ _ h_a0)
set_option maxRecDepth 100000 in
set_option maxHeartbeats 4000000 in
theorem t_X11_narrowed_b70 {P : zSt} {G : zC} (ok : zOK P G RX11 cX11_narrowed 10 2 45 (some .int)) (rec_9 : Nat → Int32 → Int32 → Int32 → Int32 → Int32 → Int32 → zM → Option (Int32 × zM)) (hr_9 : ∀ (a0 : Nat) (x1 : Int32) (x2 : Int32) (x3 : Int32) (x4 : Int32) (x5 : Int32) (x6 : Int32) (m : zM), zT P 10 a0 → zG P G (rec_9 a0 x1 x2 x3 x4 x5 x6 m) m 9 [(0, .ref a0), (1, .int x1), (2, .int x2), (3, .int x3), (4, .int x4), (5, .int x5), (6, .int x6)] []) {a0 : Nat} {x1 : Int32} {x2 : Int32} {x3 : Int32} {x4 : Int32} {x5 : Int32} {x6 : Int32} {m : zM} (h_a0 : zT P 10 a0) : zG P G (f_X11_narrowed_b70 P rec_9 a0 x1 x2 x3 x4 x5 x6 m) m 70 [(0, .ref a0), (1, .int x1), (2, .int x2), (3, .int x3), (4, .int x4), (5, .int x5), (6, .int x6)] [] := by
  unfold f_X11_narrowed_b70
  refine z_iinc ok (fun v70 => [(6, .int v70), (0, .ref a0), (1, .int x1), (2, .int x2), (3, .int x3), (4, .int x4), (5, .int x5)]) 6 dX11_narrowed_70 rfl (by decide) (by decide) (fun _ => rfl) (fun v70 => (show zG P G _ _ 73 _ _ from ?_))
  refine z_goto ok 9 dX11_narrowed_73 (by decide) ?_
  exact z_sub [1, 2, 3, 4, 5, 6, 0] [(0, .ref a0), (1, .int x1), (2, .int x2), (3, .int x3), (4, .int x4), (5, .int x5), (6, .int v70)] rfl (hr_9 _ _ _ _ _ _ _ _ h_a0)
set_option maxRecDepth 100000 in
set_option maxHeartbeats 4000000 in
theorem t_X11_narrowed_b67 {P : zSt} {G : zC} (ok : zOK P G RX11 cX11_narrowed 10 2 45 (some .int)) (rec_9 : Nat → Int32 → Int32 → Int32 → Int32 → Int32 → Int32 → zM → Option (Int32 × zM)) (hr_9 : ∀ (a0 : Nat) (x1 : Int32) (x2 : Int32) (x3 : Int32) (x4 : Int32) (x5 : Int32) (x6 : Int32) (m : zM), zT P 10 a0 → zG P G (rec_9 a0 x1 x2 x3 x4 x5 x6 m) m 9 [(0, .ref a0), (1, .int x1), (2, .int x2), (3, .int x3), (4, .int x4), (5, .int x5), (6, .int x6)] []) {a0 : Nat} {x1 : Int32} {x2 : Int32} {x3 : Int32} {x4 : Int32} {x6 : Int32} {s0 : Int32} {s1 : Int32} {m : zM} (h_a0 : zT P 10 a0) : zG P G (f_X11_narrowed_b67 P rec_9 a0 x1 x2 x3 x4 x6 s0 s1 m) m 67 [(0, .ref a0), (1, .int x1), (2, .int x2), (3, .int x3), (4, .int x4), (6, .int x6)] [.int s0, .int s1] := by
  unfold f_X11_narrowed_b67
  refine z_ior ok dX11_narrowed_67 (show zG P G _ _ 68 _ _ from ?_)
  refine z_istore ok (fun v68 => [(5, .int v68), (0, .ref a0), (1, .int x1), (2, .int x2), (3, .int x3), (4, .int x4), (6, .int x6)]) dX11_narrowed_68 (by decide) (fun _ => rfl) (fun v68 => (show zG P G _ _ 70 _ _ from ?_))
  exact z_sub [1, 2, 3, 4, 5, 0, 6] [(0, .ref a0), (1, .int x1), (2, .int x2), (3, .int x3), (4, .int x4), (5, .int v68), (6, .int x6)] rfl (t_X11_narrowed_b70 ok rec_9 hr_9 h_a0)
set_option maxRecDepth 100000 in
set_option maxHeartbeats 4000000 in
theorem t_X11_narrowed_b87 {P : zSt} {G : zC} (ok : zOK P G RX11 cX11_narrowed 10 2 45 (some .int))  {x1 : Int32} {m : zM}  : zG P G (f_X11_narrowed_b87 P x1 m) m 87 [(1, .int x1)] [] := by
  unfold f_X11_narrowed_b87
  refine z_iload_n ok 0 dX11_narrowed_87 rfl (show zG P G _ _ 88 _ _ from ?_)
  exact z_iret ok dX11_narrowed_88
set_option maxRecDepth 100000 in
set_option maxHeartbeats 4000000 in
theorem t_X11_narrowed_b125 {P : zSt} {G : zC} (ok : zOK P G RX11 cX11_narrowed 10 2 45 (some .int))  {a0 : Nat} {x1 : Int32} {x2 : Int32} {x3 : Int32} {x4 : Int32} {x6 : Int32} {x7 : Int32} {s0 : Int32} {m : zM} (h_a0 : zT P 10 a0) : zG P G (f_X11_narrowed_b125 P a0 x1 x2 x3 x4 x6 x7 s0 m) m 125 [(0, .ref a0), (1, .int x1), (2, .int x2), (3, .int x3), (4, .int x4), (6, .int x6), (7, .int x7)] [.int s0] := by
  unfold f_X11_narrowed_b125
  refine z_istore0 ok [(8, .int s0), (0, .ref a0), (1, .int x1), (2, .int x2), (3, .int x3), (4, .int x4), (6, .int x6), (7, .int x7)] dX11_narrowed_125 (by decide) rfl (show zG P G _ _ 127 _ _ from ?_)
  refine z_bipush ok (100 : Int32) dX11_narrowed_127 (by decide) (show zG P G _ _ 129 _ _ from ?_)
  refine z_iload ok 6 dX11_narrowed_129 rfl (show zG P G _ _ 131 _ _ from ?_)
  refine z_imul ok dX11_narrowed_131 (show zG P G _ _ 132 _ _ from ?_)
  refine z_iload ok 0 dX11_narrowed_132 rfl (show zG P G _ _ 134 _ _ from ?_)
  refine z_iload ok 7 dX11_narrowed_134 rfl (show zG P G _ _ 136 _ _ from ?_)
  refine z_imul ok dX11_narrowed_136 (show zG P G _ _ 137 _ _ from ?_)
  refine z_icmp_lt ok 143 dX11_narrowed_137 (by decide) ?_ (show zG P G _ _ 140 _ _ from ?_)
  · refine z_sipush ok (145 : Int32) dX11_narrowed_143 (by decide) (show zG P G _ _ 146 _ _ from ?_)
    refine z_bipush ok (21 : Int32) dX11_narrowed_146 (by decide) (show zG P G _ _ 148 _ _ from ?_)
    refine z_iload_n ok 3 dX11_narrowed_148 rfl (show zG P G _ _ 149 _ _ from ?_)
    refine z_imul ok dX11_narrowed_149 (show zG P G _ _ 150 _ _ from ?_)
    refine z_iadd ok dX11_narrowed_150 (show zG P G _ _ 151 _ _ from ?_)
    refine z_bipush ok (8 : Int32) dX11_narrowed_151 (by decide) (show zG P G _ _ 153 _ _ from ?_)
    refine z_iadd ok dX11_narrowed_153 (show zG P G _ _ 154 _ _ from ?_)
    refine z_iload_n ok 4 dX11_narrowed_154 rfl (show zG P G _ _ 155 _ _ from ?_)
    refine z_iadd ok dX11_narrowed_155 (show zG P G _ _ 156 _ _ from ?_)
    refine z_istore ok (fun v156 => [(9, .int v156), (8, .int s0), (0, .ref a0), (1, .int x1), (2, .int x2), (3, .int x3), (4, .int x4), (6, .int x6), (7, .int x7)]) dX11_narrowed_156 (by decide) (fun _ => rfl) (fun v156 => (show zG P G _ _ 158 _ _ from ?_))
    refine z_aload_n ok 2 dX11_narrowed_158 rfl (show zG P G _ _ 159 _ _ from ?_)
    refine z_getR ok fd_200 h_a0 (Or.inl rfl) tf_X11_9 dX11_narrowed_159 (fun b159 h_b159 => (show zG P G _ _ 162 _ _ from ?_))
    refine z_iload ok 0 dX11_narrowed_162 rfl (show zG P G _ _ 164 _ _ from ?_)
    refine z_dup2 ok dX11_narrowed_164 rfl rfl (show zG P G _ _ 165 _ _ from ?_)
    refine z_iald ok h_b159 dX11_narrowed_165 (show zG P G _ _ 166 _ _ from ?_)
    refine z_sipush ok (10000 : Int32) dX11_narrowed_166 (by decide) (show zG P G _ _ 169 _ _ from ?_)
    refine z_iload ok 7 dX11_narrowed_169 rfl (show zG P G _ _ 171 _ _ from ?_)
    refine z_imul ok dX11_narrowed_171 (show zG P G _ _ 172 _ _ from ?_)
    refine z_iload ok 1 dX11_narrowed_172 rfl (show zG P G _ _ 174 _ _ from ?_)
    refine z_iload ok 8 dX11_narrowed_174 rfl (show zG P G _ _ 176 _ _ from ?_)
    refine z_imul ok dX11_narrowed_176 (show zG P G _ _ 177 _ _ from ?_)
    refine z_idiv ok dX11_narrowed_177 (show zG P G _ _ 178 _ _ from ?_)
    refine z_iadd ok dX11_narrowed_178 (show zG P G _ _ 179 _ _ from ?_)
    refine z_iast ok h_b159 dX11_narrowed_179 (fun m179 => (show zG P G _ _ 180 _ _ from ?_))
    refine z_aload_n ok 2 dX11_narrowed_180 rfl (show zG P G _ _ 181 _ _ from ?_)
    refine z_getR ok fd_200 h_a0 (Or.inl rfl) tf_X11_9 dX11_narrowed_181 (fun b181 h_b181 => (show zG P G _ _ 184 _ _ from ?_))
    refine z_iload ok 0 dX11_narrowed_184 rfl (show zG P G _ _ 186 _ _ from ?_)
    refine z_iald ok h_b181 dX11_narrowed_186 (show zG P G _ _ 187 _ _ from ?_)
    refine z_bipush ok (100 : Int32) dX11_narrowed_187 (by decide) (show zG P G _ _ 189 _ _ from ?_)
    refine z_icmp_ge ok 199 dX11_narrowed_189 (by decide) ?_ (show zG P G _ _ 192 _ _ from ?_)
    · refine z_aload_n ok 2 dX11_narrowed_199 rfl (show zG P G _ _ 200 _ _ from ?_)
      refine z_getR ok fd_200 h_a0 (Or.inl rfl) tf_X11_9 dX11_narrowed_200 (fun b200 h_b200 => (show zG P G _ _ 203 _ _ from ?_))
      refine z_iload ok 0 dX11_narrowed_203 rfl (show zG P G _ _ 205 _ _ from ?_)
      refine z_dup2 ok dX11_narrowed_205 rfl rfl (show zG P G _ _ 206 _ _ from ?_)
      refine z_iald ok h_b200 dX11_narrowed_206 (show zG P G _ _ 207 _ _ from ?_)
      refine z_bipush ok (100 : Int32) dX11_narrowed_207 (by decide) (show zG P G _ _ 209 _ _ from ?_)
      refine z_isub ok dX11_narrowed_209 (show zG P G _ _ 210 _ _ from ?_)
      refine z_iast ok h_b200 dX11_narrowed_210 (fun m210 => (show zG P G _ _ 211 _ _ from ?_))
      refine z_iload ok 6 dX11_narrowed_211 rfl (show zG P G _ _ 213 _ _ from ?_)
      exact z_iret ok dX11_narrowed_213
    · refine z_iload_n ok 3 dX11_narrowed_192 rfl (show zG P G _ _ 193 _ _ from ?_)
      refine z_iload ok 6 dX11_narrowed_193 rfl (show zG P G _ _ 195 _ _ from ?_)
      refine z_iconst ok (-1 : Int32) dX11_narrowed_195 (by decide) (show zG P G _ _ 196 _ _ from ?_)
      refine z_ixor ok dX11_narrowed_196 (show zG P G _ _ 197 _ _ from ?_)
      refine z_iand ok dX11_narrowed_197 (show zG P G _ _ 198 _ _ from ?_)
      exact z_iret ok dX11_narrowed_198
  · refine z_iload ok 5 dX11_narrowed_140 rfl (show zG P G _ _ 142 _ _ from ?_)
    exact z_iret ok dX11_narrowed_142
set_option maxRecDepth 100000 in
set_option maxHeartbeats 4000000 in
theorem t_X11_narrowed_b9 {P : zSt} {G : zC} (ok : zOK P G RX11 cX11_narrowed 10 2 45 (some .int))  : ∀ (n : Nat) (a0 : Nat) (x1 : Int32) (x2 : Int32) (x3 : Int32) (x4 : Int32) (x5 : Int32) (x6 : Int32) (m : zM) (h_a0 : zT P 10 a0), zG P G (f_X11_narrowed_b9 P n a0 x1 x2 x3 x4 x5 x6 m) m 9 [(0, .ref a0), (1, .int x1), (2, .int x2), (3, .int x3), (4, .int x4), (5, .int x5), (6, .int x6)] [] := by
  intro n
  induction n with
  | zero =>
    intros
    exact zG_none
  | succ n ih =>
    intro a0 x1 x2 x3 x4 x5 x6 m h_a0
    unfold f_X11_narrowed_b9
    have hr_9 := ih
    refine z_iload ok 6 dX11_narrowed_9 rfl (show zG P G _ _ 11 _ _ from ?_)
    refine z_aload_n ok 0 dX11_narrowed_11 rfl (show zG P G _ _ 12 _ _ from ?_)
    refine z_getR ok fd_200 h_a0 (Or.inl rfl) tf_X11_9 dX11_narrowed_12 (fun b12 h_b12 => (show zG P G _ _ 15 _ _ from ?_))
    refine z_sipush ok (144 : Int32) dX11_narrowed_15 (by decide) (show zG P G _ _ 18 _ _ from ?_)
    refine z_iald ok h_b12 dX11_narrowed_18 (show zG P G _ _ 19 _ _ from ?_)
    refine z_icmp_ge ok 76 dX11_narrowed_19 (by decide) ?_ (show zG P G _ _ 22 _ _ from ?_)
    · refine z_iload ok 4 dX11_narrowed_76 rfl (show zG P G _ _ 78 _ _ from ?_)
      refine z_if_eq ok 87 dX11_narrowed_78 (by decide) ?_ (show zG P G _ _ 81 _ _ from ?_)
      · exact z_sub [1] [(1, .int x1)] rfl (t_X11_narrowed_b87 ok)
      · refine z_iload ok 4 dX11_narrowed_81 rfl (show zG P G _ _ 83 _ _ from ?_)
        refine z_iload_n ok 1 dX11_narrowed_83 rfl (show zG P G _ _ 84 _ _ from ?_)
        refine z_icmp_ne ok 89 dX11_narrowed_84 (by decide) ?_ (show zG P G _ _ 87 _ _ from ?_)
        · refine z_aload_n ok 0 dX11_narrowed_89 rfl (show zG P G _ _ 90 _ _ from ?_)
          refine z_iload ok 4 dX11_narrowed_90 rfl (show zG P G _ _ 92 _ _ from ?_)
          refine z_callVi ok [.int x4] (m_X11_weights _ ok.p h_a0) cv_X11_130 h_a0 rfl (by decide) rfl (Nat.le_of_ble_eq_true rfl) rfl dX11_narrowed_92 (fun r92 m92 => (show zG P G _ _ 95 _ _ from ?_))
          refine z_istore0 ok [(6, .int r92), (0, .ref a0), (1, .int x1), (2, .int x2), (3, .int x3), (4, .int x4), (5, .int x5)] dX11_narrowed_95 (by decide) rfl (show zG P G _ _ 97 _ _ from ?_)
          refine z_aload_n ok 1 dX11_narrowed_97 rfl (show zG P G _ _ 98 _ _ from ?_)
          refine z_iload ok 6 dX11_narrowed_98 rfl (show zG P G _ _ 100 _ _ from ?_)
          refine z_callVi ok [.int x5] (m_X11_weights _ ok.p h_a0) cv_X11_130 h_a0 rfl (by decide) rfl (Nat.le_of_ble_eq_true rfl) rfl dX11_narrowed_100 (fun r100 m100 => (show zG P G _ _ 103 _ _ from ?_))
          refine z_istore0 ok [(7, .int r100), (6, .int r92), (0, .ref a0), (1, .int x1), (2, .int x2), (3, .int x3), (4, .int x4), (5, .int x5)] dX11_narrowed_103 (by decide) rfl (show zG P G _ _ 105 _ _ from ?_)
          refine z_aload_n ok 2 dX11_narrowed_105 rfl (show zG P G _ _ 106 _ _ from ?_)
          refine z_get ok fd_216 h_a0 (Or.inl rfl) tf_X11_37 dX11_narrowed_106 (show zG P G _ _ 109 _ _ from ?_)
          refine z_iconst ok (4 : Int32) dX11_narrowed_109 (by decide) (show zG P G _ _ 110 _ _ from ?_)
          refine z_icmp_ne ok 117 dX11_narrowed_110 (by decide) ?_ (show zG P G _ _ 113 _ _ from ?_)
          · refine z_aload_n ok 2 dX11_narrowed_117 rfl (show zG P G _ _ 118 _ _ from ?_)
            refine z_getR ok fd_200 h_a0 (Or.inl rfl) tf_X11_9 dX11_narrowed_118 (fun b118 h_b118 => (show zG P G _ _ 121 _ _ from ?_))
            refine z_sipush ok (229 : Int32) dX11_narrowed_121 (by decide) (show zG P G _ _ 124 _ _ from ?_)
            refine z_iald ok h_b118 dX11_narrowed_124 (show zG P G _ _ 125 _ _ from ?_)
            exact z_sub [2, 3, 4, 5, 6, 1, 0] [(0, .ref a0), (1, .int x1), (2, .int x2), (3, .int x3), (4, .int x4), (6, .int r92), (7, .int r100)] rfl (t_X11_narrowed_b125 ok h_a0)
          · refine z_iconst ok (1 : Int32) dX11_narrowed_113 (by decide) (show zG P G _ _ 114 _ _ from ?_)
            refine z_goto ok 125 dX11_narrowed_114 (by decide) ?_
            exact z_sub [2, 3, 4, 5, 6, 1, 0] [(0, .ref a0), (1, .int x1), (2, .int x2), (3, .int x3), (4, .int x4), (6, .int r92), (7, .int r100)] rfl (t_X11_narrowed_b125 ok h_a0)
        · exact z_sub [1] [(1, .int x1)] rfl (t_X11_narrowed_b87 ok)
    · refine z_aload_n ok 0 dX11_narrowed_22 rfl (show zG P G _ _ 23 _ _ from ?_)
      refine z_iload ok 6 dX11_narrowed_23 rfl (show zG P G _ _ 25 _ _ from ?_)
      refine z_iconst ok (1 : Int32) dX11_narrowed_25 (by decide) (show zG P G _ _ 26 _ _ from ?_)
      refine z_callVi ok [.int x6, .int (1 : Int32)] (m_X11_of _ ok.p h_a0) cv_X11_66 h_a0 rfl (by decide) rfl (Nat.le_of_ble_eq_true rfl) rfl dX11_narrowed_26 (fun r26 m26 => (show zG P G _ _ 29 _ _ from ?_))
      refine z_iload_n ok 3 dX11_narrowed_29 rfl (show zG P G _ _ 30 _ _ from ?_)
      refine z_icmp_eq ok 36 dX11_narrowed_30 (by decide) ?_ (show zG P G _ _ 33 _ _ from ?_)
      · refine z_iload ok 4 dX11_narrowed_36 rfl (show zG P G _ _ 38 _ _ from ?_)
        refine z_iload_n ok 1 dX11_narrowed_38 rfl (show zG P G _ _ 39 _ _ from ?_)
        refine z_iconst ok (1 : Int32) dX11_narrowed_39 (by decide) (show zG P G _ _ 40 _ _ from ?_)
        refine z_iload ok 6 dX11_narrowed_40 rfl (show zG P G _ _ 42 _ _ from ?_)
        refine z_ishl ok dX11_narrowed_42 (show zG P G _ _ 43 _ _ from ?_)
        refine z_iand ok dX11_narrowed_43 (show zG P G _ _ 44 _ _ from ?_)
        refine z_ior ok dX11_narrowed_44 (show zG P G _ _ 45 _ _ from ?_)
        refine z_istore ok (fun v45 => [(4, .int v45), (0, .ref a0), (1, .int x1), (2, .int x2), (3, .int x3), (5, .int x5), (6, .int x6)]) dX11_narrowed_45 (by decide) (fun _ => rfl) (fun v45 => (show zG P G _ _ 47 _ _ from ?_))
        refine z_iload ok 5 dX11_narrowed_47 rfl (show zG P G _ _ 49 _ _ from ?_)
        refine z_aload_n ok 1 dX11_narrowed_49 rfl (show zG P G _ _ 50 _ _ from ?_)
        refine z_iload ok 6 dX11_narrowed_50 rfl (show zG P G _ _ 52 _ _ from ?_)
        refine z_iload_n ok 3 dX11_narrowed_52 rfl (show zG P G _ _ 53 _ _ from ?_)
        refine z_callVi ok [.int x6, .int x2] (m_X11_isMember _ ok.p h_a0) cv_X11_121 h_a0 rfl (by decide) rfl (Nat.le_of_ble_eq_true rfl) rfl dX11_narrowed_53 (fun r53 m53 => (show zG P G _ _ 56 _ _ from ?_))
        refine z_if_eq ok 66 dX11_narrowed_56 (by decide) ?_ (show zG P G _ _ 59 _ _ from ?_)
        · refine z_iconst ok (0 : Int32) dX11_narrowed_66 (by decide) (show zG P G _ _ 67 _ _ from ?_)
          exact z_sub [1, 2, 3, 4, 0, 6] [(0, .ref a0), (1, .int x1), (2, .int x2), (3, .int x3), (4, .int v45), (6, .int x6)] rfl (t_X11_narrowed_b67 ok (f_X11_narrowed_b9 P n) hr_9 h_a0)
        · refine z_iconst ok (1 : Int32) dX11_narrowed_59 (by decide) (show zG P G _ _ 60 _ _ from ?_)
          refine z_iload ok 6 dX11_narrowed_60 rfl (show zG P G _ _ 62 _ _ from ?_)
          refine z_ishl ok dX11_narrowed_62 (show zG P G _ _ 63 _ _ from ?_)
          refine z_goto ok 67 dX11_narrowed_63 (by decide) ?_
          exact z_sub [1, 2, 3, 4, 0, 6] [(0, .ref a0), (1, .int x1), (2, .int x2), (3, .int x3), (4, .int v45), (6, .int x6)] rfl (t_X11_narrowed_b67 ok (f_X11_narrowed_b9 P n) hr_9 h_a0)
      · refine z_goto ok 70 dX11_narrowed_33 (by decide) ?_
        exact z_sub [0, 1, 2, 3, 4, 5, 6] [(0, .ref a0), (1, .int x1), (2, .int x2), (3, .int x3), (4, .int x4), (5, .int x5), (6, .int x6)] rfl (t_X11_narrowed_b70 ok (f_X11_narrowed_b9 P n) hr_9 h_a0)
set_option maxRecDepth 100000 in
set_option maxHeartbeats 4000000 in
theorem m_X11_narrowed (l : Launch) {P : zSt} (hP : zOKP P) {a0 : Nat} {i1 : Int32} {i2 : Int32} {i3 : Int32} (h_a0 : zT P 10 a0) : zMet l P yX11_narrowed cX11_narrowed 10 2 45 (some .int) [.ref a0, .int i1, .int i2, .int i3] (fun m => f_X11_narrowed P a0 i1 i2 i3 m) := by
  refine zMet.of hP (by decide +kernel) RX11 rfl [(0, .ref a0), (1, .int i1), (2, .int i2), (3, .int i3)] (fun h => h) (Nat.le_of_ble_eq_true rfl) (fun G m ok => ?_)
  show zG P G (f_X11_narrowed P a0 i1 i2 i3 m) m 0 _ []
  unfold f_X11_narrowed
  refine z_iconst ok (0 : Int32) dX11_narrowed_0 (by decide) (show zG P G _ _ 1 _ _ from ?_)
  refine z_istore0 ok [(4, .int (0 : Int32)), (0, .ref a0), (1, .int i1), (2, .int i2), (3, .int i3)] dX11_narrowed_1 (by decide) rfl (show zG P G _ _ 3 _ _ from ?_)
  refine z_iconst ok (0 : Int32) dX11_narrowed_3 (by decide) (show zG P G _ _ 4 _ _ from ?_)
  refine z_istore0 ok [(5, .int (0 : Int32)), (4, .int (0 : Int32)), (0, .ref a0), (1, .int i1), (2, .int i2), (3, .int i3)] dX11_narrowed_4 (by decide) rfl (show zG P G _ _ 6 _ _ from ?_)
  refine z_iconst ok (0 : Int32) dX11_narrowed_6 (by decide) (show zG P G _ _ 7 _ _ from ?_)
  refine z_istore0 ok [(6, .int (0 : Int32)), (5, .int (0 : Int32)), (4, .int (0 : Int32)), (0, .ref a0), (1, .int i1), (2, .int i2), (3, .int i3)] dX11_narrowed_7 (by decide) rfl (show zG P G _ _ 9 _ _ from ?_)
  exact z_sub [3, 4, 5, 6, 2, 1, 0] [(0, .ref a0), (1, .int i1), (2, .int i2), (3, .int i3), (4, .int (0 : Int32)), (5, .int (0 : Int32)), (6, .int (0 : Int32))] rfl (t_X11_narrowed_b9 ok zfuel _ _ _ _ _ _ _ _ h_a0)
set_option maxRecDepth 100000 in
set_option maxHeartbeats 4000000 in
theorem t_X11_picks_b101 {P : zSt} {G : zC} (ok : zOK P G RX11 cX11_picks 9 3 74 (some .int))  {a0 : Nat} {x3 : Int32} {x5 : Int32} {x6 : Int32} {m : zM} (h_a0 : zT P 10 a0) : zG P G (f_X11_picks_b101 P a0 x3 x5 x6 m) m 101 [(0, .ref a0), (3, .int x3), (5, .int x5), (6, .int x6)] [] := by
  unfold f_X11_picks_b101
  refine z_aload_n ok 0 dX11_picks_101 rfl (show zG P G _ _ 102 _ _ from ?_)
  refine z_getR ok fd_200 h_a0 (Or.inl rfl) tf_X11_9 dX11_picks_102 (fun b102 h_b102 => (show zG P G _ _ 105 _ _ from ?_))
  refine z_iload ok 3 dX11_picks_105 rfl (show zG P G _ _ 107 _ _ from ?_)
  refine z_bipush ok (11 : Int32) dX11_picks_107 (by decide) (show zG P G _ _ 109 _ _ from ?_)
  refine z_iadd ok dX11_picks_109 (show zG P G _ _ 110 _ _ from ?_)
  refine z_iload_n ok 1 dX11_picks_110 rfl (show zG P G _ _ 111 _ _ from ?_)
  refine z_iadd ok dX11_picks_111 (show zG P G _ _ 112 _ _ from ?_)
  refine z_aload_n ok 0 dX11_picks_112 rfl (show zG P G _ _ 113 _ _ from ?_)
  refine z_iload ok 2 dX11_picks_113 rfl (show zG P G _ _ 115 _ _ from ?_)
  refine z_callVi ok [.int x5] (m_X11_byWeights _ ok.p h_a0) cv_X11_137 h_a0 rfl (by decide) rfl (Nat.le_of_ble_eq_true rfl) rfl dX11_picks_115 (fun r115 m115 => (show zG P G _ _ 118 _ _ from ?_))
  refine z_iast ok h_b102 dX11_picks_118 (fun m118 => (show zG P G _ _ 119 _ _ from ?_))
  refine z_aload_n ok 0 dX11_picks_119 rfl (show zG P G _ _ 120 _ _ from ?_)
  refine z_getR ok fd_200 h_a0 (Or.inl rfl) tf_X11_9 dX11_picks_120 (fun b120 h_b120 => (show zG P G _ _ 123 _ _ from ?_))
  refine z_iload ok 3 dX11_picks_123 rfl (show zG P G _ _ 125 _ _ from ?_)
  refine z_bipush ok (11 : Int32) dX11_picks_125 (by decide) (show zG P G _ _ 127 _ _ from ?_)
  refine z_iadd ok dX11_picks_127 (show zG P G _ _ 128 _ _ from ?_)
  refine z_iload_n ok 1 dX11_picks_128 rfl (show zG P G _ _ 129 _ _ from ?_)
  refine z_iadd ok dX11_picks_129 (show zG P G _ _ 130 _ _ from ?_)
  refine z_iald ok h_b120 dX11_picks_130 (show zG P G _ _ 131 _ _ from ?_)
  exact z_iret ok dX11_picks_131
set_option maxRecDepth 100000 in
set_option maxHeartbeats 4000000 in
theorem t_X11_picks_b39 {P : zSt} {G : zC} (ok : zOK P G RX11 cX11_picks 9 3 74 (some .int))  {a0 : Nat} {x3 : Int32} {x5 : Int32} {x6 : Int32} {s0 : Int32} {m : zM} (h_a0 : zT P 10 a0) : zG P G (f_X11_picks_b39 P a0 x3 x5 x6 s0 m) m 39 [(0, .ref a0), (3, .int x3), (5, .int x5), (6, .int x6)] [.int s0] := by
  unfold f_X11_picks_b39
  refine z_istore0 ok [(7, .int s0), (0, .ref a0), (3, .int x3), (5, .int x5), (6, .int x6)] dX11_picks_39 (by decide) rfl (show zG P G _ _ 41 _ _ from ?_)
  refine z_iload ok 0 dX11_picks_41 rfl (show zG P G _ _ 43 _ _ from ?_)
  refine z_iconst ok (2 : Int32) dX11_picks_43 (by decide) (show zG P G _ _ 44 _ _ from ?_)
  refine z_icmp_ge ok 68 dX11_picks_44 (by decide) ?_ (show zG P G _ _ 47 _ _ from ?_)
  · refine z_aload_n ok 1 dX11_picks_68 rfl (show zG P G _ _ 69 _ _ from ?_)
    refine z_getR ok fd_200 h_a0 (Or.inl rfl) tf_X11_9 dX11_picks_69 (fun b69 h_b69 => (show zG P G _ _ 72 _ _ from ?_))
    refine z_iload ok 4 dX11_picks_72 rfl (show zG P G _ _ 74 _ _ from ?_)
    refine z_bipush ok (11 : Int32) dX11_picks_74 (by decide) (show zG P G _ _ 76 _ _ from ?_)
    refine z_iadd ok dX11_picks_76 (show zG P G _ _ 77 _ _ from ?_)
    refine z_iload_n ok 2 dX11_picks_77 rfl (show zG P G _ _ 78 _ _ from ?_)
    refine z_iadd ok dX11_picks_78 (show zG P G _ _ 79 _ _ from ?_)
    refine z_iald ok h_b69 dX11_picks_79 (show zG P G _ _ 80 _ _ from ?_)
    refine z_istore ok (fun v80 => [(8, .int v80), (7, .int s0), (0, .ref a0), (3, .int x3), (5, .int x5), (6, .int x6)]) dX11_picks_80 (by decide) (fun _ => rfl) (fun v80 => (show zG P G _ _ 82 _ _ from ?_))
    refine z_iload ok 0 dX11_picks_82 rfl (show zG P G _ _ 84 _ _ from ?_)
    refine z_if_lt ok 101 dX11_picks_84 (by decide) ?_ (show zG P G _ _ 87 _ _ from ?_)
    · exact z_sub [2, 3, 4, 5] [(0, .ref a0), (3, .int x3), (5, .int x5), (6, .int x6)] rfl (t_X11_picks_b101 ok h_a0)
    · refine z_iload ok 4 dX11_picks_87 rfl (show zG P G _ _ 89 _ _ from ?_)
      refine z_iload ok 0 dX11_picks_89 rfl (show zG P G _ _ 91 _ _ from ?_)
      refine z_ishr ok dX11_picks_91 (show zG P G _ _ 92 _ _ from ?_)
      refine z_iconst ok (1 : Int32) dX11_picks_92 (by decide) (show zG P G _ _ 93 _ _ from ?_)
      refine z_iand ok dX11_picks_93 (show zG P G _ _ 94 _ _ from ?_)
      refine z_iconst ok (1 : Int32) dX11_picks_94 (by decide) (show zG P G _ _ 95 _ _ from ?_)
      refine z_icmp_ne ok 101 dX11_picks_95 (by decide) ?_ (show zG P G _ _ 98 _ _ from ?_)
      · exact z_sub [2, 3, 4, 5] [(0, .ref a0), (3, .int x3), (5, .int x5), (6, .int x6)] rfl (t_X11_picks_b101 ok h_a0)
      · refine z_iload ok 0 dX11_picks_98 rfl (show zG P G _ _ 100 _ _ from ?_)
        exact z_iret ok dX11_picks_100
  · refine z_iload ok 0 dX11_picks_47 rfl (show zG P G _ _ 49 _ _ from ?_)
    refine z_if_ne ok 61 dX11_picks_49 (by decide) ?_ (show zG P G _ _ 52 _ _ from ?_)
    · refine z_aload_n ok 1 dX11_picks_61 rfl (show zG P G _ _ 62 _ _ from ?_)
      refine z_iload ok 3 dX11_picks_62 rfl (show zG P G _ _ 64 _ _ from ?_)
      refine z_callVi ok [.int x5] (m_X11_leastUsed _ ok.p h_a0) cv_X11_140 h_a0 rfl (by decide) rfl (Nat.le_of_ble_eq_true rfl) rfl dX11_picks_64 (fun r64 m64 => (show zG P G _ _ 67 _ _ from ?_))
      exact z_iret ok dX11_picks_67
    · refine z_aload_n ok 1 dX11_picks_52 rfl (show zG P G _ _ 53 _ _ from ?_)
      refine z_iload ok 3 dX11_picks_53 rfl (show zG P G _ _ 55 _ _ from ?_)
      refine z_callVi ok [.int x5] (m_X11_byWeights _ ok.p h_a0) cv_X11_137 h_a0 rfl (by decide) rfl (Nat.le_of_ble_eq_true rfl) rfl dX11_picks_55 (fun r55 m55 => (show zG P G _ _ 58 _ _ from ?_))
      refine z_goto ok 67 dX11_picks_58 (by decide) ?_
      exact z_iret ok dX11_picks_67
set_option maxRecDepth 100000 in
set_option maxHeartbeats 4000000 in
theorem m_X11_picks (l : Launch) {P : zSt} (hP : zOKP P) {a0 : Nat} {i1 : Int32} {i2 : Int32} {i3 : Int32} {i4 : Int32} (h_a0 : zT P 10 a0) : zMet l P yX11_picks cX11_picks 9 3 74 (some .int) [.ref a0, .int i1, .int i2, .int i3, .int i4] (fun m => f_X11_picks P a0 i1 i2 i3 i4 m) := by
  refine zMet.of hP (by decide +kernel) RX11 rfl [(0, .ref a0), (1, .int i1), (2, .int i2), (3, .int i3), (4, .int i4)] (fun h => h) (Nat.le_of_ble_eq_true rfl) (fun G m ok => ?_)
  show zG P G (f_X11_picks P a0 i1 i2 i3 i4 m) m 0 _ []
  unfold f_X11_picks
  refine z_aload_n ok 0 dX11_picks_0 rfl (show zG P G _ _ 1 _ _ from ?_)
  refine z_iload_n ok 1 dX11_picks_1 rfl (show zG P G _ _ 2 _ _ from ?_)
  refine z_iload_n ok 2 dX11_picks_2 rfl (show zG P G _ _ 3 _ _ from ?_)
  refine z_iload ok 4 dX11_picks_3 rfl (show zG P G _ _ 5 _ _ from ?_)
  refine z_callVi ok [.int i1, .int i2, .int i4] (m_X11_narrowed _ ok.p h_a0) cv_X11_133 h_a0 rfl (by decide) rfl (Nat.le_of_ble_eq_true rfl) rfl dX11_picks_5 (fun r5 m5 => (show zG P G _ _ 8 _ _ from ?_))
  refine z_istore0 ok [(5, .int r5), (0, .ref a0), (1, .int i1), (2, .int i2), (3, .int i3), (4, .int i4)] dX11_picks_8 (by decide) rfl (show zG P G _ _ 10 _ _ from ?_)
  refine z_sipush ok (145 : Int32) dX11_picks_10 (by decide) (show zG P G _ _ 13 _ _ from ?_)
  refine z_bipush ok (21 : Int32) dX11_picks_13 (by decide) (show zG P G _ _ 15 _ _ from ?_)
  refine z_iload_n ok 3 dX11_picks_15 rfl (show zG P G _ _ 16 _ _ from ?_)
  refine z_imul ok dX11_picks_16 (show zG P G _ _ 17 _ _ from ?_)
  refine z_iadd ok dX11_picks_17 (show zG P G _ _ 18 _ _ from ?_)
  refine z_istore ok (fun v18 => [(6, .int v18), (5, .int r5), (0, .ref a0), (1, .int i1), (2, .int i2), (3, .int i3), (4, .int i4)]) dX11_picks_18 (by decide) (fun _ => rfl) (fun v18 => (show zG P G _ _ 20 _ _ from ?_))
  refine z_aload_n ok 2 dX11_picks_20 rfl (show zG P G _ _ 21 _ _ from ?_)
  refine z_get ok fd_216 h_a0 (Or.inl rfl) tf_X11_37 dX11_picks_21 (show zG P G _ _ 24 _ _ from ?_)
  refine z_iconst ok (3 : Int32) dX11_picks_24 (by decide) (show zG P G _ _ 25 _ _ from ?_)
  refine z_icmp_ne ok 32 dX11_picks_25 (by decide) ?_ (show zG P G _ _ 28 _ _ from ?_)
  · refine z_aload_n ok 2 dX11_picks_32 rfl (show zG P G _ _ 33 _ _ from ?_)
    refine z_getR ok fd_200 h_a0 (Or.inl rfl) tf_X11_9 dX11_picks_33 (fun b33 h_b33 => (show zG P G _ _ 36 _ _ from ?_))
    refine z_iload ok 0 dX11_picks_36 rfl (show zG P G _ _ 38 _ _ from ?_)
    refine z_iald ok h_b33 dX11_picks_38 (show zG P G _ _ 39 _ _ from ?_)
    exact z_sub [2, 5, 1, 0] [(0, .ref a0), (3, .int i3), (5, .int r5), (6, .int v18)] rfl (t_X11_picks_b39 ok h_a0)
  · refine z_iconst ok (0 : Int32) dX11_picks_28 (by decide) (show zG P G _ _ 29 _ _ from ?_)
    refine z_goto ok 39 dX11_picks_29 (by decide) ?_
    exact z_sub [2, 5, 1, 0] [(0, .ref a0), (3, .int i3), (5, .int r5), (6, .int v18)] rfl (t_X11_picks_b39 ok h_a0)
set_option maxRecDepth 100000 in
set_option maxHeartbeats 4000000 in
theorem t_X11_ejects_b67 {P : zSt} {G : zC} (ok : zOK P G RX11 cX11_ejects 6 2 44 none) (rec_8 : Nat → Int32 → Int32 → Int32 → Int32 → Int32 → zM → Option (Int32 × zM)) (hr_8 : ∀ (a0 : Nat) (x1 : Int32) (x2 : Int32) (x3 : Int32) (x4 : Int32) (x5 : Int32) (m : zM), zT P 10 a0 → zG P G (rec_8 a0 x1 x2 x3 x4 x5 m) m 8 [(0, .ref a0), (1, .int x1), (2, .int x2), (3, .int x3), (4, .int x4), (5, .int x5)] []) {a0 : Nat} {x1 : Int32} {x2 : Int32} {x3 : Int32} {x5 : Int32} {s0 : Int32} {s1 : Int32} {m : zM} (h_a0 : zT P 10 a0) : zG P G (f_X11_ejects_b67 P rec_8 a0 x1 x2 x3 x5 s0 s1 m) m 67 [(0, .ref a0), (1, .int x1), (2, .int x2), (3, .int x3), (5, .int x5)] [.int s0, .int s1] := by
  unfold f_X11_ejects_b67
  refine z_iadd ok dX11_ejects_67 (show zG P G _ _ 68 _ _ from ?_)
  refine z_istore ok (fun v68 => [(4, .int v68), (0, .ref a0), (1, .int x1), (2, .int x2), (3, .int x3), (5, .int x5)]) dX11_ejects_68 (by decide) (fun _ => rfl) (fun v68 => (show zG P G _ _ 70 _ _ from ?_))
  refine z_iinc ok (fun v70 => [(5, .int v70), (4, .int v68), (0, .ref a0), (1, .int x1), (2, .int x2), (3, .int x3)]) 5 dX11_ejects_70 rfl (by decide) (by decide) (fun _ => rfl) (fun v70 => (show zG P G _ _ 73 _ _ from ?_))
  refine z_goto ok 8 dX11_ejects_73 (by decide) ?_
  exact z_sub [2, 3, 4, 5, 1, 0] [(0, .ref a0), (1, .int x1), (2, .int x2), (3, .int x3), (4, .int v68), (5, .int v70)] rfl (hr_8 _ _ _ _ _ _ _ h_a0)
set_option maxRecDepth 100000 in
set_option maxHeartbeats 4000000 in
theorem t_X11_ejects_b66 {P : zSt} {G : zC} (ok : zOK P G RX11 cX11_ejects 6 2 44 none) (rec_8 : Nat → Int32 → Int32 → Int32 → Int32 → Int32 → zM → Option (Int32 × zM)) (hr_8 : ∀ (a0 : Nat) (x1 : Int32) (x2 : Int32) (x3 : Int32) (x4 : Int32) (x5 : Int32) (m : zM), zT P 10 a0 → zG P G (rec_8 a0 x1 x2 x3 x4 x5 m) m 8 [(0, .ref a0), (1, .int x1), (2, .int x2), (3, .int x3), (4, .int x4), (5, .int x5)] []) {a0 : Nat} {x1 : Int32} {x2 : Int32} {x3 : Int32} {x5 : Int32} {s0 : Int32} {m : zM} (h_a0 : zT P 10 a0) : zG P G (f_X11_ejects_b66 P rec_8 a0 x1 x2 x3 x5 s0 m) m 66 [(0, .ref a0), (1, .int x1), (2, .int x2), (3, .int x3), (5, .int x5)] [.int s0] := by
  unfold f_X11_ejects_b66
  refine z_iconst ok (0 : Int32) dX11_ejects_66 (by decide) (show zG P G _ _ 67 _ _ from ?_)
  exact z_sub [0, 1, 2, 3, 4] [(0, .ref a0), (1, .int x1), (2, .int x2), (3, .int x3), (5, .int x5)] rfl (t_X11_ejects_b67 ok rec_8 hr_8 h_a0)
set_option maxRecDepth 100000 in
set_option maxHeartbeats 4000000 in
theorem t_X11_ejects_b37 {P : zSt} {G : zC} (ok : zOK P G RX11 cX11_ejects 6 2 44 none) (rec_8 : Nat → Int32 → Int32 → Int32 → Int32 → Int32 → zM → Option (Int32 × zM)) (hr_8 : ∀ (a0 : Nat) (x1 : Int32) (x2 : Int32) (x3 : Int32) (x4 : Int32) (x5 : Int32) (m : zM), zT P 10 a0 → zG P G (rec_8 a0 x1 x2 x3 x4 x5 m) m 8 [(0, .ref a0), (1, .int x1), (2, .int x2), (3, .int x3), (4, .int x4), (5, .int x5)] []) {a0 : Nat} {x1 : Int32} {x2 : Int32} {x4 : Int32} {x5 : Int32} {s0 : Int32} {s1 : Int32} {m : zM} (h_a0 : zT P 10 a0) : zG P G (f_X11_ejects_b37 P rec_8 a0 x1 x2 x4 x5 s0 s1 m) m 37 [(0, .ref a0), (1, .int x1), (2, .int x2), (4, .int x4), (5, .int x5)] [.int s0, .int s1] := by
  unfold f_X11_ejects_b37
  refine z_iadd ok dX11_ejects_37 (show zG P G _ _ 38 _ _ from ?_)
  refine z_istore_n ok (fun v38 => [(3, .int v38), (0, .ref a0), (1, .int x1), (2, .int x2), (4, .int x4), (5, .int x5)]) dX11_ejects_38 (by decide) (fun _ => rfl) (fun v38 => (show zG P G _ _ 39 _ _ from ?_))
  refine z_iload ok 4 dX11_ejects_39 rfl (show zG P G _ _ 41 _ _ from ?_)
  refine z_aload_n ok 1 dX11_ejects_41 rfl (show zG P G _ _ 42 _ _ from ?_)
  refine z_iload ok 5 dX11_ejects_42 rfl (show zG P G _ _ 44 _ _ from ?_)
  refine z_iload_n ok 3 dX11_ejects_44 rfl (show zG P G _ _ 45 _ _ from ?_)
  refine z_callVi ok [.int x5, .int x2] (m_X11_isMember _ ok.p h_a0) cv_X11_121 h_a0 rfl (by decide) rfl (Nat.le_of_ble_eq_true rfl) rfl dX11_ejects_45 (fun r45 m45 => (show zG P G _ _ 48 _ _ from ?_))
  refine z_if_eq ok 66 dX11_ejects_48 (by decide) ?_ (show zG P G _ _ 51 _ _ from ?_)
  · exact z_sub [1, 2, 3, 0, 5] [(0, .ref a0), (1, .int x1), (2, .int x2), (3, .int v38), (5, .int x5)] rfl (t_X11_ejects_b66 ok rec_8 hr_8 h_a0)
  · refine z_aload_n ok 1 dX11_ejects_51 rfl (show zG P G _ _ 52 _ _ from ?_)
    refine z_iload ok 5 dX11_ejects_52 rfl (show zG P G _ _ 54 _ _ from ?_)
    refine z_bipush ok (9 : Int32) dX11_ejects_54 (by decide) (show zG P G _ _ 56 _ _ from ?_)
    refine z_callVi ok [.int x5, .int (9 : Int32)] (m_X11_of _ ok.p h_a0) cv_X11_66 h_a0 rfl (by decide) rfl (Nat.le_of_ble_eq_true rfl) rfl dX11_ejects_56 (fun r56 m56 => (show zG P G _ _ 59 _ _ from ?_))
    refine z_if_le ok 66 dX11_ejects_59 (by decide) ?_ (show zG P G _ _ 62 _ _ from ?_)
    · exact z_sub [1, 2, 3, 0, 5] [(0, .ref a0), (1, .int x1), (2, .int x2), (3, .int v38), (5, .int x5)] rfl (t_X11_ejects_b66 ok rec_8 hr_8 h_a0)
    · refine z_iconst ok (1 : Int32) dX11_ejects_62 (by decide) (show zG P G _ _ 63 _ _ from ?_)
      refine z_goto ok 67 dX11_ejects_63 (by decide) ?_
      exact z_sub [1, 2, 3, 0, 5] [(0, .ref a0), (1, .int x1), (2, .int x2), (3, .int v38), (5, .int x5)] rfl (t_X11_ejects_b67 ok rec_8 hr_8 h_a0)
set_option maxRecDepth 100000 in
set_option maxHeartbeats 4000000 in
theorem t_X11_ejects_b8 {P : zSt} {G : zC} (ok : zOK P G RX11 cX11_ejects 6 2 44 none)  : ∀ (n : Nat) (a0 : Nat) (x1 : Int32) (x2 : Int32) (x3 : Int32) (x4 : Int32) (x5 : Int32) (m : zM) (h_a0 : zT P 10 a0), zG P G (f_X11_ejects_b8 P n a0 x1 x2 x3 x4 x5 m) m 8 [(0, .ref a0), (1, .int x1), (2, .int x2), (3, .int x3), (4, .int x4), (5, .int x5)] [] := by
  intro n
  induction n with
  | zero =>
    intros
    exact zG_none
  | succ n ih =>
    intro a0 x1 x2 x3 x4 x5 m h_a0
    unfold f_X11_ejects_b8
    have hr_8 := ih
    refine z_iload ok 5 dX11_ejects_8 rfl (show zG P G _ _ 10 _ _ from ?_)
    refine z_aload_n ok 0 dX11_ejects_10 rfl (show zG P G _ _ 11 _ _ from ?_)
    refine z_getR ok fd_200 h_a0 (Or.inl rfl) tf_X11_9 dX11_ejects_11 (fun b11 h_b11 => (show zG P G _ _ 14 _ _ from ?_))
    refine z_sipush ok (144 : Int32) dX11_ejects_14 (by decide) (show zG P G _ _ 17 _ _ from ?_)
    refine z_iald ok h_b11 dX11_ejects_17 (show zG P G _ _ 18 _ _ from ?_)
    refine z_icmp_ge ok 76 dX11_ejects_18 (by decide) ?_ (show zG P G _ _ 21 _ _ from ?_)
    · refine z_sipush ok (145 : Int32) dX11_ejects_76 (by decide) (show zG P G _ _ 79 _ _ from ?_)
      refine z_bipush ok (21 : Int32) dX11_ejects_79 (by decide) (show zG P G _ _ 81 _ _ from ?_)
      refine z_iload_n ok 2 dX11_ejects_81 rfl (show zG P G _ _ 82 _ _ from ?_)
      refine z_imul ok dX11_ejects_82 (show zG P G _ _ 83 _ _ from ?_)
      refine z_iadd ok dX11_ejects_83 (show zG P G _ _ 84 _ _ from ?_)
      refine z_istore ok (fun v84 => [(5, .int v84), (0, .ref a0), (1, .int x1), (2, .int x2), (3, .int x3), (4, .int x4)]) dX11_ejects_84 (by decide) (fun _ => rfl) (fun v84 => (show zG P G _ _ 86 _ _ from ?_))
      refine z_aload_n ok 1 dX11_ejects_86 rfl (show zG P G _ _ 87 _ _ from ?_)
      refine z_get ok fd_216 h_a0 (Or.inl rfl) tf_X11_37 dX11_ejects_87 (show zG P G _ _ 90 _ _ from ?_)
      refine z_iconst ok (2 : Int32) dX11_ejects_90 (by decide) (show zG P G _ _ 91 _ _ from ?_)
      refine z_icmp_eq ok 134 dX11_ejects_91 (by decide) ?_ (show zG P G _ _ 94 _ _ from ?_)
      · exact z_vret ok dX11_ejects_134
      · refine z_aload_n ok 1 dX11_ejects_94 rfl (show zG P G _ _ 95 _ _ from ?_)
        refine z_iload_n ok 2 dX11_ejects_95 rfl (show zG P G _ _ 96 _ _ from ?_)
        refine z_bipush ok (7 : Int32) dX11_ejects_96 (by decide) (show zG P G _ _ 98 _ _ from ?_)
        refine z_callVi ok [.int x1, .int (7 : Int32)] (m_X11_of _ ok.p h_a0) cv_X11_66 h_a0 rfl (by decide) rfl (Nat.le_of_ble_eq_true rfl) rfl dX11_ejects_98 (fun r98 m98 => (show zG P G _ _ 101 _ _ from ?_))
        refine z_aload_n ok 1 dX11_ejects_101 rfl (show zG P G _ _ 102 _ _ from ?_)
        refine z_getR ok fd_200 h_a0 (Or.inl rfl) tf_X11_9 dX11_ejects_102 (fun b102 h_b102 => (show zG P G _ _ 105 _ _ from ?_))
        refine z_iload ok 0 dX11_ejects_105 rfl (show zG P G _ _ 107 _ _ from ?_)
        refine z_iconst ok (1 : Int32) dX11_ejects_107 (by decide) (show zG P G _ _ 108 _ _ from ?_)
        refine z_iadd ok dX11_ejects_108 (show zG P G _ _ 109 _ _ from ?_)
        refine z_iald ok h_b102 dX11_ejects_109 (show zG P G _ _ 110 _ _ from ?_)
        refine z_icmp_lt ok 134 dX11_ejects_110 (by decide) ?_ (show zG P G _ _ 113 _ _ from ?_)
        · exact z_vret ok dX11_ejects_134
        · refine z_iload ok 5 dX11_ejects_113 rfl (show zG P G _ _ 115 _ _ from ?_)
          refine z_iconst ok (1 : Int32) dX11_ejects_115 (by decide) (show zG P G _ _ 116 _ _ from ?_)
          refine z_iadd ok dX11_ejects_116 (show zG P G _ _ 117 _ _ from ?_)
          refine z_bipush ok (100 : Int32) dX11_ejects_117 (by decide) (show zG P G _ _ 119 _ _ from ?_)
          refine z_imul ok dX11_ejects_119 (show zG P G _ _ 120 _ _ from ?_)
          refine z_aload_n ok 1 dX11_ejects_120 rfl (show zG P G _ _ 121 _ _ from ?_)
          refine z_getR ok fd_200 h_a0 (Or.inl rfl) tf_X11_9 dX11_ejects_121 (fun b121 h_b121 => (show zG P G _ _ 124 _ _ from ?_))
          refine z_iload ok 0 dX11_ejects_124 rfl (show zG P G _ _ 126 _ _ from ?_)
          refine z_iconst ok (3 : Int32) dX11_ejects_126 (by decide) (show zG P G _ _ 127 _ _ from ?_)
          refine z_iadd ok dX11_ejects_127 (show zG P G _ _ 128 _ _ from ?_)
          refine z_iald ok h_b121 dX11_ejects_128 (show zG P G _ _ 129 _ _ from ?_)
          refine z_iload_n ok 4 dX11_ejects_129 rfl (show zG P G _ _ 130 _ _ from ?_)
          refine z_imul ok dX11_ejects_130 (show zG P G _ _ 131 _ _ from ?_)
          refine z_icmp_le ok 135 dX11_ejects_131 (by decide) ?_ (show zG P G _ _ 134 _ _ from ?_)
          · refine z_aload_n ok 1 dX11_ejects_135 rfl (show zG P G _ _ 136 _ _ from ?_)
            refine z_iload_n ok 2 dX11_ejects_136 rfl (show zG P G _ _ 137 _ _ from ?_)
            refine z_bipush ok (8 : Int32) dX11_ejects_137 (by decide) (show zG P G _ _ 139 _ _ from ?_)
            refine z_aload_n ok 1 dX11_ejects_139 rfl (show zG P G _ _ 140 _ _ from ?_)
            refine z_iload_n ok 2 dX11_ejects_140 rfl (show zG P G _ _ 141 _ _ from ?_)
            refine z_bipush ok (8 : Int32) dX11_ejects_141 (by decide) (show zG P G _ _ 143 _ _ from ?_)
            refine z_callVi ok [.int x1, .int (8 : Int32)] (m_X11_of _ ok.p h_a0) cv_X11_66 h_a0 rfl (by decide) rfl (Nat.le_of_ble_eq_true rfl) rfl dX11_ejects_143 (fun r143 m143 => (show zG P G _ _ 146 _ _ from ?_))
            refine z_iconst ok (1 : Int32) dX11_ejects_146 (by decide) (show zG P G _ _ 147 _ _ from ?_)
            refine z_iadd ok dX11_ejects_147 (show zG P G _ _ 148 _ _ from ?_)
            refine z_callVv ok [.int x1, .int (8 : Int32), .int (r143 + (1 : Int32))] (m_X11_sets _ ok.p h_a0) cv_X11_58 h_a0 rfl (by decide) rfl (Nat.le_of_ble_eq_true rfl) rfl dX11_ejects_148 (fun _ m148 => (show zG P G _ _ 151 _ _ from ?_))
            refine z_aload_n ok 1 dX11_ejects_151 rfl (show zG P G _ _ 152 _ _ from ?_)
            refine z_iload_n ok 2 dX11_ejects_152 rfl (show zG P G _ _ 153 _ _ from ?_)
            refine z_bipush ok (7 : Int32) dX11_ejects_153 (by decide) (show zG P G _ _ 155 _ _ from ?_)
            refine z_iconst ok (0 : Int32) dX11_ejects_155 (by decide) (show zG P G _ _ 156 _ _ from ?_)
            refine z_callVv ok [.int x1, .int (7 : Int32), .int (0 : Int32)] (m_X11_sets _ ok.p h_a0) cv_X11_58 h_a0 rfl (by decide) rfl (Nat.le_of_ble_eq_true rfl) rfl dX11_ejects_156 (fun _ m156 => (show zG P G _ _ 159 _ _ from ?_))
            refine z_aload_n ok 1 dX11_ejects_159 rfl (show zG P G _ _ 160 _ _ from ?_)
            refine z_iload_n ok 2 dX11_ejects_160 rfl (show zG P G _ _ 161 _ _ from ?_)
            refine z_bipush ok (9 : Int32) dX11_ejects_161 (by decide) (show zG P G _ _ 163 _ _ from ?_)
            refine z_aload_n ok 1 dX11_ejects_163 rfl (show zG P G _ _ 164 _ _ from ?_)
            refine z_getR ok fd_200 h_a0 (Or.inl rfl) tf_X11_9 dX11_ejects_164 (fun b164 h_b164 => (show zG P G _ _ 167 _ _ from ?_))
            refine z_iload ok 0 dX11_ejects_167 rfl (show zG P G _ _ 169 _ _ from ?_)
            refine z_iconst ok (2 : Int32) dX11_ejects_169 (by decide) (show zG P G _ _ 170 _ _ from ?_)
            refine z_iadd ok dX11_ejects_170 (show zG P G _ _ 171 _ _ from ?_)
            refine z_iald ok h_b164 dX11_ejects_171 (show zG P G _ _ 172 _ _ from ?_)
            refine z_aload_n ok 1 dX11_ejects_172 rfl (show zG P G _ _ 173 _ _ from ?_)
            refine z_iload_n ok 2 dX11_ejects_173 rfl (show zG P G _ _ 174 _ _ from ?_)
            refine z_bipush ok (8 : Int32) dX11_ejects_174 (by decide) (show zG P G _ _ 176 _ _ from ?_)
            refine z_callVi ok [.int x1, .int (8 : Int32)] (m_X11_of _ ok.p h_a0) cv_X11_66 h_a0 rfl (by decide) rfl (Nat.le_of_ble_eq_true rfl) rfl dX11_ejects_176 (fun r176 m176 => (show zG P G _ _ 179 _ _ from ?_))
            refine z_imul ok dX11_ejects_179 (show zG P G _ _ 180 _ _ from ?_)
            refine z_callVv ok [.int x1, .int (9 : Int32), .int ((za m156 b164 (v84 + (2 : Int32)).toNatClampNeg) * r176)] (m_X11_sets _ ok.p h_a0) cv_X11_58 h_a0 rfl (by decide) rfl (Nat.le_of_ble_eq_true rfl) rfl dX11_ejects_180 (fun _ m180 => (show zG P G _ _ 183 _ _ from ?_))
            refine z_aload_n ok 1 dX11_ejects_183 rfl (show zG P G _ _ 184 _ _ from ?_)
            refine z_getR ok fd_200 h_a0 (Or.inl rfl) tf_X11_9 dX11_ejects_184 (fun b184 h_b184 => (show zG P G _ _ 187 _ _ from ?_))
            refine z_sipush ok (704 : Int32) dX11_ejects_187 (by decide) (show zG P G _ _ 190 _ _ from ?_)
            refine z_dup2 ok dX11_ejects_190 rfl rfl (show zG P G _ _ 191 _ _ from ?_)
            refine z_iald ok h_b184 dX11_ejects_191 (show zG P G _ _ 192 _ _ from ?_)
            refine z_iconst ok (1 : Int32) dX11_ejects_192 (by decide) (show zG P G _ _ 193 _ _ from ?_)
            refine z_iadd ok dX11_ejects_193 (show zG P G _ _ 194 _ _ from ?_)
            refine z_iast ok h_b184 dX11_ejects_194 (fun m194 => (show zG P G _ _ 195 _ _ from ?_))
            exact z_vret ok dX11_ejects_195
          · exact z_vret ok dX11_ejects_134
    · refine z_iload_n ok 3 dX11_ejects_21 rfl (show zG P G _ _ 22 _ _ from ?_)
      refine z_aload_n ok 0 dX11_ejects_22 rfl (show zG P G _ _ 23 _ _ from ?_)
      refine z_iload ok 5 dX11_ejects_23 rfl (show zG P G _ _ 25 _ _ from ?_)
      refine z_iload_n ok 2 dX11_ejects_25 rfl (show zG P G _ _ 26 _ _ from ?_)
      refine z_callVi ok [.int x5, .int x2] (m_X11_isMember _ ok.p h_a0) cv_X11_121 h_a0 rfl (by decide) rfl (Nat.le_of_ble_eq_true rfl) rfl dX11_ejects_26 (fun r26 m26 => (show zG P G _ _ 29 _ _ from ?_))
      refine z_if_eq ok 36 dX11_ejects_29 (by decide) ?_ (show zG P G _ _ 32 _ _ from ?_)
      · refine z_iconst ok (0 : Int32) dX11_ejects_36 (by decide) (show zG P G _ _ 37 _ _ from ?_)
        exact z_sub [0, 1, 2, 4, 5] [(0, .ref a0), (1, .int x1), (2, .int x2), (4, .int x4), (5, .int x5)] rfl (t_X11_ejects_b37 ok (f_X11_ejects_b8 P n) hr_8 h_a0)
      · refine z_iconst ok (1 : Int32) dX11_ejects_32 (by decide) (show zG P G _ _ 33 _ _ from ?_)
        refine z_goto ok 37 dX11_ejects_33 (by decide) ?_
        exact z_sub [0, 1, 2, 4, 5] [(0, .ref a0), (1, .int x1), (2, .int x2), (4, .int x4), (5, .int x5)] rfl (t_X11_ejects_b37 ok (f_X11_ejects_b8 P n) hr_8 h_a0)
set_option maxRecDepth 100000 in
set_option maxHeartbeats 4000000 in
theorem m_X11_ejects (l : Launch) {P : zSt} (hP : zOKP P) {a0 : Nat} {i1 : Int32} {i2 : Int32} (h_a0 : zT P 10 a0) : zMet l P yX11_ejects cX11_ejects 6 2 44 none [.ref a0, .int i1, .int i2] (fun m => f_X11_ejects P a0 i1 i2 m) := by
  refine zMet.of hP (by decide +kernel) RX11 rfl [(0, .ref a0), (1, .int i1), (2, .int i2)] (fun h => h) (Nat.le_of_ble_eq_true rfl) (fun G m ok => ?_)
  show zG P G (f_X11_ejects P a0 i1 i2 m) m 0 _ []
  unfold f_X11_ejects
  refine z_iconst ok (0 : Int32) dX11_ejects_0 (by decide) (show zG P G _ _ 1 _ _ from ?_)
  refine z_istore_n0 ok [(3, .int (0 : Int32)), (0, .ref a0), (1, .int i1), (2, .int i2)] dX11_ejects_1 (by decide) rfl (show zG P G _ _ 2 _ _ from ?_)
  refine z_iconst ok (0 : Int32) dX11_ejects_2 (by decide) (show zG P G _ _ 3 _ _ from ?_)
  refine z_istore0 ok [(4, .int (0 : Int32)), (3, .int (0 : Int32)), (0, .ref a0), (1, .int i1), (2, .int i2)] dX11_ejects_3 (by decide) rfl (show zG P G _ _ 5 _ _ from ?_)
  refine z_iconst ok (0 : Int32) dX11_ejects_5 (by decide) (show zG P G _ _ 6 _ _ from ?_)
  refine z_istore0 ok [(5, .int (0 : Int32)), (4, .int (0 : Int32)), (3, .int (0 : Int32)), (0, .ref a0), (1, .int i1), (2, .int i2)] dX11_ejects_6 (by decide) rfl (show zG P G _ _ 8 _ _ from ?_)
  exact z_sub [3, 4, 5, 2, 1, 0] [(0, .ref a0), (1, .int i1), (2, .int i2), (3, .int (0 : Int32)), (4, .int (0 : Int32)), (5, .int (0 : Int32))] rfl (t_X11_ejects_b8 ok zfuel _ _ _ _ _ _ _ h_a0)
set_option maxRecDepth 100000 in
set_option maxHeartbeats 4000000 in
theorem t_X11_tries_b206 {P : zSt} {G : zC} (ok : zOK P G RX11 cX11_tries 6 3 69 (some .boolean))  {a0 : Nat} {x4 : Int32} {s0 : Int32} {s1 : Int32} {t2 : Nat} {m : zM} (h_a0 : zT P 10 a0) (h_t2 : zT P 12 t2) : zG P G (f_X11_tries_b206 P a0 x4 s0 s1 t2 m) m 206 [(0, .ref a0), (4, .int x4)] [.int s0, .int s1, .ref t2] := by
  unfold f_X11_tries_b206
  refine z_iast ok h_t2 dX11_tries_206 (fun m206 => (show zG P G _ _ 207 _ _ from ?_))
  refine z_aload_n ok 0 dX11_tries_207 rfl (show zG P G _ _ 208 _ _ from ?_)
  refine z_getR ok fd_200 h_a0 (Or.inl rfl) tf_X11_9 dX11_tries_208 (fun b208 h_b208 => (show zG P G _ _ 211 _ _ from ?_))
  refine z_sipush ok (706 : Int32) dX11_tries_211 (by decide) (show zG P G _ _ 214 _ _ from ?_)
  refine z_dup2 ok dX11_tries_214 rfl rfl (show zG P G _ _ 215 _ _ from ?_)
  refine z_iald ok h_b208 dX11_tries_215 (show zG P G _ _ 216 _ _ from ?_)
  refine z_iconst ok (1 : Int32) dX11_tries_216 (by decide) (show zG P G _ _ 217 _ _ from ?_)
  refine z_iadd ok dX11_tries_217 (show zG P G _ _ 218 _ _ from ?_)
  refine z_iast ok h_b208 dX11_tries_218 (fun m218 => (show zG P G _ _ 219 _ _ from ?_))
  refine z_iload ok 1 dX11_tries_219 rfl (show zG P G _ _ 221 _ _ from ?_)
  exact z_zret ok dX11_tries_221
set_option maxRecDepth 100000 in
set_option maxHeartbeats 4000000 in
theorem t_X11_tries_b182 {P : zSt} {G : zC} (ok : zOK P G RX11 cX11_tries 6 3 69 (some .boolean))  {a0 : Nat} {x1 : Int32} {x4 : Int32} {x5 : Int32} {s0 : Int32} {s1 : Int32} {t2 : Nat} {m : zM} (h_a0 : zT P 10 a0) (h_t2 : zT P 12 t2) : zG P G (f_X11_tries_b182 P a0 x1 x4 x5 s0 s1 t2 m) m 182 [(0, .ref a0), (1, .int x1), (4, .int x4), (5, .int x5)] [.int s0, .int s1, .ref t2] := by
  unfold f_X11_tries_b182
  refine z_iast ok h_t2 dX11_tries_182 (fun m182 => (show zG P G _ _ 183 _ _ from ?_))
  refine z_aload_n ok 0 dX11_tries_183 rfl (show zG P G _ _ 184 _ _ from ?_)
  refine z_getR ok fd_200 h_a0 (Or.inl rfl) tf_X11_9 dX11_tries_184 (fun b184 h_b184 => (show zG P G _ _ 187 _ _ from ?_))
  refine z_iload ok 3 dX11_tries_187 rfl (show zG P G _ _ 189 _ _ from ?_)
  refine z_iconst ok (3 : Int32) dX11_tries_189 (by decide) (show zG P G _ _ 190 _ _ from ?_)
  refine z_iadd ok dX11_tries_190 (show zG P G _ _ 191 _ _ from ?_)
  refine z_aload_n ok 0 dX11_tries_191 rfl (show zG P G _ _ 192 _ _ from ?_)
  refine z_iload_n ok 1 dX11_tries_192 rfl (show zG P G _ _ 193 _ _ from ?_)
  refine z_bipush ok (9 : Int32) dX11_tries_193 (by decide) (show zG P G _ _ 195 _ _ from ?_)
  refine z_callVi ok [.int x1, .int (9 : Int32)] (m_X11_of _ ok.p h_a0) cv_X11_66 h_a0 rfl (by decide) rfl (Nat.le_of_ble_eq_true rfl) rfl dX11_tries_195 (fun r195 m195 => (show zG P G _ _ 198 _ _ from ?_))
  refine z_if_le ok 205 dX11_tries_198 (by decide) ?_ (show zG P G _ _ 201 _ _ from ?_)
  · refine z_iconst ok (0 : Int32) dX11_tries_205 (by decide) (show zG P G _ _ 206 _ _ from ?_)
    exact z_sub [0, 2] [(0, .ref a0), (4, .int x4)] rfl (t_X11_tries_b206 ok h_a0 h_b184)
  · refine z_iconst ok (1 : Int32) dX11_tries_201 (by decide) (show zG P G _ _ 202 _ _ from ?_)
    refine z_goto ok 206 dX11_tries_202 (by decide) ?_
    exact z_sub [0, 2] [(0, .ref a0), (4, .int x4)] rfl (t_X11_tries_b206 ok h_a0 h_b184)
set_option maxRecDepth 100000 in
set_option maxHeartbeats 4000000 in
theorem t_X11_tries_b158 {P : zSt} {G : zC} (ok : zOK P G RX11 cX11_tries 6 3 69 (some .boolean))  {a0 : Nat} {x1 : Int32} {x3 : Int32} {x4 : Int32} {x5 : Int32} {s0 : Int32} {s1 : Int32} {t2 : Nat} {m : zM} (h_a0 : zT P 10 a0) (h_t2 : zT P 12 t2) : zG P G (f_X11_tries_b158 P a0 x1 x3 x4 x5 s0 s1 t2 m) m 158 [(0, .ref a0), (1, .int x1), (3, .int x3), (4, .int x4), (5, .int x5)] [.int s0, .int s1, .ref t2] := by
  unfold f_X11_tries_b158
  refine z_iast ok h_t2 dX11_tries_158 (fun m158 => (show zG P G _ _ 159 _ _ from ?_))
  refine z_aload_n ok 0 dX11_tries_159 rfl (show zG P G _ _ 160 _ _ from ?_)
  refine z_getR ok fd_200 h_a0 (Or.inl rfl) tf_X11_9 dX11_tries_160 (fun b160 h_b160 => (show zG P G _ _ 163 _ _ from ?_))
  refine z_iload ok 4 dX11_tries_163 rfl (show zG P G _ _ 165 _ _ from ?_)
  refine z_iconst ok (2 : Int32) dX11_tries_165 (by decide) (show zG P G _ _ 166 _ _ from ?_)
  refine z_iadd ok dX11_tries_166 (show zG P G _ _ 167 _ _ from ?_)
  refine z_aload_n ok 0 dX11_tries_167 rfl (show zG P G _ _ 168 _ _ from ?_)
  refine z_iload_n ok 1 dX11_tries_168 rfl (show zG P G _ _ 169 _ _ from ?_)
  refine z_iconst ok (1 : Int32) dX11_tries_169 (by decide) (show zG P G _ _ 170 _ _ from ?_)
  refine z_callVi ok [.int x1, .int (1 : Int32)] (m_X11_of _ ok.p h_a0) cv_X11_66 h_a0 rfl (by decide) rfl (Nat.le_of_ble_eq_true rfl) rfl dX11_tries_170 (fun r170 m170 => (show zG P G _ _ 173 _ _ from ?_))
  refine z_iload_n ok 2 dX11_tries_173 rfl (show zG P G _ _ 174 _ _ from ?_)
  refine z_icmp_ne ok 181 dX11_tries_174 (by decide) ?_ (show zG P G _ _ 177 _ _ from ?_)
  · refine z_iconst ok (0 : Int32) dX11_tries_181 (by decide) (show zG P G _ _ 182 _ _ from ?_)
    exact z_sub [0, 1, 3, 4] [(0, .ref a0), (1, .int x1), (4, .int x4), (5, .int x5)] rfl (t_X11_tries_b182 ok h_a0 h_b160)
  · refine z_iconst ok (1 : Int32) dX11_tries_177 (by decide) (show zG P G _ _ 178 _ _ from ?_)
    refine z_goto ok 182 dX11_tries_178 (by decide) ?_
    exact z_sub [0, 1, 3, 4] [(0, .ref a0), (1, .int x1), (4, .int x4), (5, .int x5)] rfl (t_X11_tries_b182 ok h_a0 h_b160)
set_option maxRecDepth 100000 in
set_option maxHeartbeats 4000000 in
theorem t_X11_tries_b116 {P : zSt} {G : zC} (ok : zOK P G RX11 cX11_tries 6 3 69 (some .boolean))  {a0 : Nat} {x1 : Int32} {x3 : Int32} {x4 : Int32} {m : zM} (h_a0 : zT P 10 a0) : zG P G (f_X11_tries_b116 P a0 x1 x3 x4 m) m 116 [(0, .ref a0), (1, .int x1), (3, .int x3), (4, .int x4)] [] := by
  unfold f_X11_tries_b116
  refine z_sipush ok (707 : Int32) dX11_tries_116 (by decide) (show zG P G _ _ 119 _ _ from ?_)
  refine z_iconst ok (4 : Int32) dX11_tries_119 (by decide) (show zG P G _ _ 120 _ _ from ?_)
  refine z_aload_n ok 0 dX11_tries_120 rfl (show zG P G _ _ 121 _ _ from ?_)
  refine z_getR ok fd_200 h_a0 (Or.inl rfl) tf_X11_9 dX11_tries_121 (fun b121 h_b121 => (show zG P G _ _ 124 _ _ from ?_))
  refine z_sipush ok (706 : Int32) dX11_tries_124 (by decide) (show zG P G _ _ 127 _ _ from ?_)
  refine z_iald ok h_b121 dX11_tries_127 (show zG P G _ _ 128 _ _ from ?_)
  refine z_imul ok dX11_tries_128 (show zG P G _ _ 129 _ _ from ?_)
  refine z_iadd ok dX11_tries_129 (show zG P G _ _ 130 _ _ from ?_)
  refine z_istore ok (fun v130 => [(5, .int v130), (0, .ref a0), (1, .int x1), (3, .int x3), (4, .int x4)]) dX11_tries_130 (by decide) (fun _ => rfl) (fun v130 => (show zG P G _ _ 132 _ _ from ?_))
  refine z_aload_n ok 1 dX11_tries_132 rfl (show zG P G _ _ 133 _ _ from ?_)
  refine z_getR ok fd_200 h_a0 (Or.inl rfl) tf_X11_9 dX11_tries_133 (fun b133 h_b133 => (show zG P G _ _ 136 _ _ from ?_))
  refine z_iload ok 0 dX11_tries_136 rfl (show zG P G _ _ 138 _ _ from ?_)
  refine z_iload_n ok 2 dX11_tries_138 rfl (show zG P G _ _ 139 _ _ from ?_)
  refine z_iast ok h_b133 dX11_tries_139 (fun m139 => (show zG P G _ _ 140 _ _ from ?_))
  refine z_aload_n ok 1 dX11_tries_140 rfl (show zG P G _ _ 141 _ _ from ?_)
  refine z_getR ok fd_200 h_a0 (Or.inl rfl) tf_X11_9 dX11_tries_141 (fun b141 h_b141 => (show zG P G _ _ 144 _ _ from ?_))
  refine z_iload ok 0 dX11_tries_144 rfl (show zG P G _ _ 146 _ _ from ?_)
  refine z_iconst ok (1 : Int32) dX11_tries_146 (by decide) (show zG P G _ _ 147 _ _ from ?_)
  refine z_iadd ok dX11_tries_147 (show zG P G _ _ 148 _ _ from ?_)
  refine z_iload ok 4 dX11_tries_148 rfl (show zG P G _ _ 150 _ _ from ?_)
  refine z_if_eq ok 157 dX11_tries_150 (by decide) ?_ (show zG P G _ _ 153 _ _ from ?_)
  · refine z_iconst ok (0 : Int32) dX11_tries_157 (by decide) (show zG P G _ _ 158 _ _ from ?_)
    exact z_sub [1, 2, 3, 4, 0] [(0, .ref a0), (1, .int x1), (3, .int x3), (4, .int x4), (5, .int v130)] rfl (t_X11_tries_b158 ok h_a0 h_b141)
  · refine z_iconst ok (1 : Int32) dX11_tries_153 (by decide) (show zG P G _ _ 154 _ _ from ?_)
    refine z_goto ok 158 dX11_tries_154 (by decide) ?_
    exact z_sub [1, 2, 3, 4, 0] [(0, .ref a0), (1, .int x1), (3, .int x3), (4, .int x4), (5, .int v130)] rfl (t_X11_tries_b158 ok h_a0 h_b141)
set_option maxRecDepth 100000 in
set_option maxHeartbeats 4000000 in
theorem t_X11_tries_b90 {P : zSt} {G : zC} (ok : zOK P G RX11 cX11_tries 6 3 69 (some .boolean))  {a0 : Nat} {x1 : Int32} {x2 : Int32} {x3 : Int32} {x4 : Int32} {s0 : Int32} {s1 : Int32} {s2 : Int32} {t3 : Nat} {m : zM} (h_a0 : zT P 10 a0) (h_t3 : zT P 10 t3) : zG P G (f_X11_tries_b90 P a0 x1 x2 x3 x4 s0 s1 s2 t3 m) m 90 [(0, .ref a0), (1, .int x1), (2, .int x2), (3, .int x3), (4, .int x4)] [.int s0, .int s1, .int s2, .ref t3] := by
  unfold f_X11_tries_b90
  refine z_callVv ok [.int s2, .int s1, .int s0] (m_X11_sets _ ok.p h_t3) cv_X11_58 h_t3 rfl (by decide) rfl (Nat.le_of_ble_eq_true rfl) rfl dX11_tries_90 (fun _ m90 => (show zG P G _ _ 93 _ _ from ?_))
  refine z_aload_n ok 0 dX11_tries_93 rfl (show zG P G _ _ 94 _ _ from ?_)
  refine z_getR ok fd_200 h_a0 (Or.inl rfl) tf_X11_9 dX11_tries_94 (fun b94 h_b94 => (show zG P G _ _ 97 _ _ from ?_))
  refine z_sipush ok (702 : Int32) dX11_tries_97 (by decide) (show zG P G _ _ 100 _ _ from ?_)
  refine z_dup2 ok dX11_tries_100 rfl rfl (show zG P G _ _ 101 _ _ from ?_)
  refine z_iald ok h_b94 dX11_tries_101 (show zG P G _ _ 102 _ _ from ?_)
  refine z_iconst ok (1 : Int32) dX11_tries_102 (by decide) (show zG P G _ _ 103 _ _ from ?_)
  refine z_iadd ok dX11_tries_103 (show zG P G _ _ 104 _ _ from ?_)
  refine z_iast ok h_b94 dX11_tries_104 (fun m104 => (show zG P G _ _ 105 _ _ from ?_))
  refine z_iload ok 4 dX11_tries_105 rfl (show zG P G _ _ 107 _ _ from ?_)
  refine z_if_ne ok 116 dX11_tries_107 (by decide) ?_ (show zG P G _ _ 110 _ _ from ?_)
  · exact z_sub [0, 1, 3, 4] [(0, .ref a0), (1, .int x1), (3, .int x3), (4, .int x4)] rfl (t_X11_tries_b116 ok h_a0)
  · refine z_aload_n ok 0 dX11_tries_110 rfl (show zG P G _ _ 111 _ _ from ?_)
    refine z_iload_n ok 1 dX11_tries_111 rfl (show zG P G _ _ 112 _ _ from ?_)
    refine z_iload_n ok 2 dX11_tries_112 rfl (show zG P G _ _ 113 _ _ from ?_)
    refine z_callVv ok [.int x1, .int x2] (m_X11_ejects _ ok.p h_a0) cv_X11_143 h_a0 rfl (by decide) rfl (Nat.le_of_ble_eq_true rfl) rfl dX11_tries_113 (fun _ m113 => (show zG P G _ _ 116 _ _ from ?_))
    exact z_sub [0, 1, 3, 4] [(0, .ref a0), (1, .int x1), (3, .int x3), (4, .int x4)] rfl (t_X11_tries_b116 ok h_a0)
set_option maxRecDepth 100000 in
set_option maxHeartbeats 4000000 in
theorem t_X11_tries_b64 {P : zSt} {G : zC} (ok : zOK P G RX11 cX11_tries 6 3 69 (some .boolean))  {a0 : Nat} {x1 : Int32} {x2 : Int32} {x3 : Int32} {x4 : Int32} {s0 : Int32} {s1 : Int32} {s2 : Int32} {s3 : Int32} {t4 : Nat} {m : zM} (h_a0 : zT P 10 a0) (h_t4 : zT P 10 t4) : zG P G (f_X11_tries_b64 P a0 x1 x2 x3 x4 s0 s1 s2 s3 t4 m) m 64 [(0, .ref a0), (1, .int x1), (2, .int x2), (3, .int x3), (4, .int x4)] [.int s0, .int s1, .int s2, .int s3, .ref t4] := by
  unfold f_X11_tries_b64
  refine z_iadd ok dX11_tries_64 (show zG P G _ _ 65 _ _ from ?_)
  refine z_callVv ok [.int s3, .int s2, .int (s1 + s0)] (m_X11_sets _ ok.p h_t4) cv_X11_58 h_t4 rfl (by decide) rfl (Nat.le_of_ble_eq_true rfl) rfl dX11_tries_65 (fun _ m65 => (show zG P G _ _ 68 _ _ from ?_))
  refine z_aload_n ok 0 dX11_tries_68 rfl (show zG P G _ _ 69 _ _ from ?_)
  refine z_iload_n ok 1 dX11_tries_69 rfl (show zG P G _ _ 70 _ _ from ?_)
  refine z_bipush ok (7 : Int32) dX11_tries_70 (by decide) (show zG P G _ _ 72 _ _ from ?_)
  refine z_iload ok 4 dX11_tries_72 rfl (show zG P G _ _ 74 _ _ from ?_)
  refine z_if_eq ok 81 dX11_tries_74 (by decide) ?_ (show zG P G _ _ 77 _ _ from ?_)
  · refine z_aload_n ok 0 dX11_tries_81 rfl (show zG P G _ _ 82 _ _ from ?_)
    refine z_iload_n ok 1 dX11_tries_82 rfl (show zG P G _ _ 83 _ _ from ?_)
    refine z_bipush ok (7 : Int32) dX11_tries_83 (by decide) (show zG P G _ _ 85 _ _ from ?_)
    refine z_callVi ok [.int x1, .int (7 : Int32)] (m_X11_of _ ok.p h_a0) cv_X11_66 h_a0 rfl (by decide) rfl (Nat.le_of_ble_eq_true rfl) rfl dX11_tries_85 (fun r85 m85 => (show zG P G _ _ 88 _ _ from ?_))
    refine z_iconst ok (1 : Int32) dX11_tries_88 (by decide) (show zG P G _ _ 89 _ _ from ?_)
    refine z_iadd ok dX11_tries_89 (show zG P G _ _ 90 _ _ from ?_)
    exact z_sub [0, 1, 2, 3, 4] [(0, .ref a0), (1, .int x1), (2, .int x2), (3, .int x3), (4, .int x4)] rfl (t_X11_tries_b90 ok h_a0 h_a0)
  · refine z_iconst ok (0 : Int32) dX11_tries_77 (by decide) (show zG P G _ _ 78 _ _ from ?_)
    refine z_goto ok 90 dX11_tries_78 (by decide) ?_
    exact z_sub [0, 1, 2, 3, 4] [(0, .ref a0), (1, .int x1), (2, .int x2), (3, .int x3), (4, .int x4)] rfl (t_X11_tries_b90 ok h_a0 h_a0)
set_option maxRecDepth 100000 in
set_option maxHeartbeats 4000000 in
theorem t_X11_tries_b27 {P : zSt} {G : zC} (ok : zOK P G RX11 cX11_tries 6 3 69 (some .boolean))  {a0 : Nat} {x1 : Int32} {x2 : Int32} {x3 : Int32} {s0 : Int32} {m : zM} (h_a0 : zT P 10 a0) : zG P G (f_X11_tries_b27 P a0 x1 x2 x3 s0 m) m 27 [(0, .ref a0), (1, .int x1), (2, .int x2), (3, .int x3)] [.int s0] := by
  unfold f_X11_tries_b27
  refine z_istore0 ok [(4, .int s0), (0, .ref a0), (1, .int x1), (2, .int x2), (3, .int x3)] dX11_tries_27 (by decide) rfl (show zG P G _ _ 29 _ _ from ?_)
  refine z_aload_n ok 1 dX11_tries_29 rfl (show zG P G _ _ 30 _ _ from ?_)
  refine z_iload_n ok 2 dX11_tries_30 rfl (show zG P G _ _ 31 _ _ from ?_)
  refine z_iconst ok (5 : Int32) dX11_tries_31 (by decide) (show zG P G _ _ 32 _ _ from ?_)
  refine z_aload_n ok 1 dX11_tries_32 rfl (show zG P G _ _ 33 _ _ from ?_)
  refine z_iload_n ok 2 dX11_tries_33 rfl (show zG P G _ _ 34 _ _ from ?_)
  refine z_iconst ok (5 : Int32) dX11_tries_34 (by decide) (show zG P G _ _ 35 _ _ from ?_)
  refine z_callVi ok [.int x1, .int (5 : Int32)] (m_X11_of _ ok.p h_a0) cv_X11_66 h_a0 rfl (by decide) rfl (Nat.le_of_ble_eq_true rfl) rfl dX11_tries_35 (fun r35 m35 => (show zG P G _ _ 38 _ _ from ?_))
  refine z_iconst ok (1 : Int32) dX11_tries_38 (by decide) (show zG P G _ _ 39 _ _ from ?_)
  refine z_iadd ok dX11_tries_39 (show zG P G _ _ 40 _ _ from ?_)
  refine z_callVv ok [.int x1, .int (5 : Int32), .int (r35 + (1 : Int32))] (m_X11_sets _ ok.p h_a0) cv_X11_58 h_a0 rfl (by decide) rfl (Nat.le_of_ble_eq_true rfl) rfl dX11_tries_40 (fun _ m40 => (show zG P G _ _ 43 _ _ from ?_))
  refine z_aload_n ok 1 dX11_tries_43 rfl (show zG P G _ _ 44 _ _ from ?_)
  refine z_iload_n ok 2 dX11_tries_44 rfl (show zG P G _ _ 45 _ _ from ?_)
  refine z_bipush ok (6 : Int32) dX11_tries_45 (by decide) (show zG P G _ _ 47 _ _ from ?_)
  refine z_aload_n ok 1 dX11_tries_47 rfl (show zG P G _ _ 48 _ _ from ?_)
  refine z_iload_n ok 2 dX11_tries_48 rfl (show zG P G _ _ 49 _ _ from ?_)
  refine z_bipush ok (6 : Int32) dX11_tries_49 (by decide) (show zG P G _ _ 51 _ _ from ?_)
  refine z_callVi ok [.int x1, .int (6 : Int32)] (m_X11_of _ ok.p h_a0) cv_X11_66 h_a0 rfl (by decide) rfl (Nat.le_of_ble_eq_true rfl) rfl dX11_tries_51 (fun r51 m51 => (show zG P G _ _ 54 _ _ from ?_))
  refine z_iload ok 0 dX11_tries_54 rfl (show zG P G _ _ 56 _ _ from ?_)
  refine z_if_eq ok 63 dX11_tries_56 (by decide) ?_ (show zG P G _ _ 59 _ _ from ?_)
  · refine z_iconst ok (0 : Int32) dX11_tries_63 (by decide) (show zG P G _ _ 64 _ _ from ?_)
    exact z_sub [1, 2, 3, 4, 0] [(0, .ref a0), (1, .int x1), (2, .int x2), (3, .int x3), (4, .int s0)] rfl (t_X11_tries_b64 ok h_a0 h_a0)
  · refine z_iconst ok (1 : Int32) dX11_tries_59 (by decide) (show zG P G _ _ 60 _ _ from ?_)
    refine z_goto ok 64 dX11_tries_60 (by decide) ?_
    exact z_sub [1, 2, 3, 4, 0] [(0, .ref a0), (1, .int x1), (2, .int x2), (3, .int x3), (4, .int s0)] rfl (t_X11_tries_b64 ok h_a0 h_a0)
set_option maxRecDepth 100000 in
set_option maxHeartbeats 4000000 in
theorem m_X11_tries (l : Launch) {P : zSt} (hP : zOKP P) {a0 : Nat} {i1 : Int32} {i2 : Int32} {i3 : Int32} (h_a0 : zT P 10 a0) : zMet l P yX11_tries cX11_tries 6 3 69 (some .boolean) [.ref a0, .int i1, .int i2, .int i3] (fun m => f_X11_tries P a0 i1 i2 i3 m) := by
  refine zMet.of hP (by decide +kernel) RX11 rfl [(0, .ref a0), (1, .int i1), (2, .int i2), (3, .int i3)] (fun h => h) (Nat.le_of_ble_eq_true rfl) (fun G m ok => ?_)
  show zG P G (f_X11_tries P a0 i1 i2 i3 m) m 0 _ []
  unfold f_X11_tries
  refine z_aload_n ok 0 dX11_tries_0 rfl (show zG P G _ _ 1 _ _ from ?_)
  refine z_iload_n ok 1 dX11_tries_1 rfl (show zG P G _ _ 2 _ _ from ?_)
  refine z_iconst ok (3 : Int32) dX11_tries_2 (by decide) (show zG P G _ _ 3 _ _ from ?_)
  refine z_callVi ok [.int i1, .int (3 : Int32)] (m_X11_of _ ok.p h_a0) cv_X11_66 h_a0 rfl (by decide) rfl (Nat.le_of_ble_eq_true rfl) rfl dX11_tries_3 (fun r3 m3 => (show zG P G _ _ 6 _ _ from ?_))
  refine z_aload_n ok 0 dX11_tries_6 rfl (show zG P G _ _ 7 _ _ from ?_)
  refine z_iload_n ok 1 dX11_tries_7 rfl (show zG P G _ _ 8 _ _ from ?_)
  refine z_iconst ok (5 : Int32) dX11_tries_8 (by decide) (show zG P G _ _ 9 _ _ from ?_)
  refine z_callVi ok [.int i1, .int (5 : Int32)] (m_X11_of _ ok.p h_a0) cv_X11_66 h_a0 rfl (by decide) rfl (Nat.le_of_ble_eq_true rfl) rfl dX11_tries_9 (fun r9 m9 => (show zG P G _ _ 12 _ _ from ?_))
  refine z_bipush ok (8 : Int32) dX11_tries_12 (by decide) (show zG P G _ _ 14 _ _ from ?_)
  refine z_irem ok dX11_tries_14 (show zG P G _ _ 15 _ _ from ?_)
  refine z_ishr ok dX11_tries_15 (show zG P G _ _ 16 _ _ from ?_)
  refine z_iconst ok (1 : Int32) dX11_tries_16 (by decide) (show zG P G _ _ 17 _ _ from ?_)
  refine z_iand ok dX11_tries_17 (show zG P G _ _ 18 _ _ from ?_)
  refine z_iconst ok (1 : Int32) dX11_tries_18 (by decide) (show zG P G _ _ 19 _ _ from ?_)
  refine z_icmp_ne ok 26 dX11_tries_19 (by decide) ?_ (show zG P G _ _ 22 _ _ from ?_)
  · refine z_iconst ok (0 : Int32) dX11_tries_26 (by decide) (show zG P G _ _ 27 _ _ from ?_)
    exact z_sub [0, 1, 2, 3] [(0, .ref a0), (1, .int i1), (2, .int i2), (3, .int i3)] rfl (t_X11_tries_b27 ok h_a0)
  · refine z_iconst ok (1 : Int32) dX11_tries_22 (by decide) (show zG P G _ _ 23 _ _ from ?_)
    refine z_goto ok 27 dX11_tries_23 (by decide) ?_
    exact z_sub [0, 1, 2, 3] [(0, .ref a0), (1, .int i1), (2, .int i2), (3, .int i3)] rfl (t_X11_tries_b27 ok h_a0)
set_option maxRecDepth 100000 in
set_option maxHeartbeats 4000000 in
theorem t_X11_mirrors_b48 {P : zSt} {G : zC} (ok : zOK P G RX11 cX11_mirrors 4 2 44 none) (rec_4 : Nat → Int32 → Int32 → Int32 → zM → Option (Int32 × zM)) (hr_4 : ∀ (a0 : Nat) (x1 : Int32) (x2 : Int32) (x3 : Int32) (m : zM), zT P 10 a0 → zG P G (rec_4 a0 x1 x2 x3 m) m 4 [(0, .ref a0), (1, .int x1), (2, .int x2), (3, .int x3)] []) {a0 : Nat} {x1 : Int32} {x2 : Int32} {x3 : Int32} {m : zM} (h_a0 : zT P 10 a0) : zG P G (f_X11_mirrors_b48 P rec_4 a0 x1 x2 x3 m) m 48 [(0, .ref a0), (1, .int x1), (2, .int x2), (3, .int x3)] [] := by
  unfold f_X11_mirrors_b48
  refine z_iinc ok (fun v48 => [(3, .int v48), (0, .ref a0), (1, .int x1), (2, .int x2)]) 3 dX11_mirrors_48 rfl (by decide) (by decide) (fun _ => rfl) (fun v48 => (show zG P G _ _ 51 _ _ from ?_))
  refine z_goto ok 4 dX11_mirrors_51 (by decide) ?_
  exact z_sub [1, 2, 3, 0] [(0, .ref a0), (1, .int x1), (2, .int x2), (3, .int v48)] rfl (hr_4 _ _ _ _ _ h_a0)
set_option maxRecDepth 100000 in
set_option maxHeartbeats 4000000 in
theorem t_X11_mirrors_b46 {P : zSt} {G : zC} (ok : zOK P G RX11 cX11_mirrors 4 2 44 none) (rec_4 : Nat → Int32 → Int32 → Int32 → zM → Option (Int32 × zM)) (hr_4 : ∀ (a0 : Nat) (x1 : Int32) (x2 : Int32) (x3 : Int32) (m : zM), zT P 10 a0 → zG P G (rec_4 a0 x1 x2 x3 m) m 4 [(0, .ref a0), (1, .int x1), (2, .int x2), (3, .int x3)] []) {a0 : Nat} {x1 : Int32} {x3 : Int32} {m : zM} (h_a0 : zT P 10 a0) : zG P G (f_X11_mirrors_b46 P rec_4 a0 x1 x3 m) m 46 [(0, .ref a0), (1, .int x1), (3, .int x3)] [] := by
  unfold f_X11_mirrors_b46
  refine z_iload_n ok 2 dX11_mirrors_46 rfl (show zG P G _ _ 47 _ _ from ?_)
  refine z_istore_n0 ok [(2, .int x3), (0, .ref a0), (1, .int x1), (3, .int x3)] dX11_mirrors_47 (by decide) rfl (show zG P G _ _ 48 _ _ from ?_)
  exact z_sub [1, 2, 0, 3] [(0, .ref a0), (1, .int x1), (2, .int x3), (3, .int x3)] rfl (t_X11_mirrors_b48 ok rec_4 hr_4 h_a0)
set_option maxRecDepth 100000 in
set_option maxHeartbeats 4000000 in
theorem t_X11_mirrors_b4 {P : zSt} {G : zC} (ok : zOK P G RX11 cX11_mirrors 4 2 44 none)  : ∀ (n : Nat) (a0 : Nat) (x1 : Int32) (x2 : Int32) (x3 : Int32) (m : zM) (h_a0 : zT P 10 a0), zG P G (f_X11_mirrors_b4 P n a0 x1 x2 x3 m) m 4 [(0, .ref a0), (1, .int x1), (2, .int x2), (3, .int x3)] [] := by
  intro n
  induction n with
  | zero =>
    intros
    exact zG_none
  | succ n ih =>
    intro a0 x1 x2 x3 m h_a0
    unfold f_X11_mirrors_b4
    have hr_4 := ih
    refine z_iload_n ok 3 dX11_mirrors_4 rfl (show zG P G _ _ 5 _ _ from ?_)
    refine z_aload_n ok 0 dX11_mirrors_5 rfl (show zG P G _ _ 6 _ _ from ?_)
    refine z_getR ok fd_200 h_a0 (Or.inl rfl) tf_X11_9 dX11_mirrors_6 (fun b6 h_b6 => (show zG P G _ _ 9 _ _ from ?_))
    refine z_sipush ok (144 : Int32) dX11_mirrors_9 (by decide) (show zG P G _ _ 12 _ _ from ?_)
    refine z_iald ok h_b6 dX11_mirrors_12 (show zG P G _ _ 13 _ _ from ?_)
    refine z_icmp_ge ok 54 dX11_mirrors_13 (by decide) ?_ (show zG P G _ _ 16 _ _ from ?_)
    · refine z_iload_n ok 2 dX11_mirrors_54 rfl (show zG P G _ _ 55 _ _ from ?_)
      refine z_if_ge ok 59 dX11_mirrors_55 (by decide) ?_ (show zG P G _ _ 58 _ _ from ?_)
      · refine z_aload_n ok 0 dX11_mirrors_59 rfl (show zG P G _ _ 60 _ _ from ?_)
        refine z_iload_n ok 2 dX11_mirrors_60 rfl (show zG P G _ _ 61 _ _ from ?_)
        refine z_bipush ok (11 : Int32) dX11_mirrors_61 (by decide) (show zG P G _ _ 63 _ _ from ?_)
        refine z_aload_n ok 0 dX11_mirrors_63 rfl (show zG P G _ _ 64 _ _ from ?_)
        refine z_iload_n ok 2 dX11_mirrors_64 rfl (show zG P G _ _ 65 _ _ from ?_)
        refine z_bipush ok (11 : Int32) dX11_mirrors_65 (by decide) (show zG P G _ _ 67 _ _ from ?_)
        refine z_callVi ok [.int x2, .int (11 : Int32)] (m_X11_of _ ok.p h_a0) cv_X11_66 h_a0 rfl (by decide) rfl (Nat.le_of_ble_eq_true rfl) rfl dX11_mirrors_67 (fun r67 m67 => (show zG P G _ _ 70 _ _ from ?_))
        refine z_aload_n ok 0 dX11_mirrors_70 rfl (show zG P G _ _ 71 _ _ from ?_)
        refine z_iload_n ok 2 dX11_mirrors_71 rfl (show zG P G _ _ 72 _ _ from ?_)
        refine z_iconst ok (3 : Int32) dX11_mirrors_72 (by decide) (show zG P G _ _ 73 _ _ from ?_)
        refine z_callVi ok [.int x2, .int (3 : Int32)] (m_X11_of _ ok.p h_a0) cv_X11_66 h_a0 rfl (by decide) rfl (Nat.le_of_ble_eq_true rfl) rfl dX11_mirrors_73 (fun r73 m73 => (show zG P G _ _ 76 _ _ from ?_))
        refine z_aload_n ok 0 dX11_mirrors_76 rfl (show zG P G _ _ 77 _ _ from ?_)
        refine z_iload_n ok 2 dX11_mirrors_77 rfl (show zG P G _ _ 78 _ _ from ?_)
        refine z_bipush ok (10 : Int32) dX11_mirrors_78 (by decide) (show zG P G _ _ 80 _ _ from ?_)
        refine z_callVi ok [.int x2, .int (10 : Int32)] (m_X11_of _ ok.p h_a0) cv_X11_66 h_a0 rfl (by decide) rfl (Nat.le_of_ble_eq_true rfl) rfl dX11_mirrors_80 (fun r80 m80 => (show zG P G _ _ 83 _ _ from ?_))
        refine z_bipush ok (8 : Int32) dX11_mirrors_83 (by decide) (show zG P G _ _ 85 _ _ from ?_)
        refine z_irem ok dX11_mirrors_85 (show zG P G _ _ 86 _ _ from ?_)
        refine z_ishr ok dX11_mirrors_86 (show zG P G _ _ 87 _ _ from ?_)
        refine z_iconst ok (1 : Int32) dX11_mirrors_87 (by decide) (show zG P G _ _ 88 _ _ from ?_)
        refine z_iand ok dX11_mirrors_88 (show zG P G _ _ 89 _ _ from ?_)
        refine z_iadd ok dX11_mirrors_89 (show zG P G _ _ 90 _ _ from ?_)
        refine z_callVv ok [.int x2, .int (11 : Int32), .int (r67 + ((r73 >>> ((r80 - r80 / (8 : Int32) * (8 : Int32)) &&& 31)) &&& (1 : Int32)))] (m_X11_sets _ ok.p h_a0) cv_X11_58 h_a0 rfl (by decide) rfl (Nat.le_of_ble_eq_true rfl) rfl dX11_mirrors_90 (fun _ m90 => (show zG P G _ _ 93 _ _ from ?_))
        refine z_aload_n ok 0 dX11_mirrors_93 rfl (show zG P G _ _ 94 _ _ from ?_)
        refine z_iload_n ok 2 dX11_mirrors_94 rfl (show zG P G _ _ 95 _ _ from ?_)
        refine z_bipush ok (10 : Int32) dX11_mirrors_95 (by decide) (show zG P G _ _ 97 _ _ from ?_)
        refine z_aload_n ok 0 dX11_mirrors_97 rfl (show zG P G _ _ 98 _ _ from ?_)
        refine z_iload_n ok 2 dX11_mirrors_98 rfl (show zG P G _ _ 99 _ _ from ?_)
        refine z_bipush ok (10 : Int32) dX11_mirrors_99 (by decide) (show zG P G _ _ 101 _ _ from ?_)
        refine z_callVi ok [.int x2, .int (10 : Int32)] (m_X11_of _ ok.p h_a0) cv_X11_66 h_a0 rfl (by decide) rfl (Nat.le_of_ble_eq_true rfl) rfl dX11_mirrors_101 (fun r101 m101 => (show zG P G _ _ 104 _ _ from ?_))
        refine z_iconst ok (1 : Int32) dX11_mirrors_104 (by decide) (show zG P G _ _ 105 _ _ from ?_)
        refine z_iadd ok dX11_mirrors_105 (show zG P G _ _ 106 _ _ from ?_)
        refine z_callVv ok [.int x2, .int (10 : Int32), .int (r101 + (1 : Int32))] (m_X11_sets _ ok.p h_a0) cv_X11_58 h_a0 rfl (by decide) rfl (Nat.le_of_ble_eq_true rfl) rfl dX11_mirrors_106 (fun _ m106 => (show zG P G _ _ 109 _ _ from ?_))
        refine z_aload_n ok 0 dX11_mirrors_109 rfl (show zG P G _ _ 110 _ _ from ?_)
        refine z_getR ok fd_200 h_a0 (Or.inl rfl) tf_X11_9 dX11_mirrors_110 (fun b110 h_b110 => (show zG P G _ _ 113 _ _ from ?_))
        refine z_sipush ok (703 : Int32) dX11_mirrors_113 (by decide) (show zG P G _ _ 116 _ _ from ?_)
        refine z_dup2 ok dX11_mirrors_116 rfl rfl (show zG P G _ _ 117 _ _ from ?_)
        refine z_iald ok h_b110 dX11_mirrors_117 (show zG P G _ _ 118 _ _ from ?_)
        refine z_iconst ok (1 : Int32) dX11_mirrors_118 (by decide) (show zG P G _ _ 119 _ _ from ?_)
        refine z_iadd ok dX11_mirrors_119 (show zG P G _ _ 120 _ _ from ?_)
        refine z_iast ok h_b110 dX11_mirrors_120 (fun m120 => (show zG P G _ _ 121 _ _ from ?_))
        exact z_vret ok dX11_mirrors_121
      · exact z_vret ok dX11_mirrors_58
    · refine z_aload_n ok 0 dX11_mirrors_16 rfl (show zG P G _ _ 17 _ _ from ?_)
      refine z_iload_n ok 3 dX11_mirrors_17 rfl (show zG P G _ _ 18 _ _ from ?_)
      refine z_iload_n ok 1 dX11_mirrors_18 rfl (show zG P G _ _ 19 _ _ from ?_)
      refine z_callVi ok [.int x3, .int x1] (m_X11_isMember _ ok.p h_a0) cv_X11_121 h_a0 rfl (by decide) rfl (Nat.le_of_ble_eq_true rfl) rfl dX11_mirrors_19 (fun r19 m19 => (show zG P G _ _ 22 _ _ from ?_))
      refine z_if_eq ok 48 dX11_mirrors_22 (by decide) ?_ (show zG P G _ _ 25 _ _ from ?_)
      · exact z_sub [0, 1, 2, 3] [(0, .ref a0), (1, .int x1), (2, .int x2), (3, .int x3)] rfl (t_X11_mirrors_b48 ok (f_X11_mirrors_b4 P n) hr_4 h_a0)
      · refine z_iload_n ok 2 dX11_mirrors_25 rfl (show zG P G _ _ 26 _ _ from ?_)
        refine z_if_lt ok 46 dX11_mirrors_26 (by decide) ?_ (show zG P G _ _ 29 _ _ from ?_)
        · exact z_sub [0, 1, 3] [(0, .ref a0), (1, .int x1), (3, .int x3)] rfl (t_X11_mirrors_b46 ok (f_X11_mirrors_b4 P n) hr_4 h_a0)
        · refine z_aload_n ok 0 dX11_mirrors_29 rfl (show zG P G _ _ 30 _ _ from ?_)
          refine z_iload_n ok 3 dX11_mirrors_30 rfl (show zG P G _ _ 31 _ _ from ?_)
          refine z_bipush ok (10 : Int32) dX11_mirrors_31 (by decide) (show zG P G _ _ 33 _ _ from ?_)
          refine z_callVi ok [.int x3, .int (10 : Int32)] (m_X11_of _ ok.p h_a0) cv_X11_66 h_a0 rfl (by decide) rfl (Nat.le_of_ble_eq_true rfl) rfl dX11_mirrors_33 (fun r33 m33 => (show zG P G _ _ 36 _ _ from ?_))
          refine z_aload_n ok 0 dX11_mirrors_36 rfl (show zG P G _ _ 37 _ _ from ?_)
          refine z_iload_n ok 2 dX11_mirrors_37 rfl (show zG P G _ _ 38 _ _ from ?_)
          refine z_bipush ok (10 : Int32) dX11_mirrors_38 (by decide) (show zG P G _ _ 40 _ _ from ?_)
          refine z_callVi ok [.int x2, .int (10 : Int32)] (m_X11_of _ ok.p h_a0) cv_X11_66 h_a0 rfl (by decide) rfl (Nat.le_of_ble_eq_true rfl) rfl dX11_mirrors_40 (fun r40 m40 => (show zG P G _ _ 43 _ _ from ?_))
          refine z_icmp_ge ok 48 dX11_mirrors_43 (by decide) ?_ (show zG P G _ _ 46 _ _ from ?_)
          · exact z_sub [0, 1, 2, 3] [(0, .ref a0), (1, .int x1), (2, .int x2), (3, .int x3)] rfl (t_X11_mirrors_b48 ok (f_X11_mirrors_b4 P n) hr_4 h_a0)
          · exact z_sub [0, 1, 3] [(0, .ref a0), (1, .int x1), (3, .int x3)] rfl (t_X11_mirrors_b46 ok (f_X11_mirrors_b4 P n) hr_4 h_a0)
set_option maxRecDepth 100000 in
set_option maxHeartbeats 4000000 in
theorem m_X11_mirrors (l : Launch) {P : zSt} (hP : zOKP P) {a0 : Nat} {i1 : Int32} (h_a0 : zT P 10 a0) : zMet l P yX11_mirrors cX11_mirrors 4 2 44 none [.ref a0, .int i1] (fun m => f_X11_mirrors P a0 i1 m) := by
  refine zMet.of hP (by decide +kernel) RX11 rfl [(0, .ref a0), (1, .int i1)] (fun h => h) (Nat.le_of_ble_eq_true rfl) (fun G m ok => ?_)
  show zG P G (f_X11_mirrors P a0 i1 m) m 0 _ []
  unfold f_X11_mirrors
  refine z_iconst ok (-1 : Int32) dX11_mirrors_0 (by decide) (show zG P G _ _ 1 _ _ from ?_)
  refine z_istore_n0 ok [(2, .int (-1 : Int32)), (0, .ref a0), (1, .int i1)] dX11_mirrors_1 (by decide) rfl (show zG P G _ _ 2 _ _ from ?_)
  refine z_iconst ok (0 : Int32) dX11_mirrors_2 (by decide) (show zG P G _ _ 3 _ _ from ?_)
  refine z_istore_n0 ok [(3, .int (0 : Int32)), (2, .int (-1 : Int32)), (0, .ref a0), (1, .int i1)] dX11_mirrors_3 (by decide) rfl (show zG P G _ _ 4 _ _ from ?_)
  exact z_sub [2, 3, 1, 0] [(0, .ref a0), (1, .int i1), (2, .int (-1 : Int32)), (3, .int (0 : Int32))] rfl (t_X11_mirrors_b4 ok zfuel _ _ _ _ _ h_a0)
set_option maxRecDepth 100000 in
set_option maxHeartbeats 4000000 in
theorem t_X11_serves_b212 {P : zSt} {G : zC} (ok : zOK P G RX11 cX11_serves 10 4 102 (some .int)) (rec_90 : Nat → Int32 → Int32 → Int32 → Int32 → Int32 → Int32 → Int32 → zM → Option (Int32 × zM)) (hr_90 : ∀ (a0 : Nat) (x1 : Int32) (x2 : Int32) (x3 : Int32) (x4 : Int32) (x5 : Int32) (x6 : Int32) (x7 : Int32) (m : zM), zT P 10 a0 → zG P G (rec_90 a0 x1 x2 x3 x4 x5 x6 x7 m) m 90 [(0, .ref a0), (1, .int x1), (2, .int x2), (3, .int x3), (4, .int x4), (5, .int x5), (6, .int x6), (7, .int x7)] []) {a0 : Nat} {x1 : Int32} {x2 : Int32} {x3 : Int32} {x4 : Int32} {x5 : Int32} {x6 : Int32} {x7 : Int32} {s0 : Int32} {m : zM} (h_a0 : zT P 10 a0) : zG P G (f_X11_serves_b212 P rec_90 a0 x1 x2 x3 x4 x5 x6 x7 s0 m) m 212 [(0, .ref a0), (1, .int x1), (2, .int x2), (3, .int x3), (4, .int x4), (5, .int x5), (6, .int x6), (7, .int x7)] [.int s0] := by
  unfold f_X11_serves_b212
  refine z_istore0 ok [(9, .int s0), (0, .ref a0), (1, .int x1), (2, .int x2), (3, .int x3), (4, .int x4), (5, .int x5), (6, .int x6), (7, .int x7)] dX11_serves_212 (by decide) rfl (show zG P G _ _ 214 _ _ from ?_)
  refine z_iload ok 0 dX11_serves_214 rfl (show zG P G _ _ 216 _ _ from ?_)
  refine z_if_ne ok 222 dX11_serves_216 (by decide) ?_ (show zG P G _ _ 219 _ _ from ?_)
  · refine z_aload_n ok 1 dX11_serves_222 rfl (show zG P G _ _ 223 _ _ from ?_)
    refine z_getR ok fd_200 h_a0 (Or.inl rfl) tf_X11_9 dX11_serves_223 (fun b223 h_b223 => (show zG P G _ _ 226 _ _ from ?_))
    refine z_iload ok 6 dX11_serves_226 rfl (show zG P G _ _ 228 _ _ from ?_)
    refine z_iconst ok (5 : Int32) dX11_serves_228 (by decide) (show zG P G _ _ 229 _ _ from ?_)
    refine z_iadd ok dX11_serves_229 (show zG P G _ _ 230 _ _ from ?_)
    refine z_dup2 ok dX11_serves_230 rfl rfl (show zG P G _ _ 231 _ _ from ?_)
    refine z_iald ok h_b223 dX11_serves_231 (show zG P G _ _ 232 _ _ from ?_)
    refine z_bipush ok (100 : Int32) dX11_serves_232 (by decide) (show zG P G _ _ 234 _ _ from ?_)
    refine z_isub ok dX11_serves_234 (show zG P G _ _ 235 _ _ from ?_)
    refine z_iast ok h_b223 dX11_serves_235 (fun m235 => (show zG P G _ _ 236 _ _ from ?_))
    refine z_goto ok 90 dX11_serves_236 (by decide) ?_
    exact z_sub [1, 2, 3, 4, 5, 6, 7, 8] [(0, .ref a0), (1, .int x1), (2, .int x2), (3, .int x3), (4, .int x4), (5, .int x5), (6, .int x6), (7, .int x7)] rfl (hr_90 _ _ _ _ _ _ _ _ _ h_a0)
  · refine z_bipush ok (-6 : Int32) dX11_serves_219 (by decide) (show zG P G _ _ 221 _ _ from ?_)
    exact z_iret ok dX11_serves_221
set_option maxRecDepth 100000 in
set_option maxHeartbeats 4000000 in
theorem t_X11_serves_b211 {P : zSt} {G : zC} (ok : zOK P G RX11 cX11_serves 10 4 102 (some .int)) (rec_90 : Nat → Int32 → Int32 → Int32 → Int32 → Int32 → Int32 → Int32 → zM → Option (Int32 × zM)) (hr_90 : ∀ (a0 : Nat) (x1 : Int32) (x2 : Int32) (x3 : Int32) (x4 : Int32) (x5 : Int32) (x6 : Int32) (x7 : Int32) (m : zM), zT P 10 a0 → zG P G (rec_90 a0 x1 x2 x3 x4 x5 x6 x7 m) m 90 [(0, .ref a0), (1, .int x1), (2, .int x2), (3, .int x3), (4, .int x4), (5, .int x5), (6, .int x6), (7, .int x7)] []) {a0 : Nat} {x1 : Int32} {x2 : Int32} {x3 : Int32} {x4 : Int32} {x5 : Int32} {x6 : Int32} {x7 : Int32} {m : zM} (h_a0 : zT P 10 a0) : zG P G (f_X11_serves_b211 P rec_90 a0 x1 x2 x3 x4 x5 x6 x7 m) m 211 [(0, .ref a0), (1, .int x1), (2, .int x2), (3, .int x3), (4, .int x4), (5, .int x5), (6, .int x6), (7, .int x7)] [] := by
  unfold f_X11_serves_b211
  refine z_iconst ok (0 : Int32) dX11_serves_211 (by decide) (show zG P G _ _ 212 _ _ from ?_)
  exact z_sub [0, 1, 2, 3, 4, 5, 6, 7] [(0, .ref a0), (1, .int x1), (2, .int x2), (3, .int x3), (4, .int x4), (5, .int x5), (6, .int x6), (7, .int x7)] rfl (t_X11_serves_b212 ok rec_90 hr_90 h_a0)
set_option maxRecDepth 100000 in
set_option maxHeartbeats 4000000 in
theorem t_X11_serves_b90 {P : zSt} {G : zC} (ok : zOK P G RX11 cX11_serves 10 4 102 (some .int))  : ∀ (n : Nat) (a0 : Nat) (x1 : Int32) (x2 : Int32) (x3 : Int32) (x4 : Int32) (x5 : Int32) (x6 : Int32) (x7 : Int32) (m : zM) (h_a0 : zT P 10 a0), zG P G (f_X11_serves_b90 P n a0 x1 x2 x3 x4 x5 x6 x7 m) m 90 [(0, .ref a0), (1, .int x1), (2, .int x2), (3, .int x3), (4, .int x4), (5, .int x5), (6, .int x6), (7, .int x7)] [] := by
  intro n
  induction n with
  | zero =>
    intros
    exact zG_none
  | succ n ih =>
    intro a0 x1 x2 x3 x4 x5 x6 x7 m h_a0
    unfold f_X11_serves_b90
    have hr_90 := ih
    refine z_aload_n ok 0 dX11_serves_90 rfl (show zG P G _ _ 91 _ _ from ?_)
    refine z_aload_n ok 0 dX11_serves_91 rfl (show zG P G _ _ 92 _ _ from ?_)
    refine z_iload_n ok 1 dX11_serves_92 rfl (show zG P G _ _ 93 _ _ from ?_)
    refine z_callVi ok [.int x1] (m_X11_availables _ ok.p h_a0) cv_X11_127 h_a0 rfl (by decide) rfl (Nat.le_of_ble_eq_true rfl) rfl dX11_serves_93 (fun r93 m93 => (show zG P G _ _ 96 _ _ from ?_))
    refine z_iload ok 6 dX11_serves_96 rfl (show zG P G _ _ 98 _ _ from ?_)
    refine z_iconst ok (-1 : Int32) dX11_serves_98 (by decide) (show zG P G _ _ 99 _ _ from ?_)
    refine z_ixor ok dX11_serves_99 (show zG P G _ _ 100 _ _ from ?_)
    refine z_iand ok dX11_serves_100 (show zG P G _ _ 101 _ _ from ?_)
    refine z_iload_n ok 1 dX11_serves_101 rfl (show zG P G _ _ 102 _ _ from ?_)
    refine z_iload_n ok 3 dX11_serves_102 rfl (show zG P G _ _ 103 _ _ from ?_)
    refine z_iload ok 4 dX11_serves_103 rfl (show zG P G _ _ 105 _ _ from ?_)
    refine z_callVi ok [.int (r93 &&& (x6 ^^^ (-1 : Int32))), .int x1, .int x3, .int x4] (m_X11_picks _ ok.p h_a0) cv_X11_147 h_a0 rfl (by decide) rfl (Nat.le_of_ble_eq_true rfl) rfl dX11_serves_105 (fun r105 m105 => (show zG P G _ _ 108 _ _ from ?_))
    refine z_istore0 ok [(8, .int r105), (0, .ref a0), (1, .int x1), (2, .int x2), (3, .int x3), (4, .int x4), (5, .int x5), (6, .int x6), (7, .int x7)] dX11_serves_108 (by decide) rfl (show zG P G _ _ 110 _ _ from ?_)
    refine z_iload ok 7 dX11_serves_110 rfl (show zG P G _ _ 112 _ _ from ?_)
    refine z_iconst ok (1 : Int32) dX11_serves_112 (by decide) (show zG P G _ _ 113 _ _ from ?_)
    refine z_iload ok 0 dX11_serves_113 rfl (show zG P G _ _ 115 _ _ from ?_)
    refine z_ishl ok dX11_serves_115 (show zG P G _ _ 116 _ _ from ?_)
    refine z_ior ok dX11_serves_116 (show zG P G _ _ 117 _ _ from ?_)
    refine z_istore ok (fun v117 => [(6, .int v117), (8, .int r105), (0, .ref a0), (1, .int x1), (2, .int x2), (3, .int x3), (4, .int x4), (5, .int x5), (7, .int x7)]) dX11_serves_117 (by decide) (fun _ => rfl) (fun v117 => (show zG P G _ _ 119 _ _ from ?_))
    refine z_iinc ok (fun v119 => [(7, .int v119), (6, .int v117), (8, .int r105), (0, .ref a0), (1, .int x1), (2, .int x2), (3, .int x3), (4, .int x4), (5, .int x5)]) 8 dX11_serves_119 rfl (by decide) (by decide) (fun _ => rfl) (fun v119 => (show zG P G _ _ 122 _ _ from ?_))
    refine z_aload_n ok 3 dX11_serves_122 rfl (show zG P G _ _ 123 _ _ from ?_)
    refine z_iload ok 2 dX11_serves_123 rfl (show zG P G _ _ 125 _ _ from ?_)
    refine z_iload_n ok 4 dX11_serves_125 rfl (show zG P G _ _ 126 _ _ from ?_)
    refine z_iload ok 7 dX11_serves_126 rfl (show zG P G _ _ 128 _ _ from ?_)
    refine z_callVi ok [.int r105, .int x1, .int x4] (m_X11_tries _ ok.p h_a0) cv_X11_150 h_a0 rfl (by decide) rfl (Nat.le_of_ble_eq_true rfl) rfl dX11_serves_128 (fun r128 m128 => (show zG P G _ _ 131 _ _ from ?_))
    refine z_if_eq ok 151 dX11_serves_131 (by decide) ?_ (show zG P G _ _ 134 _ _ from ?_)
    · refine z_aload_n ok 3 dX11_serves_151 rfl (show zG P G _ _ 152 _ _ from ?_)
      refine z_get ok fd_216 h_a0 (Or.inl rfl) tf_X11_37 dX11_serves_152 (show zG P G _ _ 155 _ _ from ?_)
      refine z_iconst ok (1 : Int32) dX11_serves_155 (by decide) (show zG P G _ _ 156 _ _ from ?_)
      refine z_icmp_eq ok 211 dX11_serves_156 (by decide) ?_ (show zG P G _ _ 159 _ _ from ?_)
      · exact z_sub [3, 4, 5, 6, 7, 8, 1, 0] [(0, .ref a0), (1, .int x1), (2, .int x2), (3, .int x3), (4, .int x4), (5, .int x5), (6, .int v117), (7, .int v119)] rfl (t_X11_serves_b211 ok (f_X11_serves_b90 P n) hr_90 h_a0)
      · refine z_iload ok 0 dX11_serves_159 rfl (show zG P G _ _ 161 _ _ from ?_)
        refine z_aload_n ok 3 dX11_serves_161 rfl (show zG P G _ _ 162 _ _ from ?_)
        refine z_getR ok fd_200 h_a0 (Or.inl rfl) tf_X11_9 dX11_serves_162 (fun b162 h_b162 => (show zG P G _ _ 165 _ _ from ?_))
        refine z_sipush ok (231 : Int32) dX11_serves_165 (by decide) (show zG P G _ _ 168 _ _ from ?_)
        refine z_bipush ok (58 : Int32) dX11_serves_168 (by decide) (show zG P G _ _ 170 _ _ from ?_)
        refine z_iload_n ok 5 dX11_serves_170 rfl (show zG P G _ _ 171 _ _ from ?_)
        refine z_imul ok dX11_serves_171 (show zG P G _ _ 172 _ _ from ?_)
        refine z_iadd ok dX11_serves_172 (show zG P G _ _ 173 _ _ from ?_)
        refine z_bipush ok (56 : Int32) dX11_serves_173 (by decide) (show zG P G _ _ 175 _ _ from ?_)
        refine z_iadd ok dX11_serves_175 (show zG P G _ _ 176 _ _ from ?_)
        refine z_iald ok h_b162 dX11_serves_176 (show zG P G _ _ 177 _ _ from ?_)
        refine z_icmp_ge ok 211 dX11_serves_177 (by decide) ?_ (show zG P G _ _ 180 _ _ from ?_)
        · exact z_sub [3, 4, 5, 6, 7, 8, 1, 0] [(0, .ref a0), (1, .int x1), (2, .int x2), (3, .int x3), (4, .int x4), (5, .int x5), (6, .int v117), (7, .int v119)] rfl (t_X11_serves_b211 ok (f_X11_serves_b90 P n) hr_90 h_a0)
        · refine z_aload_n ok 3 dX11_serves_180 rfl (show zG P G _ _ 181 _ _ from ?_)
          refine z_getR ok fd_200 h_a0 (Or.inl rfl) tf_X11_9 dX11_serves_181 (fun b181 h_b181 => (show zG P G _ _ 184 _ _ from ?_))
          refine z_iload ok 8 dX11_serves_184 rfl (show zG P G _ _ 186 _ _ from ?_)
          refine z_iconst ok (5 : Int32) dX11_serves_186 (by decide) (show zG P G _ _ 187 _ _ from ?_)
          refine z_iadd ok dX11_serves_187 (show zG P G _ _ 188 _ _ from ?_)
          refine z_iald ok h_b181 dX11_serves_188 (show zG P G _ _ 189 _ _ from ?_)
          refine z_bipush ok (100 : Int32) dX11_serves_189 (by decide) (show zG P G _ _ 191 _ _ from ?_)
          refine z_icmp_lt ok 211 dX11_serves_191 (by decide) ?_ (show zG P G _ _ 194 _ _ from ?_)
          · exact z_sub [3, 4, 5, 6, 7, 8, 1, 0] [(0, .ref a0), (1, .int x1), (2, .int x2), (3, .int x3), (4, .int x4), (5, .int x5), (6, .int v117), (7, .int v119)] rfl (t_X11_serves_b211 ok (f_X11_serves_b90 P n) hr_90 h_a0)
          · refine z_aload_n ok 3 dX11_serves_194 rfl (show zG P G _ _ 195 _ _ from ?_)
            refine z_iload_n ok 4 dX11_serves_195 rfl (show zG P G _ _ 196 _ _ from ?_)
            refine z_callVi ok [.int x1] (m_X11_availables _ ok.p h_a0) cv_X11_127 h_a0 rfl (by decide) rfl (Nat.le_of_ble_eq_true rfl) rfl dX11_serves_196 (fun r196 m196 => (show zG P G _ _ 199 _ _ from ?_))
            refine z_iload ok 1 dX11_serves_199 rfl (show zG P G _ _ 201 _ _ from ?_)
            refine z_iconst ok (-1 : Int32) dX11_serves_201 (by decide) (show zG P G _ _ 202 _ _ from ?_)
            refine z_ixor ok dX11_serves_202 (show zG P G _ _ 203 _ _ from ?_)
            refine z_iand ok dX11_serves_203 (show zG P G _ _ 204 _ _ from ?_)
            refine z_if_eq ok 211 dX11_serves_204 (by decide) ?_ (show zG P G _ _ 207 _ _ from ?_)
            · exact z_sub [3, 4, 5, 6, 7, 8, 1, 0] [(0, .ref a0), (1, .int x1), (2, .int x2), (3, .int x3), (4, .int x4), (5, .int x5), (6, .int v117), (7, .int v119)] rfl (t_X11_serves_b211 ok (f_X11_serves_b90 P n) hr_90 h_a0)
            · refine z_iconst ok (1 : Int32) dX11_serves_207 (by decide) (show zG P G _ _ 208 _ _ from ?_)
              refine z_goto ok 212 dX11_serves_208 (by decide) ?_
              exact z_sub [3, 4, 5, 6, 7, 8, 1, 0] [(0, .ref a0), (1, .int x1), (2, .int x2), (3, .int x3), (4, .int x4), (5, .int x5), (6, .int v117), (7, .int v119)] rfl (t_X11_serves_b212 ok (f_X11_serves_b90 P n) hr_90 h_a0)
    · refine z_aload_n ok 3 dX11_serves_134 rfl (show zG P G _ _ 135 _ _ from ?_)
      refine z_getR ok fd_200 h_a0 (Or.inl rfl) tf_X11_9 dX11_serves_135 (fun b135 h_b135 => (show zG P G _ _ 138 _ _ from ?_))
      refine z_iload ok 8 dX11_serves_138 rfl (show zG P G _ _ 140 _ _ from ?_)
      refine z_bipush ok (7 : Int32) dX11_serves_140 (by decide) (show zG P G _ _ 142 _ _ from ?_)
      refine z_iadd ok dX11_serves_142 (show zG P G _ _ 143 _ _ from ?_)
      refine z_dup2 ok dX11_serves_143 rfl rfl (show zG P G _ _ 144 _ _ from ?_)
      refine z_iald ok h_b135 dX11_serves_144 (show zG P G _ _ 145 _ _ from ?_)
      refine z_iconst ok (1 : Int32) dX11_serves_145 (by decide) (show zG P G _ _ 146 _ _ from ?_)
      refine z_iadd ok dX11_serves_146 (show zG P G _ _ 147 _ _ from ?_)
      refine z_iast ok h_b135 dX11_serves_147 (fun m147 => (show zG P G _ _ 148 _ _ from ?_))
      refine z_iload ok 2 dX11_serves_148 rfl (show zG P G _ _ 150 _ _ from ?_)
      exact z_iret ok dX11_serves_150
set_option maxRecDepth 100000 in
set_option maxHeartbeats 4000000 in
theorem t_X11_serves_b83 {P : zSt} {G : zC} (ok : zOK P G RX11 cX11_serves 10 4 102 (some .int))  {a0 : Nat} {x1 : Int32} {x2 : Int32} {x3 : Int32} {x4 : Int32} {x5 : Int32} {s0 : Int32} {s1 : Int32} {t2 : Nat} {m : zM} (h_a0 : zT P 10 a0) (h_t2 : zT P 12 t2) : zG P G (f_X11_serves_b83 P a0 x1 x2 x3 x4 x5 s0 s1 t2 m) m 83 [(0, .ref a0), (1, .int x1), (2, .int x2), (3, .int x3), (4, .int x4), (5, .int x5)] [.int s0, .int s1, .ref t2] := by
  unfold f_X11_serves_b83
  refine z_iast ok h_t2 dX11_serves_83 (fun m83 => (show zG P G _ _ 84 _ _ from ?_))
  refine z_iconst ok (0 : Int32) dX11_serves_84 (by decide) (show zG P G _ _ 85 _ _ from ?_)
  refine z_istore0 ok [(6, .int (0 : Int32)), (0, .ref a0), (1, .int x1), (2, .int x2), (3, .int x3), (4, .int x4), (5, .int x5)] dX11_serves_85 (by decide) rfl (show zG P G _ _ 87 _ _ from ?_)
  refine z_iconst ok (0 : Int32) dX11_serves_87 (by decide) (show zG P G _ _ 88 _ _ from ?_)
  refine z_istore0 ok [(7, .int (0 : Int32)), (6, .int (0 : Int32)), (0, .ref a0), (1, .int x1), (2, .int x2), (3, .int x3), (4, .int x4), (5, .int x5)] dX11_serves_88 (by decide) rfl (show zG P G _ _ 90 _ _ from ?_)
  exact z_sub [2, 3, 4, 5, 6, 7, 1, 0] [(0, .ref a0), (1, .int x1), (2, .int x2), (3, .int x3), (4, .int x4), (5, .int x5), (6, .int (0 : Int32)), (7, .int (0 : Int32))] rfl (t_X11_serves_b90 ok zfuel _ _ _ _ _ _ _ _ _ h_a0)
set_option maxRecDepth 100000 in
set_option maxHeartbeats 4000000 in
theorem m_X11_serves (l : Launch) {P : zSt} (hP : zOKP P) {a0 : Nat} {i1 : Int32} {i2 : Int32} {i3 : Int32} {i4 : Int32} (h_a0 : zT P 10 a0) : zMet l P yX11_serves cX11_serves 10 4 102 (some .int) [.ref a0, .int i1, .int i2, .int i3, .int i4] (fun m => f_X11_serves P a0 i1 i2 i3 i4 m) := by
  refine zMet.of hP (by decide +kernel) RX11 rfl [(0, .ref a0), (1, .int i1), (2, .int i2), (3, .int i3), (4, .int i4)] (fun h => h) (Nat.le_of_ble_eq_true rfl) (fun G m ok => ?_)
  show zG P G (f_X11_serves P a0 i1 i2 i3 i4 m) m 0 _ []
  unfold f_X11_serves
  refine z_sipush ok (145 : Int32) dX11_serves_0 (by decide) (show zG P G _ _ 3 _ _ from ?_)
  refine z_bipush ok (21 : Int32) dX11_serves_3 (by decide) (show zG P G _ _ 5 _ _ from ?_)
  refine z_iload_n ok 1 dX11_serves_5 rfl (show zG P G _ _ 6 _ _ from ?_)
  refine z_imul ok dX11_serves_6 (show zG P G _ _ 7 _ _ from ?_)
  refine z_iadd ok dX11_serves_7 (show zG P G _ _ 8 _ _ from ?_)
  refine z_istore ok (fun v8 => [(5, .int v8), (0, .ref a0), (1, .int i1), (2, .int i2), (3, .int i3), (4, .int i4)]) dX11_serves_8 (by decide) (fun _ => rfl) (fun v8 => (show zG P G _ _ 10 _ _ from ?_))
  refine z_aload_n ok 1 dX11_serves_10 rfl (show zG P G _ _ 11 _ _ from ?_)
  refine z_getR ok fd_200 h_a0 (Or.inl rfl) tf_X11_9 dX11_serves_11 (fun b11 h_b11 => (show zG P G _ _ 14 _ _ from ?_))
  refine z_iload ok 0 dX11_serves_14 rfl (show zG P G _ _ 16 _ _ from ?_)
  refine z_bipush ok (6 : Int32) dX11_serves_16 (by decide) (show zG P G _ _ 18 _ _ from ?_)
  refine z_iadd ok dX11_serves_18 (show zG P G _ _ 19 _ _ from ?_)
  refine z_dup2 ok dX11_serves_19 rfl rfl (show zG P G _ _ 20 _ _ from ?_)
  refine z_iald ok h_b11 dX11_serves_20 (show zG P G _ _ 21 _ _ from ?_)
  refine z_iconst ok (1 : Int32) dX11_serves_21 (by decide) (show zG P G _ _ 22 _ _ from ?_)
  refine z_iadd ok dX11_serves_22 (show zG P G _ _ 23 _ _ from ?_)
  refine z_iast ok h_b11 dX11_serves_23 (fun m23 => (show zG P G _ _ 24 _ _ from ?_))
  refine z_aload_n ok 1 dX11_serves_24 rfl (show zG P G _ _ 25 _ _ from ?_)
  refine z_getR ok fd_200 h_a0 (Or.inl rfl) tf_X11_9 dX11_serves_25 (fun b25 h_b25 => (show zG P G _ _ 28 _ _ from ?_))
  refine z_iload ok 0 dX11_serves_28 rfl (show zG P G _ _ 30 _ _ from ?_)
  refine z_iconst ok (5 : Int32) dX11_serves_30 (by decide) (show zG P G _ _ 31 _ _ from ?_)
  refine z_iadd ok dX11_serves_31 (show zG P G _ _ 32 _ _ from ?_)
  refine z_dup2 ok dX11_serves_32 rfl rfl (show zG P G _ _ 33 _ _ from ?_)
  refine z_iald ok h_b25 dX11_serves_33 (show zG P G _ _ 34 _ _ from ?_)
  refine z_aload_n ok 1 dX11_serves_34 rfl (show zG P G _ _ 35 _ _ from ?_)
  refine z_getR ok fd_200 h_a0 (Or.inl rfl) tf_X11_9 dX11_serves_35 (fun b35 h_b35 => (show zG P G _ _ 38 _ _ from ?_))
  refine z_iload ok 0 dX11_serves_38 rfl (show zG P G _ _ 40 _ _ from ?_)
  refine z_iconst ok (4 : Int32) dX11_serves_40 (by decide) (show zG P G _ _ 41 _ _ from ?_)
  refine z_iadd ok dX11_serves_41 (show zG P G _ _ 42 _ _ from ?_)
  refine z_iald ok h_b35 dX11_serves_42 (show zG P G _ _ 43 _ _ from ?_)
  refine z_iadd ok dX11_serves_43 (show zG P G _ _ 44 _ _ from ?_)
  refine z_iast ok h_b25 dX11_serves_44 (fun m44 => (show zG P G _ _ 45 _ _ from ?_))
  refine z_aload_n ok 1 dX11_serves_45 rfl (show zG P G _ _ 46 _ _ from ?_)
  refine z_getR ok fd_200 h_a0 (Or.inl rfl) tf_X11_9 dX11_serves_46 (fun b46 h_b46 => (show zG P G _ _ 49 _ _ from ?_))
  refine z_iload ok 0 dX11_serves_49 rfl (show zG P G _ _ 51 _ _ from ?_)
  refine z_iconst ok (5 : Int32) dX11_serves_51 (by decide) (show zG P G _ _ 52 _ _ from ?_)
  refine z_iadd ok dX11_serves_52 (show zG P G _ _ 53 _ _ from ?_)
  refine z_aload_n ok 1 dX11_serves_53 rfl (show zG P G _ _ 54 _ _ from ?_)
  refine z_getR ok fd_200 h_a0 (Or.inl rfl) tf_X11_9 dX11_serves_54 (fun b54 h_b54 => (show zG P G _ _ 57 _ _ from ?_))
  refine z_iload ok 0 dX11_serves_57 rfl (show zG P G _ _ 59 _ _ from ?_)
  refine z_iconst ok (5 : Int32) dX11_serves_59 (by decide) (show zG P G _ _ 60 _ _ from ?_)
  refine z_iadd ok dX11_serves_60 (show zG P G _ _ 61 _ _ from ?_)
  refine z_iald ok h_b54 dX11_serves_61 (show zG P G _ _ 62 _ _ from ?_)
  refine z_sipush ok (1000 : Int32) dX11_serves_62 (by decide) (show zG P G _ _ 65 _ _ from ?_)
  refine z_icmp_le ok 74 dX11_serves_65 (by decide) ?_ (show zG P G _ _ 68 _ _ from ?_)
  · refine z_aload_n ok 1 dX11_serves_74 rfl (show zG P G _ _ 75 _ _ from ?_)
    refine z_getR ok fd_200 h_a0 (Or.inl rfl) tf_X11_9 dX11_serves_75 (fun b75 h_b75 => (show zG P G _ _ 78 _ _ from ?_))
    refine z_iload ok 0 dX11_serves_78 rfl (show zG P G _ _ 80 _ _ from ?_)
    refine z_iconst ok (5 : Int32) dX11_serves_80 (by decide) (show zG P G _ _ 81 _ _ from ?_)
    refine z_iadd ok dX11_serves_81 (show zG P G _ _ 82 _ _ from ?_)
    refine z_iald ok h_b75 dX11_serves_82 (show zG P G _ _ 83 _ _ from ?_)
    exact z_sub [1, 2, 3, 4, 5, 0] [(0, .ref a0), (1, .int i1), (2, .int i2), (3, .int i3), (4, .int i4), (5, .int v8)] rfl (t_X11_serves_b83 ok h_a0 h_b46)
  · refine z_sipush ok (1000 : Int32) dX11_serves_68 (by decide) (show zG P G _ _ 71 _ _ from ?_)
    refine z_goto ok 83 dX11_serves_71 (by decide) ?_
    exact z_sub [1, 2, 3, 4, 5, 0] [(0, .ref a0), (1, .int i1), (2, .int i2), (3, .int i3), (4, .int i4), (5, .int v8)] rfl (t_X11_serves_b83 ok h_a0 h_b46)
set_option maxRecDepth 100000 in
set_option maxHeartbeats 4000000 in
theorem t_X11_answers_b164 {P : zSt} {G : zC} (ok : zOK P G RX11 cX11_answers 7 5 131 (some .int))  {x5 : Int32} {m : zM}  : zG P G (f_X11_answers_b164 P x5 m) m 164 [(5, .int x5)] [] := by
  unfold f_X11_answers_b164
  refine z_iload ok 0 dX11_answers_164 rfl (show zG P G _ _ 166 _ _ from ?_)
  exact z_iret ok dX11_answers_166
set_option maxRecDepth 100000 in
set_option maxHeartbeats 4000000 in
theorem t_X11_answers_b122 {P : zSt} {G : zC} (ok : zOK P G RX11 cX11_answers 7 5 131 (some .int))  {a0 : Nat} {x3 : Int32} {x5 : Int32} {s0 : Int32} {s1 : Int32} {t2 : Nat} {m : zM} (h_a0 : zT P 10 a0) (h_t2 : zT P 12 t2) : zG P G (f_X11_answers_b122 P a0 x3 x5 s0 s1 t2 m) m 122 [(0, .ref a0), (3, .int x3), (5, .int x5)] [.int s0, .int s1, .ref t2] := by
  unfold f_X11_answers_b122
  refine z_iadd ok dX11_answers_122 (show zG P G _ _ 123 _ _ from ?_)
  refine z_dup2 ok dX11_answers_123 rfl rfl (show zG P G _ _ 124 _ _ from ?_)
  refine z_iald ok h_t2 dX11_answers_124 (show zG P G _ _ 125 _ _ from ?_)
  refine z_iconst ok (1 : Int32) dX11_answers_125 (by decide) (show zG P G _ _ 126 _ _ from ?_)
  refine z_iadd ok dX11_answers_126 (show zG P G _ _ 127 _ _ from ?_)
  refine z_iast ok h_t2 dX11_answers_127 (fun m127 => (show zG P G _ _ 128 _ _ from ?_))
  refine z_aload_n ok 0 dX11_answers_128 rfl (show zG P G _ _ 129 _ _ from ?_)
  refine z_getR ok fd_200 h_a0 (Or.inl rfl) tf_X11_9 dX11_answers_129 (fun b129 h_b129 => (show zG P G _ _ 132 _ _ from ?_))
  refine z_sipush ok (231 : Int32) dX11_answers_132 (by decide) (show zG P G _ _ 135 _ _ from ?_)
  refine z_bipush ok (58 : Int32) dX11_answers_135 (by decide) (show zG P G _ _ 137 _ _ from ?_)
  refine z_iload_n ok 1 dX11_answers_137 rfl (show zG P G _ _ 138 _ _ from ?_)
  refine z_imul ok dX11_answers_138 (show zG P G _ _ 139 _ _ from ?_)
  refine z_iadd ok dX11_answers_139 (show zG P G _ _ 140 _ _ from ?_)
  refine z_bipush ok (57 : Int32) dX11_answers_140 (by decide) (show zG P G _ _ 142 _ _ from ?_)
  refine z_iadd ok dX11_answers_142 (show zG P G _ _ 143 _ _ from ?_)
  refine z_iald ok h_b129 dX11_answers_143 (show zG P G _ _ 144 _ _ from ?_)
  refine z_istore ok (fun v144 => [(6, .int v144), (0, .ref a0), (3, .int x3), (5, .int x5)]) dX11_answers_144 (by decide) (fun _ => rfl) (fun v144 => (show zG P G _ _ 146 _ _ from ?_))
  refine z_iload ok 0 dX11_answers_146 rfl (show zG P G _ _ 148 _ _ from ?_)
  refine z_if_lt ok 164 dX11_answers_148 (by decide) ?_ (show zG P G _ _ 151 _ _ from ?_)
  · exact z_sub [3] [(5, .int x5)] rfl (t_X11_answers_b164 ok)
  · refine z_aload_n ok 1 dX11_answers_151 rfl (show zG P G _ _ 152 _ _ from ?_)
    refine z_get ok fd_216 h_a0 (Or.inl rfl) tf_X11_37 dX11_answers_152 (show zG P G _ _ 155 _ _ from ?_)
    refine z_if_eq ok 164 dX11_answers_155 (by decide) ?_ (show zG P G _ _ 158 _ _ from ?_)
    · exact z_sub [3] [(5, .int x5)] rfl (t_X11_answers_b164 ok)
    · refine z_aload_n ok 1 dX11_answers_158 rfl (show zG P G _ _ 159 _ _ from ?_)
      refine z_iload ok 0 dX11_answers_159 rfl (show zG P G _ _ 161 _ _ from ?_)
      refine z_callVv ok [.int v144] (m_X11_mirrors _ ok.p h_a0) cv_X11_159 h_a0 rfl (by decide) rfl (Nat.le_of_ble_eq_true rfl) rfl dX11_answers_161 (fun _ m161 => (show zG P G _ _ 164 _ _ from ?_))
      exact z_sub [3] [(5, .int x5)] rfl (t_X11_answers_b164 ok)
set_option maxRecDepth 100000 in
set_option maxHeartbeats 4000000 in
theorem t_X11_answers_b91 {P : zSt} {G : zC} (ok : zOK P G RX11 cX11_answers 7 5 131 (some .int))  {a0 : Nat} {x3 : Int32} {s0 : Int32} {m : zM} (h_a0 : zT P 10 a0) : zG P G (f_X11_answers_b91 P a0 x3 s0 m) m 91 [(0, .ref a0), (3, .int x3)] [.int s0] := by
  unfold f_X11_answers_b91
  refine z_istore0 ok [(5, .int s0), (0, .ref a0), (3, .int x3)] dX11_answers_91 (by decide) rfl (show zG P G _ _ 93 _ _ from ?_)
  refine z_aload_n ok 1 dX11_answers_93 rfl (show zG P G _ _ 94 _ _ from ?_)
  refine z_getR ok fd_200 h_a0 (Or.inl rfl) tf_X11_9 dX11_answers_94 (fun b94 h_b94 => (show zG P G _ _ 97 _ _ from ?_))
  refine z_sipush ok (695 : Int32) dX11_answers_97 (by decide) (show zG P G _ _ 100 _ _ from ?_)
  refine z_iload ok 0 dX11_answers_100 rfl (show zG P G _ _ 102 _ _ from ?_)
  refine z_if_lt ok 109 dX11_answers_102 (by decide) ?_ (show zG P G _ _ 105 _ _ from ?_)
  · refine z_iload ok 0 dX11_answers_109 rfl (show zG P G _ _ 111 _ _ from ?_)
    refine z_bipush ok (-5 : Int32) dX11_answers_111 (by decide) (show zG P G _ _ 113 _ _ from ?_)
    refine z_icmp_ne ok 120 dX11_answers_113 (by decide) ?_ (show zG P G _ _ 116 _ _ from ?_)
    · refine z_bipush ok (6 : Int32) dX11_answers_120 (by decide) (show zG P G _ _ 122 _ _ from ?_)
      exact z_sub [1, 2, 0] [(0, .ref a0), (3, .int x3), (5, .int s0)] rfl (t_X11_answers_b122 ok h_a0 h_b94)
    · refine z_iconst ok (5 : Int32) dX11_answers_116 (by decide) (show zG P G _ _ 117 _ _ from ?_)
      refine z_goto ok 122 dX11_answers_117 (by decide) ?_
      exact z_sub [1, 2, 0] [(0, .ref a0), (3, .int x3), (5, .int s0)] rfl (t_X11_answers_b122 ok h_a0 h_b94)
  · refine z_iconst ok (3 : Int32) dX11_answers_105 (by decide) (show zG P G _ _ 106 _ _ from ?_)
    refine z_goto ok 122 dX11_answers_106 (by decide) ?_
    exact z_sub [1, 2, 0] [(0, .ref a0), (3, .int x3), (5, .int s0)] rfl (t_X11_answers_b122 ok h_a0 h_b94)
set_option maxRecDepth 100000 in
set_option maxHeartbeats 4000000 in
theorem m_X11_answers (l : Launch) {P : zSt} (hP : zOKP P) {a0 : Nat} {i1 : Int32} {i2 : Int32} (h_a0 : zT P 10 a0) : zMet l P yX11_answers cX11_answers 7 5 131 (some .int) [.ref a0, .int i1, .int i2] (fun m => f_X11_answers P a0 i1 i2 m) := by
  refine zMet.of hP (by decide +kernel) RX11 rfl [(0, .ref a0), (1, .int i1), (2, .int i2)] (fun h => h) (Nat.le_of_ble_eq_true rfl) (fun G m ok => ?_)
  show zG P G (f_X11_answers P a0 i1 i2 m) m 0 _ []
  unfold f_X11_answers
  refine z_aload_n ok 0 dX11_answers_0 rfl (show zG P G _ _ 1 _ _ from ?_)
  refine z_getR ok fd_200 h_a0 (Or.inl rfl) tf_X11_9 dX11_answers_1 (fun b1 h_b1 => (show zG P G _ _ 4 _ _ from ?_))
  refine z_sipush ok (706 : Int32) dX11_answers_4 (by decide) (show zG P G _ _ 7 _ _ from ?_)
  refine z_iconst ok (0 : Int32) dX11_answers_7 (by decide) (show zG P G _ _ 8 _ _ from ?_)
  refine z_iast ok h_b1 dX11_answers_8 (fun m8 => (show zG P G _ _ 9 _ _ from ?_))
  refine z_aload_n ok 0 dX11_answers_9 rfl (show zG P G _ _ 10 _ _ from ?_)
  refine z_getR ok fd_200 h_a0 (Or.inl rfl) tf_X11_9 dX11_answers_10 (fun b10 h_b10 => (show zG P G _ _ 13 _ _ from ?_))
  refine z_sipush ok (697 : Int32) dX11_answers_13 (by decide) (show zG P G _ _ 16 _ _ from ?_)
  refine z_dup2 ok dX11_answers_16 rfl rfl (show zG P G _ _ 17 _ _ from ?_)
  refine z_iald ok h_b10 dX11_answers_17 (show zG P G _ _ 18 _ _ from ?_)
  refine z_iconst ok (1 : Int32) dX11_answers_18 (by decide) (show zG P G _ _ 19 _ _ from ?_)
  refine z_iadd ok dX11_answers_19 (show zG P G _ _ 20 _ _ from ?_)
  refine z_iast ok h_b10 dX11_answers_20 (fun m20 => (show zG P G _ _ 21 _ _ from ?_))
  refine z_aload_n ok 0 dX11_answers_21 rfl (show zG P G _ _ 22 _ _ from ?_)
  refine z_iload_n ok 1 dX11_answers_22 rfl (show zG P G _ _ 23 _ _ from ?_)
  refine z_callVi ok [.int i1] (m_X11_ruleOf _ ok.p h_a0) cv_X11_117 h_a0 rfl (by decide) rfl (Nat.le_of_ble_eq_true rfl) rfl dX11_answers_23 (fun r23 m23 => (show zG P G _ _ 26 _ _ from ?_))
  refine z_istore_n0 ok [(3, .int r23), (0, .ref a0), (1, .int i1), (2, .int i2)] dX11_answers_26 (by decide) rfl (show zG P G _ _ 27 _ _ from ?_)
  refine z_iload_n ok 0 dX11_answers_27 rfl (show zG P G _ _ 28 _ _ from ?_)
  refine z_if_ge ok 46 dX11_answers_28 (by decide) ?_ (show zG P G _ _ 31 _ _ from ?_)
  · refine z_aload_n ok 1 dX11_answers_46 rfl (show zG P G _ _ 47 _ _ from ?_)
    refine z_iload_n ok 0 dX11_answers_47 rfl (show zG P G _ _ 48 _ _ from ?_)
    refine z_callVi ok [.int r23] (m_X11_choosesTarget _ ok.p h_a0) cv_X11_153 h_a0 rfl (by decide) rfl (Nat.le_of_ble_eq_true rfl) rfl dX11_answers_48 (fun r48 m48 => (show zG P G _ _ 51 _ _ from ?_))
    refine z_istore0 ok [(4, .int r48), (3, .int r23), (0, .ref a0), (1, .int i1), (2, .int i2)] dX11_answers_51 (by decide) rfl (show zG P G _ _ 53 _ _ from ?_)
    refine z_iload ok 0 dX11_answers_53 rfl (show zG P G _ _ 55 _ _ from ?_)
    refine z_if_ge ok 63 dX11_answers_55 (by decide) ?_ (show zG P G _ _ 58 _ _ from ?_)
    · refine z_aload_n ok 2 dX11_answers_63 rfl (show zG P G _ _ 64 _ _ from ?_)
      refine z_aload_n ok 2 dX11_answers_64 rfl (show zG P G _ _ 65 _ _ from ?_)
      refine z_getR ok fd_200 h_a0 (Or.inl rfl) tf_X11_9 dX11_answers_65 (fun b65 h_b65 => (show zG P G _ _ 68 _ _ from ?_))
      refine z_sipush ok (231 : Int32) dX11_answers_68 (by decide) (show zG P G _ _ 71 _ _ from ?_)
      refine z_bipush ok (58 : Int32) dX11_answers_71 (by decide) (show zG P G _ _ 73 _ _ from ?_)
      refine z_iload_n ok 1 dX11_answers_73 rfl (show zG P G _ _ 74 _ _ from ?_)
      refine z_imul ok dX11_answers_74 (show zG P G _ _ 75 _ _ from ?_)
      refine z_iadd ok dX11_answers_75 (show zG P G _ _ 76 _ _ from ?_)
      refine z_bipush ok (44 : Int32) dX11_answers_76 (by decide) (show zG P G _ _ 78 _ _ from ?_)
      refine z_iadd ok dX11_answers_78 (show zG P G _ _ 79 _ _ from ?_)
      refine z_iconst ok (4 : Int32) dX11_answers_79 (by decide) (show zG P G _ _ 80 _ _ from ?_)
      refine z_iload ok 0 dX11_answers_80 rfl (show zG P G _ _ 82 _ _ from ?_)
      refine z_imul ok dX11_answers_82 (show zG P G _ _ 83 _ _ from ?_)
      refine z_iadd ok dX11_answers_83 (show zG P G _ _ 84 _ _ from ?_)
      refine z_iald ok h_b65 dX11_answers_84 (show zG P G _ _ 85 _ _ from ?_)
      refine z_iload_n ok 1 dX11_answers_85 rfl (show zG P G _ _ 86 _ _ from ?_)
      refine z_iload_n ok 3 dX11_answers_86 rfl (show zG P G _ _ 87 _ _ from ?_)
      refine z_iload_n ok 4 dX11_answers_87 rfl (show zG P G _ _ 88 _ _ from ?_)
      refine z_callVi ok [.int (za m48 b65 ((((231 : Int32) + ((58 : Int32) * r23)) + (44 : Int32)) + ((4 : Int32) * r48)).toNatClampNeg), .int r23, .int i1, .int i2] (m_X11_serves _ ok.p h_a0) cv_X11_156 h_a0 rfl (by decide) rfl (Nat.le_of_ble_eq_true rfl) rfl dX11_answers_88 (fun r88 m88 => (show zG P G _ _ 91 _ _ from ?_))
      exact z_sub [2, 1] [(0, .ref a0), (3, .int r23)] rfl (t_X11_answers_b91 ok h_a0)
    · refine z_bipush ok (-5 : Int32) dX11_answers_58 (by decide) (show zG P G _ _ 60 _ _ from ?_)
      refine z_goto ok 91 dX11_answers_60 (by decide) ?_
      exact z_sub [2, 1] [(0, .ref a0), (3, .int r23)] rfl (t_X11_answers_b91 ok h_a0)
  · refine z_aload_n ok 1 dX11_answers_31 rfl (show zG P G _ _ 32 _ _ from ?_)
    refine z_getR ok fd_200 h_a0 (Or.inl rfl) tf_X11_9 dX11_answers_32 (fun b32 h_b32 => (show zG P G _ _ 35 _ _ from ?_))
    refine z_sipush ok (699 : Int32) dX11_answers_35 (by decide) (show zG P G _ _ 38 _ _ from ?_)
    refine z_dup2 ok dX11_answers_38 rfl rfl (show zG P G _ _ 39 _ _ from ?_)
    refine z_iald ok h_b32 dX11_answers_39 (show zG P G _ _ 40 _ _ from ?_)
    refine z_iconst ok (1 : Int32) dX11_answers_40 (by decide) (show zG P G _ _ 41 _ _ from ?_)
    refine z_iadd ok dX11_answers_41 (show zG P G _ _ 42 _ _ from ?_)
    refine z_iast ok h_b32 dX11_answers_42 (fun m42 => (show zG P G _ _ 43 _ _ from ?_))
    refine z_bipush ok (-4 : Int32) dX11_answers_43 (by decide) (show zG P G _ _ 45 _ _ from ?_)
    exact z_iret ok dX11_answers_45
set_option maxRecDepth 100000 in
set_option maxHeartbeats 4000000 in
theorem t_X11_refuses_b19 {P : zSt} {G : zC} (ok : zOK P G RX11 cX11_refuses 3 3 63 (some .int))   {m : zM}  : zG P G (f_X11_refuses_b19 P  m) m 19 [] [] := by
  unfold f_X11_refuses_b19
  refine z_bipush ok (-2 : Int32) dX11_refuses_19 (by decide) (show zG P G _ _ 21 _ _ from ?_)
  refine z_goto ok 37 dX11_refuses_21 (by decide) ?_
  exact z_iret ok dX11_refuses_37
set_option maxRecDepth 100000 in
set_option maxHeartbeats 4000000 in
theorem m_X11_refuses (l : Launch) {P : zSt} (hP : zOKP P) {a0 : Nat} {i1 : Int32} {i2 : Int32} (h_a0 : zT P 10 a0) : zMet l P yX11_refuses cX11_refuses 3 3 63 (some .int) [.ref a0, .int i1, .int i2] (fun m => f_X11_refuses P a0 i1 i2 m) := by
  refine zMet.of hP (by decide +kernel) RX11 rfl [(0, .ref a0), (1, .int i1), (2, .int i2)] (fun h => h) (Nat.le_of_ble_eq_true rfl) (fun G m ok => ?_)
  show zG P G (f_X11_refuses P a0 i1 i2 m) m 0 _ []
  unfold f_X11_refuses
  refine z_iload_n ok 1 dX11_refuses_0 rfl (show zG P G _ _ 1 _ _ from ?_)
  refine z_iconst ok (0 : Int32) dX11_refuses_1 (by decide) (show zG P G _ _ 2 _ _ from ?_)
  refine z_bipush ok (9 : Int32) dX11_refuses_2 (by decide) (show zG P G _ _ 4 _ _ from ?_)
  refine z_callSi ok [.int i1, .int (0 : Int32), .int (9 : Int32)] (m_X11_isIn _ ok.p) cv_X11_44 rfl (by decide) rfl (Nat.le_of_ble_eq_true rfl) rfl dX11_refuses_4 (fun r4 m4 => (show zG P G _ _ 7 _ _ from ?_))
  refine z_if_eq ok 19 dX11_refuses_7 (by decide) ?_ (show zG P G _ _ 10 _ _ from ?_)
  · exact z_sub [] [] rfl (t_X11_refuses_b19 ok)
  · refine z_iload_n ok 2 dX11_refuses_10 rfl (show zG P G _ _ 11 _ _ from ?_)
    refine z_iconst ok (0 : Int32) dX11_refuses_11 (by decide) (show zG P G _ _ 12 _ _ from ?_)
    refine z_iconst ok (2 : Int32) dX11_refuses_12 (by decide) (show zG P G _ _ 13 _ _ from ?_)
    refine z_callSi ok [.int i2, .int (0 : Int32), .int (2 : Int32)] (m_X11_isIn _ ok.p) cv_X11_44 rfl (by decide) rfl (Nat.le_of_ble_eq_true rfl) rfl dX11_refuses_13 (fun r13 m13 => (show zG P G _ _ 16 _ _ from ?_))
    refine z_if_ne ok 24 dX11_refuses_16 (by decide) ?_ (show zG P G _ _ 19 _ _ from ?_)
    · refine z_aload_n ok 0 dX11_refuses_24 rfl (show zG P G _ _ 25 _ _ from ?_)
      refine z_callVi ok [] (m_X11_isPath _ ok.p h_a0) cv_X11_113 h_a0 rfl (by decide) rfl (Nat.le_of_ble_eq_true rfl) rfl dX11_refuses_25 (fun r25 m25 => (show zG P G _ _ 28 _ _ from ?_))
      refine z_if_ne ok 36 dX11_refuses_28 (by decide) ?_ (show zG P G _ _ 31 _ _ from ?_)
      · refine z_iconst ok (0 : Int32) dX11_refuses_36 (by decide) (show zG P G _ _ 37 _ _ from ?_)
        exact z_iret ok dX11_refuses_37
      · refine z_bipush ok (-7 : Int32) dX11_refuses_31 (by decide) (show zG P G _ _ 33 _ _ from ?_)
        refine z_goto ok 37 dX11_refuses_33 (by decide) ?_
        exact z_iret ok dX11_refuses_37
    · exact z_sub [] [] rfl (t_X11_refuses_b19 ok)
set_option maxRecDepth 100000 in
set_option maxHeartbeats 4000000 in
theorem t_X11_request_b153 {P : zSt} {G : zC} (ok : zOK P G RX11 cX11_request 7 6 157 (some .int))  {a0 : Nat} {x4 : Int32} {m : zM} (h_a0 : zT P 10 a0) : zG P G (f_X11_request_b153 P a0 x4 m) m 153 [(0, .ref a0), (4, .int x4)] [] := by
  unfold f_X11_request_b153
  refine z_aload_n ok 0 dX11_request_153 rfl (show zG P G _ _ 154 _ _ from ?_)
  refine z_iconst ok (0 : Int32) dX11_request_154 (by decide) (show zG P G _ _ 155 _ _ from ?_)
  refine z_put ok fd_207 h_a0 (Or.inl rfl) tf_X11_74 dX11_request_155 (fun m155 => (show zG P G _ _ 158 _ _ from ?_))
  refine z_iload ok 1 dX11_request_158 rfl (show zG P G _ _ 160 _ _ from ?_)
  exact z_iret ok dX11_request_160
set_option maxRecDepth 100000 in
set_option maxHeartbeats 4000000 in
theorem t_X11_request_b106 {P : zSt} {G : zC} (ok : zOK P G RX11 cX11_request 7 6 157 (some .int))  : ∀ (n : Nat) (a0 : Nat) (x4 : Int32) (x6 : Int32) (m : zM) (h_a0 : zT P 10 a0), zG P G (f_X11_request_b106 P n a0 x4 x6 m) m 106 [(0, .ref a0), (4, .int x4), (6, .int x6)] [] := by
  intro n
  induction n with
  | zero =>
    intros
    exact zG_none
  | succ n ih =>
    intro a0 x4 x6 m h_a0
    unfold f_X11_request_b106
    have hr_106 := ih
    refine z_iload ok 2 dX11_request_106 rfl (show zG P G _ _ 108 _ _ from ?_)
    refine z_aload_n ok 0 dX11_request_108 rfl (show zG P G _ _ 109 _ _ from ?_)
    refine z_get ok fd_207 h_a0 (Or.inl rfl) tf_X11_74 dX11_request_109 (show zG P G _ _ 112 _ _ from ?_)
    refine z_icmp_ge ok 143 dX11_request_112 (by decide) ?_ (show zG P G _ _ 115 _ _ from ?_)
    · refine z_aload_n ok 0 dX11_request_143 rfl (show zG P G _ _ 144 _ _ from ?_)
      refine z_dup ok dX11_request_144 rfl (show zG P G _ _ 145 _ _ from ?_)
      refine z_get ok fd_210 h_a0 (Or.inl rfl) tf_X11_52 dX11_request_145 (show zG P G _ _ 148 _ _ from ?_)
      refine z_iconst ok (1 : Int32) dX11_request_148 (by decide) (show zG P G _ _ 149 _ _ from ?_)
      refine z_iadd ok dX11_request_149 (show zG P G _ _ 150 _ _ from ?_)
      refine z_put ok fd_210 h_a0 (Or.inl rfl) tf_X11_52 dX11_request_150 (fun m150 => (show zG P G _ _ 153 _ _ from ?_))
      exact z_sub [0, 1] [(0, .ref a0), (4, .int x4)] rfl (t_X11_request_b153 ok h_a0)
    · refine z_aload_n ok 0 dX11_request_115 rfl (show zG P G _ _ 116 _ _ from ?_)
      refine z_getR ok fd_209 h_a0 (Or.inl rfl) tf_X11_28 dX11_request_116 (fun b116 h_b116 => (show zG P G _ _ 119 _ _ from ?_))
      refine z_bipush ok (40 : Int32) dX11_request_119 (by decide) (show zG P G _ _ 121 _ _ from ?_)
      refine z_aload_n ok 0 dX11_request_121 rfl (show zG P G _ _ 122 _ _ from ?_)
      refine z_get ok fd_210 h_a0 (Or.inl rfl) tf_X11_52 dX11_request_122 (show zG P G _ _ 125 _ _ from ?_)
      refine z_imul ok dX11_request_125 (show zG P G _ _ 126 _ _ from ?_)
      refine z_iload ok 2 dX11_request_126 rfl (show zG P G _ _ 128 _ _ from ?_)
      refine z_iadd ok dX11_request_128 (show zG P G _ _ 129 _ _ from ?_)
      refine z_aload_n ok 0 dX11_request_129 rfl (show zG P G _ _ 130 _ _ from ?_)
      refine z_getR ok fd_206 h_a0 (Or.inl rfl) tf_X11_22 dX11_request_130 (fun b130 h_b130 => (show zG P G _ _ 133 _ _ from ?_))
      refine z_iload ok 2 dX11_request_133 rfl (show zG P G _ _ 135 _ _ from ?_)
      refine z_iald ok h_b130 dX11_request_135 (show zG P G _ _ 136 _ _ from ?_)
      refine z_iast ok h_b116 dX11_request_136 (fun m136 => (show zG P G _ _ 137 _ _ from ?_))
      refine z_iinc ok (fun v137 => [(6, .int v137), (0, .ref a0), (4, .int x4)]) 2 dX11_request_137 rfl (by decide) (by decide) (fun _ => rfl) (fun v137 => (show zG P G _ _ 140 _ _ from ?_))
      refine z_goto ok 106 dX11_request_140 (by decide) ?_
      exact z_sub [1, 2, 0] [(0, .ref a0), (4, .int x4), (6, .int v137)] rfl (hr_106 _ _ _ _ h_a0)
set_option maxRecDepth 100000 in
set_option maxHeartbeats 4000000 in
theorem t_X11_request_b46 {P : zSt} {G : zC} (ok : zOK P G RX11 cX11_request 7 6 157 (some .int))  {a0 : Nat} {x1 : Int32} {x2 : Int32} {x4 : Int32} {m : zM} (h_a0 : zT P 10 a0) : zG P G (f_X11_request_b46 P a0 x1 x2 x4 m) m 46 [(0, .ref a0), (1, .int x1), (2, .int x2), (4, .int x4)] [] := by
  unfold f_X11_request_b46
  refine z_aload_n ok 0 dX11_request_46 rfl (show zG P G _ _ 47 _ _ from ?_)
  refine z_get ok fd_205 h_a0 (Or.inl rfl) tf_X11_48 dX11_request_47 (show zG P G _ _ 50 _ _ from ?_)
  refine z_if_eq ok 153 dX11_request_50 (by decide) ?_ (show zG P G _ _ 53 _ _ from ?_)
  · exact z_sub [0, 3] [(0, .ref a0), (4, .int x4)] rfl (t_X11_request_b153 ok h_a0)
  · refine z_iconst ok (4 : Int32) dX11_request_53 (by decide) (show zG P G _ _ 54 _ _ from ?_)
    refine z_aload_n ok 0 dX11_request_54 rfl (show zG P G _ _ 55 _ _ from ?_)
    refine z_get ok fd_210 h_a0 (Or.inl rfl) tf_X11_52 dX11_request_55 (show zG P G _ _ 58 _ _ from ?_)
    refine z_imul ok dX11_request_58 (show zG P G _ _ 59 _ _ from ?_)
    refine z_istore ok (fun v59 => [(5, .int v59), (0, .ref a0), (1, .int x1), (2, .int x2), (4, .int x4)]) dX11_request_59 (by decide) (fun _ => rfl) (fun v59 => (show zG P G _ _ 61 _ _ from ?_))
    refine z_aload_n ok 1 dX11_request_61 rfl (show zG P G _ _ 62 _ _ from ?_)
    refine z_getR ok fd_208 h_a0 (Or.inl rfl) tf_X11_25 dX11_request_62 (fun b62 h_b62 => (show zG P G _ _ 65 _ _ from ?_))
    refine z_iload ok 0 dX11_request_65 rfl (show zG P G _ _ 67 _ _ from ?_)
    refine z_aload_n ok 1 dX11_request_67 rfl (show zG P G _ _ 68 _ _ from ?_)
    refine z_get ok fd_207 h_a0 (Or.inl rfl) tf_X11_74 dX11_request_68 (show zG P G _ _ 71 _ _ from ?_)
    refine z_iast ok h_b62 dX11_request_71 (fun m71 => (show zG P G _ _ 72 _ _ from ?_))
    refine z_aload_n ok 1 dX11_request_72 rfl (show zG P G _ _ 73 _ _ from ?_)
    refine z_getR ok fd_208 h_a0 (Or.inl rfl) tf_X11_25 dX11_request_73 (fun b73 h_b73 => (show zG P G _ _ 76 _ _ from ?_))
    refine z_iload ok 0 dX11_request_76 rfl (show zG P G _ _ 78 _ _ from ?_)
    refine z_iconst ok (1 : Int32) dX11_request_78 (by decide) (show zG P G _ _ 79 _ _ from ?_)
    refine z_iadd ok dX11_request_79 (show zG P G _ _ 80 _ _ from ?_)
    refine z_iload_n ok 2 dX11_request_80 rfl (show zG P G _ _ 81 _ _ from ?_)
    refine z_iast ok h_b73 dX11_request_81 (fun m81 => (show zG P G _ _ 82 _ _ from ?_))
    refine z_aload_n ok 1 dX11_request_82 rfl (show zG P G _ _ 83 _ _ from ?_)
    refine z_getR ok fd_208 h_a0 (Or.inl rfl) tf_X11_25 dX11_request_83 (fun b83 h_b83 => (show zG P G _ _ 86 _ _ from ?_))
    refine z_iload ok 0 dX11_request_86 rfl (show zG P G _ _ 88 _ _ from ?_)
    refine z_iconst ok (2 : Int32) dX11_request_88 (by decide) (show zG P G _ _ 89 _ _ from ?_)
    refine z_iadd ok dX11_request_89 (show zG P G _ _ 90 _ _ from ?_)
    refine z_iload_n ok 3 dX11_request_90 rfl (show zG P G _ _ 91 _ _ from ?_)
    refine z_iast ok h_b83 dX11_request_91 (fun m91 => (show zG P G _ _ 92 _ _ from ?_))
    refine z_aload_n ok 1 dX11_request_92 rfl (show zG P G _ _ 93 _ _ from ?_)
    refine z_getR ok fd_208 h_a0 (Or.inl rfl) tf_X11_25 dX11_request_93 (fun b93 h_b93 => (show zG P G _ _ 96 _ _ from ?_))
    refine z_iload ok 0 dX11_request_96 rfl (show zG P G _ _ 98 _ _ from ?_)
    refine z_iconst ok (3 : Int32) dX11_request_98 (by decide) (show zG P G _ _ 99 _ _ from ?_)
    refine z_iadd ok dX11_request_99 (show zG P G _ _ 100 _ _ from ?_)
    refine z_iload ok 4 dX11_request_100 rfl (show zG P G _ _ 102 _ _ from ?_)
    refine z_iast ok h_b93 dX11_request_102 (fun m102 => (show zG P G _ _ 103 _ _ from ?_))
    refine z_iconst ok (0 : Int32) dX11_request_103 (by decide) (show zG P G _ _ 104 _ _ from ?_)
    refine z_istore0 ok [(6, .int (0 : Int32)), (5, .int v59), (0, .ref a0), (1, .int x1), (2, .int x2), (4, .int x4)] dX11_request_104 (by decide) rfl (show zG P G _ _ 106 _ _ from ?_)
    exact z_sub [2, 5, 0] [(0, .ref a0), (4, .int x4), (6, .int (0 : Int32))] rfl (t_X11_request_b106 ok zfuel _ _ _ _ h_a0)
set_option maxRecDepth 100000 in
set_option maxHeartbeats 4000000 in
theorem m_X11_request (l : Launch) {P : zSt} (hP : zOKP P) {a0 : Nat} {i1 : Int32} {i2 : Int32} (h_a0 : zT P 10 a0) : zMet l P yX11_request cX11_request 7 6 157 (some .int) [.ref a0, .int i1, .int i2] (fun m => f_X11_request P a0 i1 i2 m) := by
  refine zMet.of hP (by decide +kernel) RX11 rfl [(0, .ref a0), (1, .int i1), (2, .int i2)] (fun h => h) (Nat.le_of_ble_eq_true rfl) (fun G m ok => ?_)
  show zG P G (f_X11_request P a0 i1 i2 m) m 0 _ []
  unfold f_X11_request
  refine z_aload_n ok 0 dX11_request_0 rfl (show zG P G _ _ 1 _ _ from ?_)
  refine z_iload_n ok 1 dX11_request_1 rfl (show zG P G _ _ 2 _ _ from ?_)
  refine z_iload_n ok 2 dX11_request_2 rfl (show zG P G _ _ 3 _ _ from ?_)
  refine z_callVi ok [.int i1, .int i2] (m_X11_refuses _ ok.p h_a0) cv_X11_162 h_a0 rfl (by decide) rfl (Nat.le_of_ble_eq_true rfl) rfl dX11_request_3 (fun r3 m3 => (show zG P G _ _ 6 _ _ from ?_))
  refine z_istore_n0 ok [(3, .int r3), (0, .ref a0), (1, .int i1), (2, .int i2)] dX11_request_6 (by decide) rfl (show zG P G _ _ 7 _ _ from ?_)
  refine z_iload_n ok 0 dX11_request_7 rfl (show zG P G _ _ 8 _ _ from ?_)
  refine z_if_ge ok 18 dX11_request_8 (by decide) ?_ (show zG P G _ _ 11 _ _ from ?_)
  · refine z_aload_n ok 1 dX11_request_18 rfl (show zG P G _ _ 19 _ _ from ?_)
    refine z_iload_n ok 2 dX11_request_19 rfl (show zG P G _ _ 20 _ _ from ?_)
    refine z_iload_n ok 3 dX11_request_20 rfl (show zG P G _ _ 21 _ _ from ?_)
    refine z_callVi ok [.int i1, .int i2] (m_X11_answers _ ok.p h_a0) cv_X11_165 h_a0 rfl (by decide) rfl (Nat.le_of_ble_eq_true rfl) rfl dX11_request_21 (fun r21 m21 => (show zG P G _ _ 24 _ _ from ?_))
    refine z_istore0 ok [(4, .int r21), (3, .int r3), (0, .ref a0), (1, .int i1), (2, .int i2)] dX11_request_24 (by decide) rfl (show zG P G _ _ 26 _ _ from ?_)
    refine z_aload_n ok 2 dX11_request_26 rfl (show zG P G _ _ 27 _ _ from ?_)
    refine z_get ok fd_205 h_a0 (Or.inl rfl) tf_X11_48 dX11_request_27 (show zG P G _ _ 30 _ _ from ?_)
    refine z_if_eq ok 46 dX11_request_30 (by decide) ?_ (show zG P G _ _ 33 _ _ from ?_)
    · exact z_sub [2, 3, 4, 0] [(0, .ref a0), (1, .int i1), (2, .int i2), (4, .int r21)] rfl (t_X11_request_b46 ok h_a0)
    · refine z_aload_n ok 2 dX11_request_33 rfl (show zG P G _ _ 34 _ _ from ?_)
      refine z_get ok fd_210 h_a0 (Or.inl rfl) tf_X11_52 dX11_request_34 (show zG P G _ _ 37 _ _ from ?_)
      refine z_bipush ok (60 : Int32) dX11_request_37 (by decide) (show zG P G _ _ 39 _ _ from ?_)
      refine z_icmp_ne ok 46 dX11_request_39 (by decide) ?_ (show zG P G _ _ 42 _ _ from ?_)
      · exact z_sub [2, 3, 4, 0] [(0, .ref a0), (1, .int i1), (2, .int i2), (4, .int r21)] rfl (t_X11_request_b46 ok h_a0)
      · refine z_aload_n ok 2 dX11_request_42 rfl (show zG P G _ _ 43 _ _ from ?_)
        refine z_callVv ok [] (m_X11_changes _ ok.p h_a0) cv_X11_55 h_a0 rfl (by decide) rfl (Nat.le_of_ble_eq_true rfl) rfl dX11_request_43 (fun _ m43 => (show zG P G _ _ 46 _ _ from ?_))
        exact z_sub [2, 3, 4, 0] [(0, .ref a0), (1, .int i1), (2, .int i2), (4, .int r21)] rfl (t_X11_request_b46 ok h_a0)
  · refine z_aload_n ok 1 dX11_request_11 rfl (show zG P G _ _ 12 _ _ from ?_)
    refine z_iconst ok (0 : Int32) dX11_request_12 (by decide) (show zG P G _ _ 13 _ _ from ?_)
    refine z_put ok fd_207 h_a0 (Or.inl rfl) tf_X11_74 dX11_request_13 (fun m13 => (show zG P G _ _ 16 _ _ from ?_))
    refine z_iload_n ok 0 dX11_request_16 rfl (show zG P G _ _ 17 _ _ from ?_)
    exact z_iret ok dX11_request_17
set_option maxRecDepth 100000 in
set_option maxHeartbeats 4000000 in
theorem m_X11_foresee (l : Launch) {P : zSt} (hP : zOKP P) {a0 : Nat} {i1 : Int32} {i2 : Int32} (h_a0 : zT P 10 a0) : zMet l P yX11_foresee cX11_foresee 5 6 157 (some .int) [.ref a0, .int i1, .int i2] (fun m => f_X11_foresee P a0 i1 i2 m) := by
  refine zMet.of hP (by decide +kernel) RX11 rfl [(0, .ref a0), (1, .int i1), (2, .int i2)] (fun h => h) (Nat.le_of_ble_eq_true rfl) (fun G m ok => ?_)
  show zG P G (f_X11_foresee P a0 i1 i2 m) m 0 _ []
  unfold f_X11_foresee
  refine z_aload_n ok 0 dX11_foresee_0 rfl (show zG P G _ _ 1 _ _ from ?_)
  refine z_iload_n ok 1 dX11_foresee_1 rfl (show zG P G _ _ 2 _ _ from ?_)
  refine z_iload_n ok 2 dX11_foresee_2 rfl (show zG P G _ _ 3 _ _ from ?_)
  refine z_callVi ok [.int i1, .int i2] (m_X11_refuses _ ok.p h_a0) cv_X11_162 h_a0 rfl (by decide) rfl (Nat.le_of_ble_eq_true rfl) rfl dX11_foresee_3 (fun r3 m3 => (show zG P G _ _ 6 _ _ from ?_))
  refine z_istore_n0 ok [(3, .int r3), (0, .ref a0), (1, .int i1), (2, .int i2)] dX11_foresee_6 (by decide) rfl (show zG P G _ _ 7 _ _ from ?_)
  refine z_iload_n ok 0 dX11_foresee_7 rfl (show zG P G _ _ 8 _ _ from ?_)
  refine z_if_ge ok 13 dX11_foresee_8 (by decide) ?_ (show zG P G _ _ 11 _ _ from ?_)
  · refine z_aload_n ok 1 dX11_foresee_13 rfl (show zG P G _ _ 14 _ _ from ?_)
    refine z_getR ok fd_200 h_a0 (Or.inl rfl) tf_X11_9 dX11_foresee_14 (fun b14 h_b14 => (show zG P G _ _ 17 _ _ from ?_))
    refine z_aload_n ok 1 dX11_foresee_17 rfl (show zG P G _ _ 18 _ _ from ?_)
    refine z_getR ok fd_203 h_a0 (Or.inl rfl) tf_X11_19 dX11_foresee_18 (fun b18 h_b18 => (show zG P G _ _ 21 _ _ from ?_))
    refine z_callSv ok [.ref b14, .ref b18] (m_X11_copies _ ok.p h_b14 h_b18) cv_X11_168 rfl (by decide) rfl (Nat.le_of_ble_eq_true rfl) rfl dX11_foresee_21 (fun _ m21 => (show zG P G _ _ 24 _ _ from ?_))
    refine z_aload_n ok 1 dX11_foresee_24 rfl (show zG P G _ _ 25 _ _ from ?_)
    refine z_iload_n ok 2 dX11_foresee_25 rfl (show zG P G _ _ 26 _ _ from ?_)
    refine z_iload_n ok 3 dX11_foresee_26 rfl (show zG P G _ _ 27 _ _ from ?_)
    refine z_callVi ok [.int i1, .int i2] (m_X11_answers _ ok.p h_a0) cv_X11_165 h_a0 rfl (by decide) rfl (Nat.le_of_ble_eq_true rfl) rfl dX11_foresee_27 (fun r27 m27 => (show zG P G _ _ 30 _ _ from ?_))
    refine z_istore0 ok [(4, .int r27), (3, .int r3), (0, .ref a0), (1, .int i1), (2, .int i2)] dX11_foresee_30 (by decide) rfl (show zG P G _ _ 32 _ _ from ?_)
    refine z_aload_n ok 2 dX11_foresee_32 rfl (show zG P G _ _ 33 _ _ from ?_)
    refine z_getR ok fd_203 h_a0 (Or.inl rfl) tf_X11_19 dX11_foresee_33 (fun b33 h_b33 => (show zG P G _ _ 36 _ _ from ?_))
    refine z_aload_n ok 2 dX11_foresee_36 rfl (show zG P G _ _ 37 _ _ from ?_)
    refine z_getR ok fd_200 h_a0 (Or.inl rfl) tf_X11_9 dX11_foresee_37 (fun b37 h_b37 => (show zG P G _ _ 40 _ _ from ?_))
    refine z_callSv ok [.ref b33, .ref b37] (m_X11_copies _ ok.p h_b33 h_b37) cv_X11_168 rfl (by decide) rfl (Nat.le_of_ble_eq_true rfl) rfl dX11_foresee_40 (fun _ m40 => (show zG P G _ _ 43 _ _ from ?_))
    refine z_iload ok 0 dX11_foresee_43 rfl (show zG P G _ _ 45 _ _ from ?_)
    exact z_iret ok dX11_foresee_45
  · refine z_iload_n ok 0 dX11_foresee_11 rfl (show zG P G _ _ 12 _ _ from ?_)
    exact z_iret ok dX11_foresee_12
set_option maxRecDepth 100000 in
set_option maxHeartbeats 4000000 in
theorem t_X11_ticks_b53 {P : zSt} {G : zC} (ok : zOK P G RX11 cX11_ticks 2 1 23 none) (rec_14 : Nat → Int32 → zM → Option (Int32 × zM)) (hr_14 : ∀ (a0 : Nat) (x1 : Int32) (m : zM), zT P 10 a0 → zG P G (rec_14 a0 x1 m) m 14 [(0, .ref a0), (1, .int x1)] []) {a0 : Nat} {x1 : Int32} {s0 : Int32} {s1 : Int32} {s2 : Int32} {t3 : Nat} {m : zM} (h_a0 : zT P 10 a0) (h_t3 : zT P 10 t3) : zG P G (f_X11_ticks_b53 P rec_14 a0 x1 s0 s1 s2 t3 m) m 53 [(0, .ref a0), (1, .int x1)] [.int s0, .int s1, .int s2, .ref t3] := by
  unfold f_X11_ticks_b53
  refine z_callVv ok [.int s2, .int s1, .int s0] (m_X11_sets _ ok.p h_t3) cv_X11_58 h_t3 rfl (by decide) rfl (Nat.le_of_ble_eq_true rfl) rfl dX11_ticks_53 (fun _ m53 => (show zG P G _ _ 56 _ _ from ?_))
  refine z_iinc ok (fun v56 => [(1, .int v56), (0, .ref a0)]) 1 dX11_ticks_56 rfl (by decide) (by decide) (fun _ => rfl) (fun v56 => (show zG P G _ _ 59 _ _ from ?_))
  refine z_goto ok 14 dX11_ticks_59 (by decide) ?_
  exact z_sub [1, 0] [(0, .ref a0), (1, .int v56)] rfl (hr_14 _ _ _ h_a0)
set_option maxRecDepth 100000 in
set_option maxHeartbeats 4000000 in
theorem t_X11_ticks_b14 {P : zSt} {G : zC} (ok : zOK P G RX11 cX11_ticks 2 1 23 none)  : ∀ (n : Nat) (a0 : Nat) (x1 : Int32) (m : zM) (h_a0 : zT P 10 a0), zG P G (f_X11_ticks_b14 P n a0 x1 m) m 14 [(0, .ref a0), (1, .int x1)] [] := by
  intro n
  induction n with
  | zero =>
    intros
    exact zG_none
  | succ n ih =>
    intro a0 x1 m h_a0
    unfold f_X11_ticks_b14
    have hr_14 := ih
    refine z_iload_n ok 1 dX11_ticks_14 rfl (show zG P G _ _ 15 _ _ from ?_)
    refine z_aload_n ok 0 dX11_ticks_15 rfl (show zG P G _ _ 16 _ _ from ?_)
    refine z_getR ok fd_200 h_a0 (Or.inl rfl) tf_X11_9 dX11_ticks_16 (fun b16 h_b16 => (show zG P G _ _ 19 _ _ from ?_))
    refine z_sipush ok (144 : Int32) dX11_ticks_19 (by decide) (show zG P G _ _ 22 _ _ from ?_)
    refine z_iald ok h_b16 dX11_ticks_22 (show zG P G _ _ 23 _ _ from ?_)
    refine z_icmp_ge ok 62 dX11_ticks_23 (by decide) ?_ (show zG P G _ _ 26 _ _ from ?_)
    · exact z_vret ok dX11_ticks_62
    · refine z_aload_n ok 0 dX11_ticks_26 rfl (show zG P G _ _ 27 _ _ from ?_)
      refine z_iload_n ok 1 dX11_ticks_27 rfl (show zG P G _ _ 28 _ _ from ?_)
      refine z_bipush ok (9 : Int32) dX11_ticks_28 (by decide) (show zG P G _ _ 30 _ _ from ?_)
      refine z_aload_n ok 0 dX11_ticks_30 rfl (show zG P G _ _ 31 _ _ from ?_)
      refine z_iload_n ok 1 dX11_ticks_31 rfl (show zG P G _ _ 32 _ _ from ?_)
      refine z_bipush ok (9 : Int32) dX11_ticks_32 (by decide) (show zG P G _ _ 34 _ _ from ?_)
      refine z_callVi ok [.int x1, .int (9 : Int32)] (m_X11_of _ ok.p h_a0) cv_X11_66 h_a0 rfl (by decide) rfl (Nat.le_of_ble_eq_true rfl) rfl dX11_ticks_34 (fun r34 m34 => (show zG P G _ _ 37 _ _ from ?_))
      refine z_if_le ok 52 dX11_ticks_37 (by decide) ?_ (show zG P G _ _ 40 _ _ from ?_)
      · refine z_iconst ok (0 : Int32) dX11_ticks_52 (by decide) (show zG P G _ _ 53 _ _ from ?_)
        exact z_sub [0, 1] [(0, .ref a0), (1, .int x1)] rfl (t_X11_ticks_b53 ok (f_X11_ticks_b14 P n) hr_14 h_a0 h_a0)
      · refine z_aload_n ok 0 dX11_ticks_40 rfl (show zG P G _ _ 41 _ _ from ?_)
        refine z_iload_n ok 1 dX11_ticks_41 rfl (show zG P G _ _ 42 _ _ from ?_)
        refine z_bipush ok (9 : Int32) dX11_ticks_42 (by decide) (show zG P G _ _ 44 _ _ from ?_)
        refine z_callVi ok [.int x1, .int (9 : Int32)] (m_X11_of _ ok.p h_a0) cv_X11_66 h_a0 rfl (by decide) rfl (Nat.le_of_ble_eq_true rfl) rfl dX11_ticks_44 (fun r44 m44 => (show zG P G _ _ 47 _ _ from ?_))
        refine z_iconst ok (1 : Int32) dX11_ticks_47 (by decide) (show zG P G _ _ 48 _ _ from ?_)
        refine z_isub ok dX11_ticks_48 (show zG P G _ _ 49 _ _ from ?_)
        refine z_goto ok 53 dX11_ticks_49 (by decide) ?_
        exact z_sub [0, 1] [(0, .ref a0), (1, .int x1)] rfl (t_X11_ticks_b53 ok (f_X11_ticks_b14 P n) hr_14 h_a0 h_a0)
set_option maxRecDepth 100000 in
set_option maxHeartbeats 4000000 in
theorem m_X11_ticks (l : Launch) {P : zSt} (hP : zOKP P) {a0 : Nat} (h_a0 : zT P 10 a0) : zMet l P yX11_ticks cX11_ticks 2 1 23 none [.ref a0] (fun m => f_X11_ticks P a0 m) := by
  refine zMet.of hP (by decide +kernel) RX11 rfl [(0, .ref a0)] (fun h => h) (Nat.le_of_ble_eq_true rfl) (fun G m ok => ?_)
  show zG P G (f_X11_ticks P a0 m) m 0 _ []
  unfold f_X11_ticks
  refine z_aload_n ok 0 dX11_ticks_0 rfl (show zG P G _ _ 1 _ _ from ?_)
  refine z_getR ok fd_200 h_a0 (Or.inl rfl) tf_X11_9 dX11_ticks_1 (fun b1 h_b1 => (show zG P G _ _ 4 _ _ from ?_))
  refine z_sipush ok (705 : Int32) dX11_ticks_4 (by decide) (show zG P G _ _ 7 _ _ from ?_)
  refine z_dup2 ok dX11_ticks_7 rfl rfl (show zG P G _ _ 8 _ _ from ?_)
  refine z_iald ok h_b1 dX11_ticks_8 (show zG P G _ _ 9 _ _ from ?_)
  refine z_iconst ok (1 : Int32) dX11_ticks_9 (by decide) (show zG P G _ _ 10 _ _ from ?_)
  refine z_iadd ok dX11_ticks_10 (show zG P G _ _ 11 _ _ from ?_)
  refine z_iast ok h_b1 dX11_ticks_11 (fun m11 => (show zG P G _ _ 12 _ _ from ?_))
  refine z_iconst ok (0 : Int32) dX11_ticks_12 (by decide) (show zG P G _ _ 13 _ _ from ?_)
  refine z_istore_n0 ok [(1, .int (0 : Int32)), (0, .ref a0)] dX11_ticks_13 (by decide) rfl (show zG P G _ _ 14 _ _ from ?_)
  exact z_sub [1, 0] [(0, .ref a0), (1, .int (0 : Int32))] rfl (t_X11_ticks_b14 ok zfuel _ _ _ h_a0)
set_option maxRecDepth 100000 in
set_option maxHeartbeats 4000000 in
theorem t_X11_tick_b78 {P : zSt} {G : zC} (ok : zOK P G RX11 cX11_tick 3 2 44 (some .int)) (rec_37 : Nat → Int32 → Int32 → zM → Option (Int32 × zM)) (hr_37 : ∀ (a0 : Nat) (x1 : Int32) (x2 : Int32) (m : zM), zT P 10 a0 → zG P G (rec_37 a0 x1 x2 m) m 37 [(0, .ref a0), (1, .int x1), (2, .int x2)] []) {a0 : Nat} {x1 : Int32} {x2 : Int32} {m : zM} (h_a0 : zT P 10 a0) : zG P G (f_X11_tick_b78 P rec_37 a0 x1 x2 m) m 78 [(0, .ref a0), (1, .int x1), (2, .int x2)] [] := by
  unfold f_X11_tick_b78
  refine z_iinc ok (fun v78 => [(2, .int v78), (0, .ref a0), (1, .int x1)]) 2 dX11_tick_78 rfl (by decide) (by decide) (fun _ => rfl) (fun v78 => (show zG P G _ _ 81 _ _ from ?_))
  refine z_goto ok 37 dX11_tick_81 (by decide) ?_
  exact z_sub [1, 2, 0] [(0, .ref a0), (1, .int x1), (2, .int v78)] rfl (hr_37 _ _ _ _ h_a0)
set_option maxRecDepth 100000 in
set_option maxHeartbeats 4000000 in
theorem t_X11_tick_b37 {P : zSt} {G : zC} (ok : zOK P G RX11 cX11_tick 3 2 44 (some .int))  : ∀ (n : Nat) (a0 : Nat) (x1 : Int32) (x2 : Int32) (m : zM) (h_a0 : zT P 10 a0), zG P G (f_X11_tick_b37 P n a0 x1 x2 m) m 37 [(0, .ref a0), (1, .int x1), (2, .int x2)] [] := by
  intro n
  induction n with
  | zero =>
    intros
    exact zG_none
  | succ n ih =>
    intro a0 x1 x2 m h_a0
    unfold f_X11_tick_b37
    have hr_37 := ih
    refine z_iload_n ok 2 dX11_tick_37 rfl (show zG P G _ _ 38 _ _ from ?_)
    refine z_iload_n ok 1 dX11_tick_38 rfl (show zG P G _ _ 39 _ _ from ?_)
    refine z_icmp_ge ok 84 dX11_tick_39 (by decide) ?_ (show zG P G _ _ 42 _ _ from ?_)
    · refine z_aload_n ok 0 dX11_tick_84 rfl (show zG P G _ _ 85 _ _ from ?_)
      refine z_getR ok fd_200 h_a0 (Or.inl rfl) tf_X11_9 dX11_tick_85 (fun b85 h_b85 => (show zG P G _ _ 88 _ _ from ?_))
      refine z_sipush ok (705 : Int32) dX11_tick_88 (by decide) (show zG P G _ _ 91 _ _ from ?_)
      refine z_iald ok h_b85 dX11_tick_91 (show zG P G _ _ 92 _ _ from ?_)
      exact z_iret ok dX11_tick_92
    · refine z_aload_n ok 0 dX11_tick_42 rfl (show zG P G _ _ 43 _ _ from ?_)
      refine z_callVv ok [] (m_X11_ticks _ ok.p h_a0) cv_X11_172 h_a0 rfl (by decide) rfl (Nat.le_of_ble_eq_true rfl) rfl dX11_tick_43 (fun _ m43 => (show zG P G _ _ 46 _ _ from ?_))
      refine z_aload_n ok 0 dX11_tick_46 rfl (show zG P G _ _ 47 _ _ from ?_)
      refine z_get ok fd_205 h_a0 (Or.inl rfl) tf_X11_48 dX11_tick_47 (show zG P G _ _ 50 _ _ from ?_)
      refine z_if_ne ok 56 dX11_tick_50 (by decide) ?_ (show zG P G _ _ 53 _ _ from ?_)
      · refine z_aload_n ok 0 dX11_tick_56 rfl (show zG P G _ _ 57 _ _ from ?_)
        refine z_getR ok fd_208 h_a0 (Or.inl rfl) tf_X11_25 dX11_tick_57 (fun b57 h_b57 => (show zG P G _ _ 60 _ _ from ?_))
        refine z_iconst ok (4 : Int32) dX11_tick_60 (by decide) (show zG P G _ _ 61 _ _ from ?_)
        refine z_aload_n ok 0 dX11_tick_61 rfl (show zG P G _ _ 62 _ _ from ?_)
        refine z_get ok fd_210 h_a0 (Or.inl rfl) tf_X11_52 dX11_tick_62 (show zG P G _ _ 65 _ _ from ?_)
        refine z_imul ok dX11_tick_65 (show zG P G _ _ 66 _ _ from ?_)
        refine z_iconst ok (-1 : Int32) dX11_tick_66 (by decide) (show zG P G _ _ 67 _ _ from ?_)
        refine z_iast ok h_b57 dX11_tick_67 (fun m67 => (show zG P G _ _ 68 _ _ from ?_))
        refine z_aload_n ok 0 dX11_tick_68 rfl (show zG P G _ _ 69 _ _ from ?_)
        refine z_dup ok dX11_tick_69 rfl (show zG P G _ _ 70 _ _ from ?_)
        refine z_get ok fd_210 h_a0 (Or.inl rfl) tf_X11_52 dX11_tick_70 (show zG P G _ _ 73 _ _ from ?_)
        refine z_iconst ok (1 : Int32) dX11_tick_73 (by decide) (show zG P G _ _ 74 _ _ from ?_)
        refine z_iadd ok dX11_tick_74 (show zG P G _ _ 75 _ _ from ?_)
        refine z_put ok fd_210 h_a0 (Or.inl rfl) tf_X11_52 dX11_tick_75 (fun m75 => (show zG P G _ _ 78 _ _ from ?_))
        exact z_sub [0, 1, 2] [(0, .ref a0), (1, .int x1), (2, .int x2)] rfl (t_X11_tick_b78 ok (f_X11_tick_b37 P n) hr_37 h_a0)
      · refine z_goto ok 78 dX11_tick_53 (by decide) ?_
        exact z_sub [0, 1, 2] [(0, .ref a0), (1, .int x1), (2, .int x2)] rfl (t_X11_tick_b78 ok (f_X11_tick_b37 P n) hr_37 h_a0)
set_option maxRecDepth 100000 in
set_option maxHeartbeats 4000000 in
theorem t_X11_tick_b35 {P : zSt} {G : zC} (ok : zOK P G RX11 cX11_tick 3 2 44 (some .int))  {a0 : Nat} {x1 : Int32} {m : zM} (h_a0 : zT P 10 a0) : zG P G (f_X11_tick_b35 P a0 x1 m) m 35 [(0, .ref a0), (1, .int x1)] [] := by
  unfold f_X11_tick_b35
  refine z_iconst ok (0 : Int32) dX11_tick_35 (by decide) (show zG P G _ _ 36 _ _ from ?_)
  refine z_istore_n0 ok [(2, .int (0 : Int32)), (0, .ref a0), (1, .int x1)] dX11_tick_36 (by decide) rfl (show zG P G _ _ 37 _ _ from ?_)
  exact z_sub [1, 2, 0] [(0, .ref a0), (1, .int x1), (2, .int (0 : Int32))] rfl (t_X11_tick_b37 ok zfuel _ _ _ _ h_a0)
set_option maxRecDepth 100000 in
set_option maxHeartbeats 4000000 in
theorem m_X11_tick (l : Launch) {P : zSt} (hP : zOKP P) {a0 : Nat} {i1 : Int32} (h_a0 : zT P 10 a0) : zMet l P yX11_tick cX11_tick 3 2 44 (some .int) [.ref a0, .int i1] (fun m => f_X11_tick P a0 i1 m) := by
  refine zMet.of hP (by decide +kernel) RX11 rfl [(0, .ref a0), (1, .int i1)] (fun h => h) (Nat.le_of_ble_eq_true rfl) (fun G m ok => ?_)
  show zG P G (f_X11_tick P a0 i1 m) m 0 _ []
  unfold f_X11_tick
  refine z_iload_n ok 1 dX11_tick_0 rfl (show zG P G _ _ 1 _ _ from ?_)
  refine z_iconst ok (1 : Int32) dX11_tick_1 (by decide) (show zG P G _ _ 2 _ _ from ?_)
  refine z_bipush ok (50 : Int32) dX11_tick_2 (by decide) (show zG P G _ _ 4 _ _ from ?_)
  refine z_callSi ok [.int i1, .int (1 : Int32), .int (50 : Int32)] (m_X11_isIn _ ok.p) cv_X11_44 rfl (by decide) rfl (Nat.le_of_ble_eq_true rfl) rfl dX11_tick_4 (fun r4 m4 => (show zG P G _ _ 7 _ _ from ?_))
  refine z_if_ne ok 13 dX11_tick_7 (by decide) ?_ (show zG P G _ _ 10 _ _ from ?_)
  · refine z_aload_n ok 0 dX11_tick_13 rfl (show zG P G _ _ 14 _ _ from ?_)
    refine z_get ok fd_205 h_a0 (Or.inl rfl) tf_X11_48 dX11_tick_14 (show zG P G _ _ 17 _ _ from ?_)
    refine z_if_eq ok 35 dX11_tick_17 (by decide) ?_ (show zG P G _ _ 20 _ _ from ?_)
    · exact z_sub [0, 1] [(0, .ref a0), (1, .int i1)] rfl (t_X11_tick_b35 ok h_a0)
    · refine z_aload_n ok 0 dX11_tick_20 rfl (show zG P G _ _ 21 _ _ from ?_)
      refine z_get ok fd_210 h_a0 (Or.inl rfl) tf_X11_52 dX11_tick_21 (show zG P G _ _ 24 _ _ from ?_)
      refine z_iload_n ok 1 dX11_tick_24 rfl (show zG P G _ _ 25 _ _ from ?_)
      refine z_iadd ok dX11_tick_25 (show zG P G _ _ 26 _ _ from ?_)
      refine z_bipush ok (60 : Int32) dX11_tick_26 (by decide) (show zG P G _ _ 28 _ _ from ?_)
      refine z_icmp_le ok 35 dX11_tick_28 (by decide) ?_ (show zG P G _ _ 31 _ _ from ?_)
      · exact z_sub [0, 1] [(0, .ref a0), (1, .int i1)] rfl (t_X11_tick_b35 ok h_a0)
      · refine z_aload_n ok 0 dX11_tick_31 rfl (show zG P G _ _ 32 _ _ from ?_)
        refine z_callVv ok [] (m_X11_changes _ ok.p h_a0) cv_X11_55 h_a0 rfl (by decide) rfl (Nat.le_of_ble_eq_true rfl) rfl dX11_tick_32 (fun _ m32 => (show zG P G _ _ 35 _ _ from ?_))
        exact z_sub [0, 1] [(0, .ref a0), (1, .int i1)] rfl (t_X11_tick_b35 ok h_a0)
  · refine z_bipush ok (-2 : Int32) dX11_tick_10 (by decide) (show zG P G _ _ 12 _ _ from ?_)
    exact z_iret ok dX11_tick_12
set_option maxRecDepth 100000 in
set_option maxHeartbeats 4000000 in
theorem m_X11_backend (l : Launch) {P : zSt} (hP : zOKP P) {a0 : Nat} {i1 : Int32} {i2 : Int32} (h_a0 : zT P 10 a0) : zMet l P yX11_backend cX11_backend 3 2 43 (some .int) [.ref a0, .int i1, .int i2] (fun m => f_X11_backend P a0 i1 i2 m) := by
  refine zMet.of hP (by decide +kernel) RX11 rfl [(0, .ref a0), (1, .int i1), (2, .int i2)] (fun h => h) (Nat.le_of_ble_eq_true rfl) (fun G m ok => ?_)
  show zG P G (f_X11_backend P a0 i1 i2 m) m 0 _ []
  unfold f_X11_backend
  refine z_aload_n ok 0 dX11_backend_0 rfl (show zG P G _ _ 1 _ _ from ?_)
  refine z_iload_n ok 1 dX11_backend_1 rfl (show zG P G _ _ 2 _ _ from ?_)
  refine z_callVi ok [.int i1] (m_X11_isBackend _ ok.p h_a0) cv_X11_62 h_a0 rfl (by decide) rfl (Nat.le_of_ble_eq_true rfl) rfl dX11_backend_2 (fun r2 m2 => (show zG P G _ _ 5 _ _ from ?_))
  refine z_if_ne ok 12 dX11_backend_5 (by decide) ?_ (show zG P G _ _ 8 _ _ from ?_)
  · refine z_iload_n ok 2 dX11_backend_12 rfl (show zG P G _ _ 13 _ _ from ?_)
    refine z_iconst ok (0 : Int32) dX11_backend_13 (by decide) (show zG P G _ _ 14 _ _ from ?_)
    refine z_bipush ok (11 : Int32) dX11_backend_14 (by decide) (show zG P G _ _ 16 _ _ from ?_)
    refine z_callSi ok [.int i2, .int (0 : Int32), .int (11 : Int32)] (m_X11_isIn _ ok.p) cv_X11_44 rfl (by decide) rfl (Nat.le_of_ble_eq_true rfl) rfl dX11_backend_16 (fun r16 m16 => (show zG P G _ _ 19 _ _ from ?_))
    refine z_if_ne ok 27 dX11_backend_19 (by decide) ?_ (show zG P G _ _ 22 _ _ from ?_)
    · refine z_aload_n ok 0 dX11_backend_27 rfl (show zG P G _ _ 28 _ _ from ?_)
      refine z_iload_n ok 1 dX11_backend_28 rfl (show zG P G _ _ 29 _ _ from ?_)
      refine z_iload_n ok 2 dX11_backend_29 rfl (show zG P G _ _ 30 _ _ from ?_)
      refine z_callVi ok [.int i1, .int i2] (m_X11_of _ ok.p h_a0) cv_X11_66 h_a0 rfl (by decide) rfl (Nat.le_of_ble_eq_true rfl) rfl dX11_backend_30 (fun r30 m30 => (show zG P G _ _ 33 _ _ from ?_))
      exact z_iret ok dX11_backend_33
    · refine z_bipush ok (-2 : Int32) dX11_backend_22 (by decide) (show zG P G _ _ 24 _ _ from ?_)
      refine z_goto ok 33 dX11_backend_24 (by decide) ?_
      exact z_iret ok dX11_backend_33
  · refine z_iconst ok (-1 : Int32) dX11_backend_8 (by decide) (show zG P G _ _ 9 _ _ from ?_)
    refine z_goto ok 33 dX11_backend_9 (by decide) ?_
    exact z_iret ok dX11_backend_33
set_option maxRecDepth 100000 in
set_option maxHeartbeats 4000000 in
theorem t_X11_members_b49 {P : zSt} {G : zC} (ok : zOK P G RX11 cX11_members 5 2 44 (some .int)) (rec_5 : Nat → Int32 → Int32 → Int32 → Int32 → zM → Option (Int32 × zM)) (hr_5 : ∀ (a0 : Nat) (x1 : Int32) (x2 : Int32) (x3 : Int32) (x4 : Int32) (m : zM), zT P 10 a0 → zG P G (rec_5 a0 x1 x2 x3 x4 m) m 5 [(0, .ref a0), (1, .int x1), (2, .int x2), (3, .int x3), (4, .int x4)] []) {a0 : Nat} {x1 : Int32} {x2 : Int32} {x4 : Int32} {s0 : Int32} {s1 : Int32} {m : zM} (h_a0 : zT P 10 a0) : zG P G (f_X11_members_b49 P rec_5 a0 x1 x2 x4 s0 s1 m) m 49 [(0, .ref a0), (1, .int x1), (2, .int x2), (4, .int x4)] [.int s0, .int s1] := by
  unfold f_X11_members_b49
  refine z_iadd ok dX11_members_49 (show zG P G _ _ 50 _ _ from ?_)
  refine z_istore_n ok (fun v50 => [(3, .int v50), (0, .ref a0), (1, .int x1), (2, .int x2), (4, .int x4)]) dX11_members_50 (by decide) (fun _ => rfl) (fun v50 => (show zG P G _ _ 51 _ _ from ?_))
  refine z_iinc ok (fun v51 => [(4, .int v51), (3, .int v50), (0, .ref a0), (1, .int x1), (2, .int x2)]) 4 dX11_members_51 rfl (by decide) (by decide) (fun _ => rfl) (fun v51 => (show zG P G _ _ 54 _ _ from ?_))
  refine z_goto ok 5 dX11_members_54 (by decide) ?_
  exact z_sub [2, 3, 4, 1, 0] [(0, .ref a0), (1, .int x1), (2, .int x2), (3, .int v50), (4, .int v51)] rfl (hr_5 _ _ _ _ _ _ h_a0)
set_option maxRecDepth 100000 in
set_option maxHeartbeats 4000000 in
theorem t_X11_members_b44 {P : zSt} {G : zC} (ok : zOK P G RX11 cX11_members 5 2 44 (some .int)) (rec_5 : Nat → Int32 → Int32 → Int32 → Int32 → zM → Option (Int32 × zM)) (hr_5 : ∀ (a0 : Nat) (x1 : Int32) (x2 : Int32) (x3 : Int32) (x4 : Int32) (m : zM), zT P 10 a0 → zG P G (rec_5 a0 x1 x2 x3 x4 m) m 5 [(0, .ref a0), (1, .int x1), (2, .int x2), (3, .int x3), (4, .int x4)] []) {a0 : Nat} {x1 : Int32} {x2 : Int32} {x4 : Int32} {s0 : Int32} {m : zM} (h_a0 : zT P 10 a0) : zG P G (f_X11_members_b44 P rec_5 a0 x1 x2 x4 s0 m) m 44 [(0, .ref a0), (1, .int x1), (2, .int x2), (4, .int x4)] [.int s0] := by
  unfold f_X11_members_b44
  refine z_iconst ok (1 : Int32) dX11_members_44 (by decide) (show zG P G _ _ 45 _ _ from ?_)
  refine z_goto ok 49 dX11_members_45 (by decide) ?_
  exact z_sub [0, 1, 2, 3] [(0, .ref a0), (1, .int x1), (2, .int x2), (4, .int x4)] rfl (t_X11_members_b49 ok rec_5 hr_5 h_a0)
set_option maxRecDepth 100000 in
set_option maxHeartbeats 4000000 in
theorem t_X11_members_b48 {P : zSt} {G : zC} (ok : zOK P G RX11 cX11_members 5 2 44 (some .int)) (rec_5 : Nat → Int32 → Int32 → Int32 → Int32 → zM → Option (Int32 × zM)) (hr_5 : ∀ (a0 : Nat) (x1 : Int32) (x2 : Int32) (x3 : Int32) (x4 : Int32) (m : zM), zT P 10 a0 → zG P G (rec_5 a0 x1 x2 x3 x4 m) m 5 [(0, .ref a0), (1, .int x1), (2, .int x2), (3, .int x3), (4, .int x4)] []) {a0 : Nat} {x1 : Int32} {x2 : Int32} {x4 : Int32} {s0 : Int32} {m : zM} (h_a0 : zT P 10 a0) : zG P G (f_X11_members_b48 P rec_5 a0 x1 x2 x4 s0 m) m 48 [(0, .ref a0), (1, .int x1), (2, .int x2), (4, .int x4)] [.int s0] := by
  unfold f_X11_members_b48
  refine z_iconst ok (0 : Int32) dX11_members_48 (by decide) (show zG P G _ _ 49 _ _ from ?_)
  exact z_sub [0, 1, 2, 3] [(0, .ref a0), (1, .int x1), (2, .int x2), (4, .int x4)] rfl (t_X11_members_b49 ok rec_5 hr_5 h_a0)
set_option maxRecDepth 100000 in
set_option maxHeartbeats 4000000 in
theorem t_X11_members_b5 {P : zSt} {G : zC} (ok : zOK P G RX11 cX11_members 5 2 44 (some .int))  : ∀ (n : Nat) (a0 : Nat) (x1 : Int32) (x2 : Int32) (x3 : Int32) (x4 : Int32) (m : zM) (h_a0 : zT P 10 a0), zG P G (f_X11_members_b5 P n a0 x1 x2 x3 x4 m) m 5 [(0, .ref a0), (1, .int x1), (2, .int x2), (3, .int x3), (4, .int x4)] [] := by
  intro n
  induction n with
  | zero =>
    intros
    exact zG_none
  | succ n ih =>
    intro a0 x1 x2 x3 x4 m h_a0
    unfold f_X11_members_b5
    have hr_5 := ih
    refine z_iload ok 4 dX11_members_5 rfl (show zG P G _ _ 7 _ _ from ?_)
    refine z_aload_n ok 0 dX11_members_7 rfl (show zG P G _ _ 8 _ _ from ?_)
    refine z_getR ok fd_200 h_a0 (Or.inl rfl) tf_X11_9 dX11_members_8 (fun b8 h_b8 => (show zG P G _ _ 11 _ _ from ?_))
    refine z_sipush ok (144 : Int32) dX11_members_11 (by decide) (show zG P G _ _ 14 _ _ from ?_)
    refine z_iald ok h_b8 dX11_members_14 (show zG P G _ _ 15 _ _ from ?_)
    refine z_icmp_ge ok 57 dX11_members_15 (by decide) ?_ (show zG P G _ _ 18 _ _ from ?_)
    · refine z_iload_n ok 3 dX11_members_57 rfl (show zG P G _ _ 58 _ _ from ?_)
      exact z_iret ok dX11_members_58
    · refine z_iload_n ok 3 dX11_members_18 rfl (show zG P G _ _ 19 _ _ from ?_)
      refine z_aload_n ok 0 dX11_members_19 rfl (show zG P G _ _ 20 _ _ from ?_)
      refine z_iload ok 4 dX11_members_20 rfl (show zG P G _ _ 22 _ _ from ?_)
      refine z_iload_n ok 1 dX11_members_22 rfl (show zG P G _ _ 23 _ _ from ?_)
      refine z_callVi ok [.int x4, .int x1] (m_X11_isMember _ ok.p h_a0) cv_X11_121 h_a0 rfl (by decide) rfl (Nat.le_of_ble_eq_true rfl) rfl dX11_members_23 (fun r23 m23 => (show zG P G _ _ 26 _ _ from ?_))
      refine z_if_eq ok 48 dX11_members_26 (by decide) ?_ (show zG P G _ _ 29 _ _ from ?_)
      · exact z_sub [0, 1, 2, 4] [(0, .ref a0), (1, .int x1), (2, .int x2), (4, .int x4)] rfl (t_X11_members_b48 ok (f_X11_members_b5 P n) hr_5 h_a0)
      · refine z_iload_n ok 2 dX11_members_29 rfl (show zG P G _ _ 30 _ _ from ?_)
        refine z_if_eq ok 44 dX11_members_30 (by decide) ?_ (show zG P G _ _ 33 _ _ from ?_)
        · exact z_sub [0, 1, 2, 4] [(0, .ref a0), (1, .int x1), (2, .int x2), (4, .int x4)] rfl (t_X11_members_b44 ok (f_X11_members_b5 P n) hr_5 h_a0)
        · refine z_aload_n ok 0 dX11_members_33 rfl (show zG P G _ _ 34 _ _ from ?_)
          refine z_iload ok 4 dX11_members_34 rfl (show zG P G _ _ 36 _ _ from ?_)
          refine z_bipush ok (9 : Int32) dX11_members_36 (by decide) (show zG P G _ _ 38 _ _ from ?_)
          refine z_callVi ok [.int x4, .int (9 : Int32)] (m_X11_of _ ok.p h_a0) cv_X11_66 h_a0 rfl (by decide) rfl (Nat.le_of_ble_eq_true rfl) rfl dX11_members_38 (fun r38 m38 => (show zG P G _ _ 41 _ _ from ?_))
          refine z_if_le ok 48 dX11_members_41 (by decide) ?_ (show zG P G _ _ 44 _ _ from ?_)
          · exact z_sub [0, 1, 2, 4] [(0, .ref a0), (1, .int x1), (2, .int x2), (4, .int x4)] rfl (t_X11_members_b48 ok (f_X11_members_b5 P n) hr_5 h_a0)
          · exact z_sub [0, 1, 2, 4] [(0, .ref a0), (1, .int x1), (2, .int x2), (4, .int x4)] rfl (t_X11_members_b44 ok (f_X11_members_b5 P n) hr_5 h_a0)
set_option maxRecDepth 100000 in
set_option maxHeartbeats 4000000 in
theorem m_X11_members (l : Launch) {P : zSt} (hP : zOKP P) {a0 : Nat} {i1 : Int32} {i2 : Int32} (h_a0 : zT P 10 a0) : zMet l P yX11_members cX11_members 5 2 44 (some .int) [.ref a0, .int i1, .int i2] (fun m => f_X11_members P a0 i1 i2 m) := by
  refine zMet.of hP (by decide +kernel) RX11 rfl [(0, .ref a0), (1, .int i1), (2, .int i2)] (fun h => h) (Nat.le_of_ble_eq_true rfl) (fun G m ok => ?_)
  show zG P G (f_X11_members P a0 i1 i2 m) m 0 _ []
  unfold f_X11_members
  refine z_iconst ok (0 : Int32) dX11_members_0 (by decide) (show zG P G _ _ 1 _ _ from ?_)
  refine z_istore_n0 ok [(3, .int (0 : Int32)), (0, .ref a0), (1, .int i1), (2, .int i2)] dX11_members_1 (by decide) rfl (show zG P G _ _ 2 _ _ from ?_)
  refine z_iconst ok (0 : Int32) dX11_members_2 (by decide) (show zG P G _ _ 3 _ _ from ?_)
  refine z_istore0 ok [(4, .int (0 : Int32)), (3, .int (0 : Int32)), (0, .ref a0), (1, .int i1), (2, .int i2)] dX11_members_3 (by decide) rfl (show zG P G _ _ 5 _ _ from ?_)
  exact z_sub [2, 3, 4, 1, 0] [(0, .ref a0), (1, .int i1), (2, .int i2), (3, .int (0 : Int32)), (4, .int (0 : Int32))] rfl (t_X11_members_b5 ok zfuel _ _ _ _ _ _ h_a0)
set_option maxRecDepth 100000 in
set_option maxHeartbeats 4000000 in
theorem t_X11_service_b19 {P : zSt} {G : zC} (ok : zOK P G RX11 cX11_service 4 3 68 (some .int))   {m : zM}  : zG P G (f_X11_service_b19 P  m) m 19 [] [] := by
  unfold f_X11_service_b19
  refine z_bipush ok (-2 : Int32) dX11_service_19 (by decide) (show zG P G _ _ 21 _ _ from ?_)
  exact z_iret ok dX11_service_21
set_option maxRecDepth 100000 in
set_option maxHeartbeats 4000000 in
theorem t_X11_service_b67 {P : zSt} {G : zC} (ok : zOK P G RX11 cX11_service 4 3 68 (some .int))  {s0 : Int32} {s1 : Int32} {t2 : Nat} {m : zM} (h_t2 : zT P 10 t2) : zG P G (f_X11_service_b67 P s0 s1 t2 m) m 67 [] [.int s0, .int s1, .ref t2] := by
  unfold f_X11_service_b67
  refine z_callVi ok [.int s1, .int s0] (m_X11_members _ ok.p h_t2) cv_X11_175 h_t2 rfl (by decide) rfl (Nat.le_of_ble_eq_true rfl) rfl dX11_service_67 (fun r67 m67 => (show zG P G _ _ 70 _ _ from ?_))
  refine z_goto ok 83 dX11_service_70 (by decide) ?_
  exact z_iret ok dX11_service_83
set_option maxRecDepth 100000 in
set_option maxHeartbeats 4000000 in
theorem m_X11_service (l : Launch) {P : zSt} (hP : zOKP P) {a0 : Nat} {i1 : Int32} {i2 : Int32} (h_a0 : zT P 10 a0) : zMet l P yX11_service cX11_service 4 3 68 (some .int) [.ref a0, .int i1, .int i2] (fun m => f_X11_service P a0 i1 i2 m) := by
  refine zMet.of hP (by decide +kernel) RX11 rfl [(0, .ref a0), (1, .int i1), (2, .int i2)] (fun h => h) (Nat.le_of_ble_eq_true rfl) (fun G m ok => ?_)
  show zG P G (f_X11_service P a0 i1 i2 m) m 0 _ []
  unfold f_X11_service
  refine z_iload_n ok 1 dX11_service_0 rfl (show zG P G _ _ 1 _ _ from ?_)
  refine z_iconst ok (0 : Int32) dX11_service_1 (by decide) (show zG P G _ _ 2 _ _ from ?_)
  refine z_iconst ok (3 : Int32) dX11_service_2 (by decide) (show zG P G _ _ 3 _ _ from ?_)
  refine z_callSi ok [.int i1, .int (0 : Int32), .int (3 : Int32)] (m_X11_isIn _ ok.p) cv_X11_44 rfl (by decide) rfl (Nat.le_of_ble_eq_true rfl) rfl dX11_service_3 (fun r3 m3 => (show zG P G _ _ 6 _ _ from ?_))
  refine z_if_eq ok 19 dX11_service_6 (by decide) ?_ (show zG P G _ _ 9 _ _ from ?_)
  · exact z_sub [] [] rfl (t_X11_service_b19 ok)
  · refine z_iload_n ok 2 dX11_service_9 rfl (show zG P G _ _ 10 _ _ from ?_)
    refine z_iconst ok (0 : Int32) dX11_service_10 (by decide) (show zG P G _ _ 11 _ _ from ?_)
    refine z_bipush ok (12 : Int32) dX11_service_11 (by decide) (show zG P G _ _ 13 _ _ from ?_)
    refine z_callSi ok [.int i2, .int (0 : Int32), .int (12 : Int32)] (m_X11_isIn _ ok.p) cv_X11_44 rfl (by decide) rfl (Nat.le_of_ble_eq_true rfl) rfl dX11_service_13 (fun r13 m13 => (show zG P G _ _ 16 _ _ from ?_))
    refine z_if_ne ok 22 dX11_service_16 (by decide) ?_ (show zG P G _ _ 19 _ _ from ?_)
    · refine z_sipush ok (145 : Int32) dX11_service_22 (by decide) (show zG P G _ _ 25 _ _ from ?_)
      refine z_bipush ok (21 : Int32) dX11_service_25 (by decide) (show zG P G _ _ 27 _ _ from ?_)
      refine z_iload_n ok 1 dX11_service_27 rfl (show zG P G _ _ 28 _ _ from ?_)
      refine z_imul ok dX11_service_28 (show zG P G _ _ 29 _ _ from ?_)
      refine z_iadd ok dX11_service_29 (show zG P G _ _ 30 _ _ from ?_)
      refine z_istore_n ok (fun v30 => [(3, .int v30), (0, .ref a0), (1, .int i1), (2, .int i2)]) dX11_service_30 (by decide) (fun _ => rfl) (fun v30 => (show zG P G _ _ 31 _ _ from ?_))
      refine z_iload_n ok 3 dX11_service_31 rfl (show zG P G _ _ 32 _ _ from ?_)
      refine z_bipush ok (6 : Int32) dX11_service_32 (by decide) (show zG P G _ _ 34 _ _ from ?_)
      refine z_icmp_ge ok 48 dX11_service_34 (by decide) ?_ (show zG P G _ _ 37 _ _ from ?_)
      · refine z_iload_n ok 3 dX11_service_48 rfl (show zG P G _ _ 49 _ _ from ?_)
        refine z_bipush ok (8 : Int32) dX11_service_49 (by decide) (show zG P G _ _ 51 _ _ from ?_)
        refine z_icmp_ge ok 73 dX11_service_51 (by decide) ?_ (show zG P G _ _ 54 _ _ from ?_)
        · refine z_aload_n ok 1 dX11_service_73 rfl (show zG P G _ _ 74 _ _ from ?_)
          refine z_getR ok fd_200 h_a0 (Or.inl rfl) tf_X11_9 dX11_service_74 (fun b74 h_b74 => (show zG P G _ _ 77 _ _ from ?_))
          refine z_iload_n ok 0 dX11_service_77 rfl (show zG P G _ _ 78 _ _ from ?_)
          refine z_iload_n ok 3 dX11_service_78 rfl (show zG P G _ _ 79 _ _ from ?_)
          refine z_iadd ok dX11_service_79 (show zG P G _ _ 80 _ _ from ?_)
          refine z_iconst ok (2 : Int32) dX11_service_80 (by decide) (show zG P G _ _ 81 _ _ from ?_)
          refine z_isub ok dX11_service_81 (show zG P G _ _ 82 _ _ from ?_)
          refine z_iald ok h_b74 dX11_service_82 (show zG P G _ _ 83 _ _ from ?_)
          exact z_iret ok dX11_service_83
        · refine z_aload_n ok 1 dX11_service_54 rfl (show zG P G _ _ 55 _ _ from ?_)
          refine z_iload_n ok 2 dX11_service_55 rfl (show zG P G _ _ 56 _ _ from ?_)
          refine z_iload_n ok 3 dX11_service_56 rfl (show zG P G _ _ 57 _ _ from ?_)
          refine z_bipush ok (7 : Int32) dX11_service_57 (by decide) (show zG P G _ _ 59 _ _ from ?_)
          refine z_icmp_ne ok 66 dX11_service_59 (by decide) ?_ (show zG P G _ _ 62 _ _ from ?_)
          · refine z_iconst ok (0 : Int32) dX11_service_66 (by decide) (show zG P G _ _ 67 _ _ from ?_)
            exact z_sub [] [] rfl (t_X11_service_b67 ok h_a0)
          · refine z_iconst ok (1 : Int32) dX11_service_62 (by decide) (show zG P G _ _ 63 _ _ from ?_)
            refine z_goto ok 67 dX11_service_63 (by decide) ?_
            exact z_sub [] [] rfl (t_X11_service_b67 ok h_a0)
      · refine z_aload_n ok 1 dX11_service_37 rfl (show zG P G _ _ 38 _ _ from ?_)
        refine z_getR ok fd_200 h_a0 (Or.inl rfl) tf_X11_9 dX11_service_38 (fun b38 h_b38 => (show zG P G _ _ 41 _ _ from ?_))
        refine z_iload_n ok 0 dX11_service_41 rfl (show zG P G _ _ 42 _ _ from ?_)
        refine z_iload_n ok 3 dX11_service_42 rfl (show zG P G _ _ 43 _ _ from ?_)
        refine z_iadd ok dX11_service_43 (show zG P G _ _ 44 _ _ from ?_)
        refine z_iald ok h_b38 dX11_service_44 (show zG P G _ _ 45 _ _ from ?_)
        refine z_goto ok 83 dX11_service_45 (by decide) ?_
        exact z_iret ok dX11_service_83
    · exact z_sub [] [] rfl (t_X11_service_b19 ok)
set_option maxRecDepth 100000 in
set_option maxHeartbeats 4000000 in
theorem t_X11_remembered_b40 {P : zSt} {G : zC} (ok : zOK P G RX11 cX11_remembered 3 1 22 (some .int))   {m : zM}  : zG P G (f_X11_remembered_b40 P  m) m 40 [] [] := by
  unfold f_X11_remembered_b40
  refine z_bipush ok (-2 : Int32) dX11_remembered_40 (by decide) (show zG P G _ _ 42 _ _ from ?_)
  exact z_iret ok dX11_remembered_42
set_option maxRecDepth 100000 in
set_option maxHeartbeats 4000000 in
theorem m_X11_remembered (l : Launch) {P : zSt} (hP : zOKP P) {a0 : Nat} {i1 : Int32} {i2 : Int32} (h_a0 : zT P 10 a0) : zMet l P yX11_remembered cX11_remembered 3 1 22 (some .int) [.ref a0, .int i1, .int i2] (fun m => f_X11_remembered P a0 i1 i2 m) := by
  refine zMet.of hP (by decide +kernel) RX11 rfl [(0, .ref a0), (1, .int i1), (2, .int i2)] (fun h => h) (Nat.le_of_ble_eq_true rfl) (fun G m ok => ?_)
  show zG P G (f_X11_remembered P a0 i1 i2 m) m 0 _ []
  unfold f_X11_remembered
  refine z_iload_n ok 1 dX11_remembered_0 rfl (show zG P G _ _ 1 _ _ from ?_)
  refine z_iconst ok (0 : Int32) dX11_remembered_1 (by decide) (show zG P G _ _ 2 _ _ from ?_)
  refine z_iconst ok (3 : Int32) dX11_remembered_2 (by decide) (show zG P G _ _ 3 _ _ from ?_)
  refine z_callSi ok [.int i1, .int (0 : Int32), .int (3 : Int32)] (m_X11_isIn _ ok.p) cv_X11_44 rfl (by decide) rfl (Nat.le_of_ble_eq_true rfl) rfl dX11_remembered_3 (fun r3 m3 => (show zG P G _ _ 6 _ _ from ?_))
  refine z_if_eq ok 40 dX11_remembered_6 (by decide) ?_ (show zG P G _ _ 9 _ _ from ?_)
  · exact z_sub [] [] rfl (t_X11_remembered_b40 ok)
  · refine z_iload_n ok 2 dX11_remembered_9 rfl (show zG P G _ _ 10 _ _ from ?_)
    refine z_iconst ok (0 : Int32) dX11_remembered_10 (by decide) (show zG P G _ _ 11 _ _ from ?_)
    refine z_bipush ok (9 : Int32) dX11_remembered_11 (by decide) (show zG P G _ _ 13 _ _ from ?_)
    refine z_callSi ok [.int i2, .int (0 : Int32), .int (9 : Int32)] (m_X11_isIn _ ok.p) cv_X11_44 rfl (by decide) rfl (Nat.le_of_ble_eq_true rfl) rfl dX11_remembered_13 (fun r13 m13 => (show zG P G _ _ 16 _ _ from ?_))
    refine z_if_eq ok 40 dX11_remembered_16 (by decide) ?_ (show zG P G _ _ 19 _ _ from ?_)
    · exact z_sub [] [] rfl (t_X11_remembered_b40 ok)
    · refine z_aload_n ok 0 dX11_remembered_19 rfl (show zG P G _ _ 20 _ _ from ?_)
      refine z_getR ok fd_200 h_a0 (Or.inl rfl) tf_X11_9 dX11_remembered_20 (fun b20 h_b20 => (show zG P G _ _ 23 _ _ from ?_))
      refine z_sipush ok (145 : Int32) dX11_remembered_23 (by decide) (show zG P G _ _ 26 _ _ from ?_)
      refine z_bipush ok (21 : Int32) dX11_remembered_26 (by decide) (show zG P G _ _ 28 _ _ from ?_)
      refine z_iload_n ok 1 dX11_remembered_28 rfl (show zG P G _ _ 29 _ _ from ?_)
      refine z_imul ok dX11_remembered_29 (show zG P G _ _ 30 _ _ from ?_)
      refine z_iadd ok dX11_remembered_30 (show zG P G _ _ 31 _ _ from ?_)
      refine z_bipush ok (11 : Int32) dX11_remembered_31 (by decide) (show zG P G _ _ 33 _ _ from ?_)
      refine z_iadd ok dX11_remembered_33 (show zG P G _ _ 34 _ _ from ?_)
      refine z_iload_n ok 2 dX11_remembered_34 rfl (show zG P G _ _ 35 _ _ from ?_)
      refine z_iadd ok dX11_remembered_35 (show zG P G _ _ 36 _ _ from ?_)
      refine z_iald ok h_b20 dX11_remembered_36 (show zG P G _ _ 37 _ _ from ?_)
      refine z_goto ok 42 dX11_remembered_37 (by decide) ?_
      exact z_iret ok dX11_remembered_42
set_option maxRecDepth 100000 in
set_option maxHeartbeats 4000000 in
theorem t_X11_target__b34 {P : zSt} {G : zC} (ok : zOK P G RX11 cX11_target_ 4 2 43 (some .int))   {m : zM}  : zG P G (f_X11_target__b34 P  m) m 34 [] [] := by
  unfold f_X11_target__b34
  refine z_iconst ok (-1 : Int32) dX11_target__34 (by decide) (show zG P G _ _ 35 _ _ from ?_)
  exact z_iret ok dX11_target__35
set_option maxRecDepth 100000 in
set_option maxHeartbeats 4000000 in
theorem m_X11_target_ (l : Launch) {P : zSt} (hP : zOKP P) {a0 : Nat} {i1 : Int32} {i2 : Int32} {i3 : Int32} (h_a0 : zT P 10 a0) : zMet l P yX11_target_ cX11_target_ 4 2 43 (some .int) [.ref a0, .int i1, .int i2, .int i3] (fun m => f_X11_target_ P a0 i1 i2 i3 m) := by
  refine zMet.of hP (by decide +kernel) RX11 rfl [(0, .ref a0), (1, .int i1), (2, .int i2), (3, .int i3)] (fun h => h) (Nat.le_of_ble_eq_true rfl) (fun G m ok => ?_)
  show zG P G (f_X11_target_ P a0 i1 i2 i3 m) m 0 _ []
  unfold f_X11_target_
  refine z_aload_n ok 0 dX11_target__0 rfl (show zG P G _ _ 1 _ _ from ?_)
  refine z_iload_n ok 1 dX11_target__1 rfl (show zG P G _ _ 2 _ _ from ?_)
  refine z_callVi ok [.int i1] (m_X11_isRule _ ok.p h_a0) cv_X11_103 h_a0 rfl (by decide) rfl (Nat.le_of_ble_eq_true rfl) rfl dX11_target__2 (fun r2 m2 => (show zG P G _ _ 5 _ _ from ?_))
  refine z_if_eq ok 34 dX11_target__5 (by decide) ?_ (show zG P G _ _ 8 _ _ from ?_)
  · exact z_sub [] [] rfl (t_X11_target__b34 ok)
  · refine z_iload_n ok 2 dX11_target__8 rfl (show zG P G _ _ 9 _ _ from ?_)
    refine z_iconst ok (0 : Int32) dX11_target__9 (by decide) (show zG P G _ _ 10 _ _ from ?_)
    refine z_aload_n ok 0 dX11_target__10 rfl (show zG P G _ _ 11 _ _ from ?_)
    refine z_getR ok fd_200 h_a0 (Or.inl rfl) tf_X11_9 dX11_target__11 (fun b11 h_b11 => (show zG P G _ _ 14 _ _ from ?_))
    refine z_sipush ok (231 : Int32) dX11_target__14 (by decide) (show zG P G _ _ 17 _ _ from ?_)
    refine z_bipush ok (58 : Int32) dX11_target__17 (by decide) (show zG P G _ _ 19 _ _ from ?_)
    refine z_iload_n ok 1 dX11_target__19 rfl (show zG P G _ _ 20 _ _ from ?_)
    refine z_imul ok dX11_target__20 (show zG P G _ _ 21 _ _ from ?_)
    refine z_iadd ok dX11_target__21 (show zG P G _ _ 22 _ _ from ?_)
    refine z_bipush ok (43 : Int32) dX11_target__22 (by decide) (show zG P G _ _ 24 _ _ from ?_)
    refine z_iadd ok dX11_target__24 (show zG P G _ _ 25 _ _ from ?_)
    refine z_iald ok h_b11 dX11_target__25 (show zG P G _ _ 26 _ _ from ?_)
    refine z_iconst ok (1 : Int32) dX11_target__26 (by decide) (show zG P G _ _ 27 _ _ from ?_)
    refine z_isub ok dX11_target__27 (show zG P G _ _ 28 _ _ from ?_)
    refine z_callSi ok [.int i2, .int (0 : Int32), .int ((za m2 b11 (((231 : Int32) + ((58 : Int32) * i1)) + (43 : Int32)).toNatClampNeg) - (1 : Int32))] (m_X11_isIn _ ok.p) cv_X11_44 rfl (by decide) rfl (Nat.le_of_ble_eq_true rfl) rfl dX11_target__28 (fun r28 m28 => (show zG P G _ _ 31 _ _ from ?_))
    refine z_if_ne ok 36 dX11_target__31 (by decide) ?_ (show zG P G _ _ 34 _ _ from ?_)
    · refine z_iload_n ok 3 dX11_target__36 rfl (show zG P G _ _ 37 _ _ from ?_)
      refine z_iconst ok (0 : Int32) dX11_target__37 (by decide) (show zG P G _ _ 38 _ _ from ?_)
      refine z_iconst ok (3 : Int32) dX11_target__38 (by decide) (show zG P G _ _ 39 _ _ from ?_)
      refine z_callSi ok [.int i3, .int (0 : Int32), .int (3 : Int32)] (m_X11_isIn _ ok.p) cv_X11_44 rfl (by decide) rfl (Nat.le_of_ble_eq_true rfl) rfl dX11_target__39 (fun r39 m39 => (show zG P G _ _ 42 _ _ from ?_))
      refine z_if_eq ok 70 dX11_target__42 (by decide) ?_ (show zG P G _ _ 45 _ _ from ?_)
      · refine z_bipush ok (-2 : Int32) dX11_target__70 (by decide) (show zG P G _ _ 72 _ _ from ?_)
        exact z_iret ok dX11_target__72
      · refine z_aload_n ok 0 dX11_target__45 rfl (show zG P G _ _ 46 _ _ from ?_)
        refine z_getR ok fd_200 h_a0 (Or.inl rfl) tf_X11_9 dX11_target__46 (fun b46 h_b46 => (show zG P G _ _ 49 _ _ from ?_))
        refine z_sipush ok (231 : Int32) dX11_target__49 (by decide) (show zG P G _ _ 52 _ _ from ?_)
        refine z_bipush ok (58 : Int32) dX11_target__52 (by decide) (show zG P G _ _ 54 _ _ from ?_)
        refine z_iload_n ok 1 dX11_target__54 rfl (show zG P G _ _ 55 _ _ from ?_)
        refine z_imul ok dX11_target__55 (show zG P G _ _ 56 _ _ from ?_)
        refine z_iadd ok dX11_target__56 (show zG P G _ _ 57 _ _ from ?_)
        refine z_bipush ok (44 : Int32) dX11_target__57 (by decide) (show zG P G _ _ 59 _ _ from ?_)
        refine z_iadd ok dX11_target__59 (show zG P G _ _ 60 _ _ from ?_)
        refine z_iconst ok (4 : Int32) dX11_target__60 (by decide) (show zG P G _ _ 61 _ _ from ?_)
        refine z_iload_n ok 2 dX11_target__61 rfl (show zG P G _ _ 62 _ _ from ?_)
        refine z_imul ok dX11_target__62 (show zG P G _ _ 63 _ _ from ?_)
        refine z_iadd ok dX11_target__63 (show zG P G _ _ 64 _ _ from ?_)
        refine z_iload_n ok 3 dX11_target__64 rfl (show zG P G _ _ 65 _ _ from ?_)
        refine z_iadd ok dX11_target__65 (show zG P G _ _ 66 _ _ from ?_)
        refine z_iald ok h_b46 dX11_target__66 (show zG P G _ _ 67 _ _ from ?_)
        refine z_goto ok 72 dX11_target__67 (by decide) ?_
        exact z_iret ok dX11_target__72
    · exact z_sub [] [] rfl (t_X11_target__b34 ok)
set_option maxRecDepth 100000 in
set_option maxHeartbeats 4000000 in
theorem m_X11_trace (l : Launch) {P : zSt} (hP : zOKP P) {a0 : Nat} {i1 : Int32} {i2 : Int32} (h_a0 : zT P 10 a0) : zMet l P yX11_trace cX11_trace 3 1 22 (some .int) [.ref a0, .int i1, .int i2] (fun m => f_X11_trace P a0 i1 i2 m) := by
  refine zMet.of hP (by decide +kernel) RX11 rfl [(0, .ref a0), (1, .int i1), (2, .int i2)] (fun h => h) (Nat.le_of_ble_eq_true rfl) (fun G m ok => ?_)
  show zG P G (f_X11_trace P a0 i1 i2 m) m 0 _ []
  unfold f_X11_trace
  refine z_iload_n ok 1 dX11_trace_0 rfl (show zG P G _ _ 1 _ _ from ?_)
  refine z_iconst ok (0 : Int32) dX11_trace_1 (by decide) (show zG P G _ _ 2 _ _ from ?_)
  refine z_aload_n ok 0 dX11_trace_2 rfl (show zG P G _ _ 3 _ _ from ?_)
  refine z_getR ok fd_200 h_a0 (Or.inl rfl) tf_X11_9 dX11_trace_3 (fun b3 h_b3 => (show zG P G _ _ 6 _ _ from ?_))
  refine z_sipush ok (706 : Int32) dX11_trace_6 (by decide) (show zG P G _ _ 9 _ _ from ?_)
  refine z_iald ok h_b3 dX11_trace_9 (show zG P G _ _ 10 _ _ from ?_)
  refine z_iconst ok (1 : Int32) dX11_trace_10 (by decide) (show zG P G _ _ 11 _ _ from ?_)
  refine z_isub ok dX11_trace_11 (show zG P G _ _ 12 _ _ from ?_)
  refine z_callSi ok [.int i1, .int (0 : Int32), .int ((za m b3 (706 : Int32).toNatClampNeg) - (1 : Int32))] (m_X11_isIn _ ok.p) cv_X11_44 rfl (by decide) rfl (Nat.le_of_ble_eq_true rfl) rfl dX11_trace_12 (fun r12 m12 => (show zG P G _ _ 15 _ _ from ?_))
  refine z_if_ne ok 22 dX11_trace_15 (by decide) ?_ (show zG P G _ _ 18 _ _ from ?_)
  · refine z_iload_n ok 2 dX11_trace_22 rfl (show zG P G _ _ 23 _ _ from ?_)
    refine z_iconst ok (0 : Int32) dX11_trace_23 (by decide) (show zG P G _ _ 24 _ _ from ?_)
    refine z_iconst ok (3 : Int32) dX11_trace_24 (by decide) (show zG P G _ _ 25 _ _ from ?_)
    refine z_callSi ok [.int i2, .int (0 : Int32), .int (3 : Int32)] (m_X11_isIn _ ok.p) cv_X11_44 rfl (by decide) rfl (Nat.le_of_ble_eq_true rfl) rfl dX11_trace_25 (fun r25 m25 => (show zG P G _ _ 28 _ _ from ?_))
    refine z_if_eq ok 48 dX11_trace_28 (by decide) ?_ (show zG P G _ _ 31 _ _ from ?_)
    · refine z_bipush ok (-2 : Int32) dX11_trace_48 (by decide) (show zG P G _ _ 50 _ _ from ?_)
      exact z_iret ok dX11_trace_50
    · refine z_aload_n ok 0 dX11_trace_31 rfl (show zG P G _ _ 32 _ _ from ?_)
      refine z_getR ok fd_200 h_a0 (Or.inl rfl) tf_X11_9 dX11_trace_32 (fun b32 h_b32 => (show zG P G _ _ 35 _ _ from ?_))
      refine z_sipush ok (707 : Int32) dX11_trace_35 (by decide) (show zG P G _ _ 38 _ _ from ?_)
      refine z_iconst ok (4 : Int32) dX11_trace_38 (by decide) (show zG P G _ _ 39 _ _ from ?_)
      refine z_iload_n ok 1 dX11_trace_39 rfl (show zG P G _ _ 40 _ _ from ?_)
      refine z_imul ok dX11_trace_40 (show zG P G _ _ 41 _ _ from ?_)
      refine z_iadd ok dX11_trace_41 (show zG P G _ _ 42 _ _ from ?_)
      refine z_iload_n ok 2 dX11_trace_42 rfl (show zG P G _ _ 43 _ _ from ?_)
      refine z_iadd ok dX11_trace_43 (show zG P G _ _ 44 _ _ from ?_)
      refine z_iald ok h_b32 dX11_trace_44 (show zG P G _ _ 45 _ _ from ?_)
      refine z_goto ok 50 dX11_trace_45 (by decide) ?_
      exact z_iret ok dX11_trace_50
  · refine z_iconst ok (-1 : Int32) dX11_trace_18 (by decide) (show zG P G _ _ 19 _ _ from ?_)
    refine z_goto ok 50 dX11_trace_19 (by decide) ?_
    exact z_iret ok dX11_trace_50
set_option maxRecDepth 100000 in
set_option maxHeartbeats 4000000 in
theorem m_X11_count (l : Launch) {P : zSt} (hP : zOKP P) {a0 : Nat} {i1 : Int32} (h_a0 : zT P 10 a0) : zMet l P yX11_count cX11_count 2 1 22 (some .int) [.ref a0, .int i1] (fun m => f_X11_count P a0 i1 m) := by
  refine zMet.of hP (by decide +kernel) RX11 rfl [(0, .ref a0), (1, .int i1)] (fun h => h) (Nat.le_of_ble_eq_true rfl) (fun G m ok => ?_)
  show zG P G (f_X11_count P a0 i1 m) m 0 _ []
  unfold f_X11_count
  refine z_iload_n ok 1 dX11_count_0 rfl (show zG P G _ _ 1 _ _ from ?_)
  refine z_iconst ok (0 : Int32) dX11_count_1 (by decide) (show zG P G _ _ 2 _ _ from ?_)
  refine z_bipush ok (13 : Int32) dX11_count_2 (by decide) (show zG P G _ _ 4 _ _ from ?_)
  refine z_callSi ok [.int i1, .int (0 : Int32), .int (13 : Int32)] (m_X11_isIn _ ok.p) cv_X11_44 rfl (by decide) rfl (Nat.le_of_ble_eq_true rfl) rfl dX11_count_4 (fun r4 m4 => (show zG P G _ _ 7 _ _ from ?_))
  refine z_if_ne ok 13 dX11_count_7 (by decide) ?_ (show zG P G _ _ 10 _ _ from ?_)
  · refine z_iload_n ok 1 dX11_count_13 rfl (show zG P G _ _ 14 _ _ from ?_)
    refine z_tsw ok 121 [84, 93, 121, 121, 121, 121, 121, 121, 121, 121, 121, 102, 107, 116] dX11_count_14 (by decide) (by decide) (by decide) ⟨?_, ?_, ?_, ?_, ?_, ?_, ?_, ?_, ?_, ?_, ?_, ?_, ?_, ?_, trivial⟩ ?_
    · refine z_aload_n ok 0 dX11_count_84 rfl (show zG P G _ _ 85 _ _ from ?_)
      refine z_getR ok fd_200 h_a0 (Or.inl rfl) tf_X11_9 dX11_count_85 (fun b85 h_b85 => (show zG P G _ _ 88 _ _ from ?_))
      refine z_sipush ok (144 : Int32) dX11_count_88 (by decide) (show zG P G _ _ 91 _ _ from ?_)
      refine z_iald ok h_b85 dX11_count_91 (show zG P G _ _ 92 _ _ from ?_)
      exact z_iret ok dX11_count_92
    · refine z_aload_n ok 0 dX11_count_93 rfl (show zG P G _ _ 94 _ _ from ?_)
      refine z_getR ok fd_200 h_a0 (Or.inl rfl) tf_X11_9 dX11_count_94 (fun b94 h_b94 => (show zG P G _ _ 97 _ _ from ?_))
      refine z_sipush ok (230 : Int32) dX11_count_97 (by decide) (show zG P G _ _ 100 _ _ from ?_)
      refine z_iald ok h_b94 dX11_count_100 (show zG P G _ _ 101 _ _ from ?_)
      exact z_iret ok dX11_count_101
    · refine z_aload_n ok 0 dX11_count_121 rfl (show zG P G _ _ 122 _ _ from ?_)
      refine z_getR ok fd_200 h_a0 (Or.inl rfl) tf_X11_9 dX11_count_122 (fun b122 h_b122 => (show zG P G _ _ 125 _ _ from ?_))
      refine z_sipush ok (695 : Int32) dX11_count_125 (by decide) (show zG P G _ _ 128 _ _ from ?_)
      refine z_iload_n ok 1 dX11_count_128 rfl (show zG P G _ _ 129 _ _ from ?_)
      refine z_iadd ok dX11_count_129 (show zG P G _ _ 130 _ _ from ?_)
      refine z_iald ok h_b122 dX11_count_130 (show zG P G _ _ 131 _ _ from ?_)
      exact z_iret ok dX11_count_131
    · refine z_aload_n ok 0 dX11_count_121 rfl (show zG P G _ _ 122 _ _ from ?_)
      refine z_getR ok fd_200 h_a0 (Or.inl rfl) tf_X11_9 dX11_count_122 (fun b122 h_b122 => (show zG P G _ _ 125 _ _ from ?_))
      refine z_sipush ok (695 : Int32) dX11_count_125 (by decide) (show zG P G _ _ 128 _ _ from ?_)
      refine z_iload_n ok 1 dX11_count_128 rfl (show zG P G _ _ 129 _ _ from ?_)
      refine z_iadd ok dX11_count_129 (show zG P G _ _ 130 _ _ from ?_)
      refine z_iald ok h_b122 dX11_count_130 (show zG P G _ _ 131 _ _ from ?_)
      exact z_iret ok dX11_count_131
    · refine z_aload_n ok 0 dX11_count_121 rfl (show zG P G _ _ 122 _ _ from ?_)
      refine z_getR ok fd_200 h_a0 (Or.inl rfl) tf_X11_9 dX11_count_122 (fun b122 h_b122 => (show zG P G _ _ 125 _ _ from ?_))
      refine z_sipush ok (695 : Int32) dX11_count_125 (by decide) (show zG P G _ _ 128 _ _ from ?_)
      refine z_iload_n ok 1 dX11_count_128 rfl (show zG P G _ _ 129 _ _ from ?_)
      refine z_iadd ok dX11_count_129 (show zG P G _ _ 130 _ _ from ?_)
      refine z_iald ok h_b122 dX11_count_130 (show zG P G _ _ 131 _ _ from ?_)
      exact z_iret ok dX11_count_131
    · refine z_aload_n ok 0 dX11_count_121 rfl (show zG P G _ _ 122 _ _ from ?_)
      refine z_getR ok fd_200 h_a0 (Or.inl rfl) tf_X11_9 dX11_count_122 (fun b122 h_b122 => (show zG P G _ _ 125 _ _ from ?_))
      refine z_sipush ok (695 : Int32) dX11_count_125 (by decide) (show zG P G _ _ 128 _ _ from ?_)
      refine z_iload_n ok 1 dX11_count_128 rfl (show zG P G _ _ 129 _ _ from ?_)
      refine z_iadd ok dX11_count_129 (show zG P G _ _ 130 _ _ from ?_)
      refine z_iald ok h_b122 dX11_count_130 (show zG P G _ _ 131 _ _ from ?_)
      exact z_iret ok dX11_count_131
    · refine z_aload_n ok 0 dX11_count_121 rfl (show zG P G _ _ 122 _ _ from ?_)
      refine z_getR ok fd_200 h_a0 (Or.inl rfl) tf_X11_9 dX11_count_122 (fun b122 h_b122 => (show zG P G _ _ 125 _ _ from ?_))
      refine z_sipush ok (695 : Int32) dX11_count_125 (by decide) (show zG P G _ _ 128 _ _ from ?_)
      refine z_iload_n ok 1 dX11_count_128 rfl (show zG P G _ _ 129 _ _ from ?_)
      refine z_iadd ok dX11_count_129 (show zG P G _ _ 130 _ _ from ?_)
      refine z_iald ok h_b122 dX11_count_130 (show zG P G _ _ 131 _ _ from ?_)
      exact z_iret ok dX11_count_131
    · refine z_aload_n ok 0 dX11_count_121 rfl (show zG P G _ _ 122 _ _ from ?_)
      refine z_getR ok fd_200 h_a0 (Or.inl rfl) tf_X11_9 dX11_count_122 (fun b122 h_b122 => (show zG P G _ _ 125 _ _ from ?_))
      refine z_sipush ok (695 : Int32) dX11_count_125 (by decide) (show zG P G _ _ 128 _ _ from ?_)
      refine z_iload_n ok 1 dX11_count_128 rfl (show zG P G _ _ 129 _ _ from ?_)
      refine z_iadd ok dX11_count_129 (show zG P G _ _ 130 _ _ from ?_)
      refine z_iald ok h_b122 dX11_count_130 (show zG P G _ _ 131 _ _ from ?_)
      exact z_iret ok dX11_count_131
    · refine z_aload_n ok 0 dX11_count_121 rfl (show zG P G _ _ 122 _ _ from ?_)
      refine z_getR ok fd_200 h_a0 (Or.inl rfl) tf_X11_9 dX11_count_122 (fun b122 h_b122 => (show zG P G _ _ 125 _ _ from ?_))
      refine z_sipush ok (695 : Int32) dX11_count_125 (by decide) (show zG P G _ _ 128 _ _ from ?_)
      refine z_iload_n ok 1 dX11_count_128 rfl (show zG P G _ _ 129 _ _ from ?_)
      refine z_iadd ok dX11_count_129 (show zG P G _ _ 130 _ _ from ?_)
      refine z_iald ok h_b122 dX11_count_130 (show zG P G _ _ 131 _ _ from ?_)
      exact z_iret ok dX11_count_131
    · refine z_aload_n ok 0 dX11_count_121 rfl (show zG P G _ _ 122 _ _ from ?_)
      refine z_getR ok fd_200 h_a0 (Or.inl rfl) tf_X11_9 dX11_count_122 (fun b122 h_b122 => (show zG P G _ _ 125 _ _ from ?_))
      refine z_sipush ok (695 : Int32) dX11_count_125 (by decide) (show zG P G _ _ 128 _ _ from ?_)
      refine z_iload_n ok 1 dX11_count_128 rfl (show zG P G _ _ 129 _ _ from ?_)
      refine z_iadd ok dX11_count_129 (show zG P G _ _ 130 _ _ from ?_)
      refine z_iald ok h_b122 dX11_count_130 (show zG P G _ _ 131 _ _ from ?_)
      exact z_iret ok dX11_count_131
    · refine z_aload_n ok 0 dX11_count_121 rfl (show zG P G _ _ 122 _ _ from ?_)
      refine z_getR ok fd_200 h_a0 (Or.inl rfl) tf_X11_9 dX11_count_122 (fun b122 h_b122 => (show zG P G _ _ 125 _ _ from ?_))
      refine z_sipush ok (695 : Int32) dX11_count_125 (by decide) (show zG P G _ _ 128 _ _ from ?_)
      refine z_iload_n ok 1 dX11_count_128 rfl (show zG P G _ _ 129 _ _ from ?_)
      refine z_iadd ok dX11_count_129 (show zG P G _ _ 130 _ _ from ?_)
      refine z_iald ok h_b122 dX11_count_130 (show zG P G _ _ 131 _ _ from ?_)
      exact z_iret ok dX11_count_131
    · refine z_aload_n ok 0 dX11_count_102 rfl (show zG P G _ _ 103 _ _ from ?_)
      refine z_get ok fd_210 h_a0 (Or.inl rfl) tf_X11_52 dX11_count_103 (show zG P G _ _ 106 _ _ from ?_)
      exact z_iret ok dX11_count_106
    · refine z_aload_n ok 0 dX11_count_107 rfl (show zG P G _ _ 108 _ _ from ?_)
      refine z_getR ok fd_200 h_a0 (Or.inl rfl) tf_X11_9 dX11_count_108 (fun b108 h_b108 => (show zG P G _ _ 111 _ _ from ?_))
      refine z_sipush ok (706 : Int32) dX11_count_111 (by decide) (show zG P G _ _ 114 _ _ from ?_)
      refine z_iald ok h_b108 dX11_count_114 (show zG P G _ _ 115 _ _ from ?_)
      exact z_iret ok dX11_count_115
    · refine z_aload_n ok 0 dX11_count_116 rfl (show zG P G _ _ 117 _ _ from ?_)
      refine z_get ok fd_207 h_a0 (Or.inl rfl) tf_X11_74 dX11_count_117 (show zG P G _ _ 120 _ _ from ?_)
      exact z_iret ok dX11_count_120
    · refine z_aload_n ok 0 dX11_count_121 rfl (show zG P G _ _ 122 _ _ from ?_)
      refine z_getR ok fd_200 h_a0 (Or.inl rfl) tf_X11_9 dX11_count_122 (fun b122 h_b122 => (show zG P G _ _ 125 _ _ from ?_))
      refine z_sipush ok (695 : Int32) dX11_count_125 (by decide) (show zG P G _ _ 128 _ _ from ?_)
      refine z_iload_n ok 1 dX11_count_128 rfl (show zG P G _ _ 129 _ _ from ?_)
      refine z_iadd ok dX11_count_129 (show zG P G _ _ 130 _ _ from ?_)
      refine z_iald ok h_b122 dX11_count_130 (show zG P G _ _ 131 _ _ from ?_)
      exact z_iret ok dX11_count_131
  · refine z_bipush ok (-2 : Int32) dX11_count_10 (by decide) (show zG P G _ _ 12 _ _ from ?_)
    exact z_iret ok dX11_count_12
set_option maxRecDepth 100000 in
set_option maxHeartbeats 4000000 in
theorem m_X11_prints (l : Launch) {P : zSt} (hP : zOKP P) {a0 : Nat} {i1 : Int32} (h_a0 : zT P 10 a0) : zMet l P yX11_prints cX11_prints 2 0 0 none [.ref a0, .int i1] (fun m => f_X11_prints P a0 i1 m) := by
  refine zMet.of hP (by decide +kernel) RX11 rfl [(0, .ref a0), (1, .int i1)] (fun h => h) (Nat.le_of_ble_eq_true rfl) (fun G m ok => ?_)
  show zG P G (f_X11_prints P a0 i1 m) m 0 _ []
  unfold f_X11_prints
  refine z_aload_n ok 0 dX11_prints_0 rfl (show zG P G _ _ 1 _ _ from ?_)
  refine z_getR ok fd_211 h_a0 (Or.inl rfl) tf_X11_31 dX11_prints_1 (fun b1 h_b1 => (show zG P G _ _ 4 _ _ from ?_))
  refine z_aload_n ok 0 dX11_prints_4 rfl (show zG P G _ _ 5 _ _ from ?_)
  refine z_get ok fd_212 h_a0 (Or.inl rfl) tf_X11_179 dX11_prints_5 (show zG P G _ _ 8 _ _ from ?_)
  refine z_iload_n ok 1 dX11_prints_8 rfl (show zG P G _ _ 9 _ _ from ?_)
  refine z_iast ok h_b1 dX11_prints_9 (fun m9 => (show zG P G _ _ 10 _ _ from ?_))
  refine z_aload_n ok 0 dX11_prints_10 rfl (show zG P G _ _ 11 _ _ from ?_)
  refine z_dup ok dX11_prints_11 rfl (show zG P G _ _ 12 _ _ from ?_)
  refine z_get ok fd_212 h_a0 (Or.inl rfl) tf_X11_179 dX11_prints_12 (show zG P G _ _ 15 _ _ from ?_)
  refine z_iconst ok (1 : Int32) dX11_prints_15 (by decide) (show zG P G _ _ 16 _ _ from ?_)
  refine z_iadd ok dX11_prints_16 (show zG P G _ _ 17 _ _ from ?_)
  refine z_put ok fd_212 h_a0 (Or.inl rfl) tf_X11_179 dX11_prints_17 (fun m17 => (show zG P G _ _ 20 _ _ from ?_))
  exact z_vret ok dX11_prints_20
set_option maxRecDepth 100000 in
set_option maxHeartbeats 4000000 in
theorem m_X11_printsTwo (l : Launch) {P : zSt} (hP : zOKP P) {a0 : Nat} {i1 : Int32} {i2 : Int32} (h_a0 : zT P 10 a0) : zMet l P yX11_printsTwo cX11_printsTwo 3 1 21 none [.ref a0, .int i1, .int i2] (fun m => f_X11_printsTwo P a0 i1 i2 m) := by
  refine zMet.of hP (by decide +kernel) RX11 rfl [(0, .ref a0), (1, .int i1), (2, .int i2)] (fun h => h) (Nat.le_of_ble_eq_true rfl) (fun G m ok => ?_)
  show zG P G (f_X11_printsTwo P a0 i1 i2 m) m 0 _ []
  unfold f_X11_printsTwo
  refine z_aload_n ok 0 dX11_printsTwo_0 rfl (show zG P G _ _ 1 _ _ from ?_)
  refine z_iload_n ok 1 dX11_printsTwo_1 rfl (show zG P G _ _ 2 _ _ from ?_)
  refine z_callVv ok [.int i1] (m_X11_prints _ ok.p h_a0) cv_X11_182 h_a0 rfl (by decide) rfl (Nat.le_of_ble_eq_true rfl) rfl dX11_printsTwo_2 (fun _ m2 => (show zG P G _ _ 5 _ _ from ?_))
  refine z_aload_n ok 0 dX11_printsTwo_5 rfl (show zG P G _ _ 6 _ _ from ?_)
  refine z_bipush ok (48 : Int32) dX11_printsTwo_6 (by decide) (show zG P G _ _ 8 _ _ from ?_)
  refine z_iload_n ok 2 dX11_printsTwo_8 rfl (show zG P G _ _ 9 _ _ from ?_)
  refine z_iadd ok dX11_printsTwo_9 (show zG P G _ _ 10 _ _ from ?_)
  refine z_callVv ok [.int ((48 : Int32) + i2)] (m_X11_prints _ ok.p h_a0) cv_X11_182 h_a0 rfl (by decide) rfl (Nat.le_of_ble_eq_true rfl) rfl dX11_printsTwo_10 (fun _ m10 => (show zG P G _ _ 13 _ _ from ?_))
  exact z_vret ok dX11_printsTwo_13
set_option maxRecDepth 100000 in
set_option maxHeartbeats 4000000 in
theorem t_X11_print_b201 {P : zSt} {G : zC} (ok : zOK P G RX11 cX11_print 4 2 43 (some .int)) (rec_120 : Nat → Int32 → Int32 → zM → Option (Int32 × zM)) (hr_120 : ∀ (a0 : Nat) (x2 : Int32) (x3 : Int32) (m : zM), zT P 10 a0 → zG P G (rec_120 a0 x2 x3 m) m 120 [(0, .ref a0), (2, .int x2), (3, .int x3)] []) {a0 : Nat} {x2 : Int32} {x3 : Int32} {m : zM} (h_a0 : zT P 10 a0) : zG P G (f_X11_print_b201 P rec_120 a0 x2 x3 m) m 201 [(0, .ref a0), (2, .int x2), (3, .int x3)] [] := by
  unfold f_X11_print_b201
  refine z_iinc ok (fun v201 => [(3, .int v201), (0, .ref a0), (2, .int x2)]) 2 dX11_print_201 rfl (by decide) (by decide) (fun _ => rfl) (fun v201 => (show zG P G _ _ 204 _ _ from ?_))
  refine z_goto ok 120 dX11_print_204 (by decide) ?_
  exact z_sub [1, 2, 0] [(0, .ref a0), (2, .int x2), (3, .int v201)] rfl (hr_120 _ _ _ _ h_a0)
set_option maxRecDepth 100000 in
set_option maxHeartbeats 4000000 in
theorem t_X11_print_b145 {P : zSt} {G : zC} (ok : zOK P G RX11 cX11_print 4 2 43 (some .int)) (rec_120 : Nat → Int32 → Int32 → zM → Option (Int32 × zM)) (hr_120 : ∀ (a0 : Nat) (x2 : Int32) (x3 : Int32) (m : zM), zT P 10 a0 → zG P G (rec_120 a0 x2 x3 m) m 120 [(0, .ref a0), (2, .int x2), (3, .int x3)] []) {a0 : Nat} {x2 : Int32} {x3 : Int32} {s0 : Int32} {t1 : Nat} {m : zM} (h_a0 : zT P 10 a0) (h_t1 : zT P 10 t1) : zG P G (f_X11_print_b145 P rec_120 a0 x2 x3 s0 t1 m) m 145 [(0, .ref a0), (2, .int x2), (3, .int x3)] [.int s0, .ref t1] := by
  unfold f_X11_print_b145
  refine z_aload_n ok 0 dX11_print_145 rfl (show zG P G _ _ 146 _ _ from ?_)
  refine z_getR ok fd_200 h_a0 (Or.inl rfl) tf_X11_9 dX11_print_146 (fun b146 h_b146 => (show zG P G _ _ 149 _ _ from ?_))
  refine z_iload_n ok 1 dX11_print_149 rfl (show zG P G _ _ 150 _ _ from ?_)
  refine z_bipush ok (44 : Int32) dX11_print_150 (by decide) (show zG P G _ _ 152 _ _ from ?_)
  refine z_iadd ok dX11_print_152 (show zG P G _ _ 153 _ _ from ?_)
  refine z_iconst ok (4 : Int32) dX11_print_153 (by decide) (show zG P G _ _ 154 _ _ from ?_)
  refine z_iload_n ok 2 dX11_print_154 rfl (show zG P G _ _ 155 _ _ from ?_)
  refine z_imul ok dX11_print_155 (show zG P G _ _ 156 _ _ from ?_)
  refine z_iadd ok dX11_print_156 (show zG P G _ _ 157 _ _ from ?_)
  refine z_iald ok h_b146 dX11_print_157 (show zG P G _ _ 158 _ _ from ?_)
  refine z_callVv ok [.int s0, .int (za m b146 ((x2 + (44 : Int32)) + ((4 : Int32) * x3)).toNatClampNeg)] (m_X11_printsTwo _ ok.p h_t1) cv_X11_185 h_t1 rfl (by decide) rfl (Nat.le_of_ble_eq_true rfl) rfl dX11_print_158 (fun _ m158 => (show zG P G _ _ 161 _ _ from ?_))
  refine z_aload_n ok 0 dX11_print_161 rfl (show zG P G _ _ 162 _ _ from ?_)
  refine z_getR ok fd_200 h_a0 (Or.inl rfl) tf_X11_9 dX11_print_162 (fun b162 h_b162 => (show zG P G _ _ 165 _ _ from ?_))
  refine z_iload_n ok 1 dX11_print_165 rfl (show zG P G _ _ 166 _ _ from ?_)
  refine z_bipush ok (44 : Int32) dX11_print_166 (by decide) (show zG P G _ _ 168 _ _ from ?_)
  refine z_iadd ok dX11_print_168 (show zG P G _ _ 169 _ _ from ?_)
  refine z_iconst ok (4 : Int32) dX11_print_169 (by decide) (show zG P G _ _ 170 _ _ from ?_)
  refine z_iload_n ok 2 dX11_print_170 rfl (show zG P G _ _ 171 _ _ from ?_)
  refine z_imul ok dX11_print_171 (show zG P G _ _ 172 _ _ from ?_)
  refine z_iadd ok dX11_print_172 (show zG P G _ _ 173 _ _ from ?_)
  refine z_iconst ok (1 : Int32) dX11_print_173 (by decide) (show zG P G _ _ 174 _ _ from ?_)
  refine z_iadd ok dX11_print_174 (show zG P G _ _ 175 _ _ from ?_)
  refine z_iald ok h_b162 dX11_print_175 (show zG P G _ _ 176 _ _ from ?_)
  refine z_iconst ok (1 : Int32) dX11_print_176 (by decide) (show zG P G _ _ 177 _ _ from ?_)
  refine z_icmp_le ok 201 dX11_print_177 (by decide) ?_ (show zG P G _ _ 180 _ _ from ?_)
  · exact z_sub [0, 1, 2] [(0, .ref a0), (2, .int x2), (3, .int x3)] rfl (t_X11_print_b201 ok rec_120 hr_120 h_a0)
  · refine z_aload_n ok 0 dX11_print_180 rfl (show zG P G _ _ 181 _ _ from ?_)
    refine z_bipush ok (58 : Int32) dX11_print_181 (by decide) (show zG P G _ _ 183 _ _ from ?_)
    refine z_aload_n ok 0 dX11_print_183 rfl (show zG P G _ _ 184 _ _ from ?_)
    refine z_getR ok fd_200 h_a0 (Or.inl rfl) tf_X11_9 dX11_print_184 (fun b184 h_b184 => (show zG P G _ _ 187 _ _ from ?_))
    refine z_iload_n ok 1 dX11_print_187 rfl (show zG P G _ _ 188 _ _ from ?_)
    refine z_bipush ok (44 : Int32) dX11_print_188 (by decide) (show zG P G _ _ 190 _ _ from ?_)
    refine z_iadd ok dX11_print_190 (show zG P G _ _ 191 _ _ from ?_)
    refine z_iconst ok (4 : Int32) dX11_print_191 (by decide) (show zG P G _ _ 192 _ _ from ?_)
    refine z_iload_n ok 2 dX11_print_192 rfl (show zG P G _ _ 193 _ _ from ?_)
    refine z_imul ok dX11_print_193 (show zG P G _ _ 194 _ _ from ?_)
    refine z_iadd ok dX11_print_194 (show zG P G _ _ 195 _ _ from ?_)
    refine z_iconst ok (1 : Int32) dX11_print_195 (by decide) (show zG P G _ _ 196 _ _ from ?_)
    refine z_iadd ok dX11_print_196 (show zG P G _ _ 197 _ _ from ?_)
    refine z_iald ok h_b184 dX11_print_197 (show zG P G _ _ 198 _ _ from ?_)
    refine z_callVv ok [.int (58 : Int32), .int (za m158 b184 (((x2 + (44 : Int32)) + ((4 : Int32) * x3)) + (1 : Int32)).toNatClampNeg)] (m_X11_printsTwo _ ok.p h_a0) cv_X11_185 h_a0 rfl (by decide) rfl (Nat.le_of_ble_eq_true rfl) rfl dX11_print_198 (fun _ m198 => (show zG P G _ _ 201 _ _ from ?_))
    exact z_sub [0, 1, 2] [(0, .ref a0), (2, .int x2), (3, .int x3)] rfl (t_X11_print_b201 ok rec_120 hr_120 h_a0)
set_option maxRecDepth 100000 in
set_option maxHeartbeats 4000000 in
theorem t_X11_print_b262 {P : zSt} {G : zC} (ok : zOK P G RX11 cX11_print 4 2 43 (some .int))  {a0 : Nat} {m : zM} (h_a0 : zT P 10 a0) : zG P G (f_X11_print_b262 P a0 m) m 262 [(0, .ref a0)] [] := by
  unfold f_X11_print_b262
  refine z_aload_n ok 0 dX11_print_262 rfl (show zG P G _ _ 263 _ _ from ?_)
  refine z_get ok fd_212 h_a0 (Or.inl rfl) tf_X11_179 dX11_print_263 (show zG P G _ _ 266 _ _ from ?_)
  exact z_iret ok dX11_print_266
set_option maxRecDepth 100000 in
set_option maxHeartbeats 4000000 in
theorem t_X11_print_b234 {P : zSt} {G : zC} (ok : zOK P G RX11 cX11_print 4 2 43 (some .int))  {a0 : Nat} {x2 : Int32} {m : zM} (h_a0 : zT P 10 a0) : zG P G (f_X11_print_b234 P a0 x2 m) m 234 [(0, .ref a0), (2, .int x2)] [] := by
  unfold f_X11_print_b234
  refine z_aload_n ok 0 dX11_print_234 rfl (show zG P G _ _ 235 _ _ from ?_)
  refine z_getR ok fd_200 h_a0 (Or.inl rfl) tf_X11_9 dX11_print_235 (fun b235 h_b235 => (show zG P G _ _ 238 _ _ from ?_))
  refine z_iload_n ok 1 dX11_print_238 rfl (show zG P G _ _ 239 _ _ from ?_)
  refine z_bipush ok (56 : Int32) dX11_print_239 (by decide) (show zG P G _ _ 241 _ _ from ?_)
  refine z_iadd ok dX11_print_241 (show zG P G _ _ 242 _ _ from ?_)
  refine z_iald ok h_b235 dX11_print_242 (show zG P G _ _ 243 _ _ from ?_)
  refine z_iconst ok (1 : Int32) dX11_print_243 (by decide) (show zG P G _ _ 244 _ _ from ?_)
  refine z_icmp_le ok 262 dX11_print_244 (by decide) ?_ (show zG P G _ _ 247 _ _ from ?_)
  · exact z_sub [0] [(0, .ref a0)] rfl (t_X11_print_b262 ok h_a0)
  · refine z_aload_n ok 0 dX11_print_247 rfl (show zG P G _ _ 248 _ _ from ?_)
    refine z_bipush ok (42 : Int32) dX11_print_248 (by decide) (show zG P G _ _ 250 _ _ from ?_)
    refine z_aload_n ok 0 dX11_print_250 rfl (show zG P G _ _ 251 _ _ from ?_)
    refine z_getR ok fd_200 h_a0 (Or.inl rfl) tf_X11_9 dX11_print_251 (fun b251 h_b251 => (show zG P G _ _ 254 _ _ from ?_))
    refine z_iload_n ok 1 dX11_print_254 rfl (show zG P G _ _ 255 _ _ from ?_)
    refine z_bipush ok (56 : Int32) dX11_print_255 (by decide) (show zG P G _ _ 257 _ _ from ?_)
    refine z_iadd ok dX11_print_257 (show zG P G _ _ 258 _ _ from ?_)
    refine z_iald ok h_b251 dX11_print_258 (show zG P G _ _ 259 _ _ from ?_)
    refine z_callVv ok [.int (42 : Int32), .int (za m b251 (x2 + (56 : Int32)).toNatClampNeg)] (m_X11_printsTwo _ ok.p h_a0) cv_X11_185 h_a0 rfl (by decide) rfl (Nat.le_of_ble_eq_true rfl) rfl dX11_print_259 (fun _ m259 => (show zG P G _ _ 262 _ _ from ?_))
    exact z_sub [0] [(0, .ref a0)] rfl (t_X11_print_b262 ok h_a0)
set_option maxRecDepth 100000 in
set_option maxHeartbeats 4000000 in
theorem t_X11_print_b120 {P : zSt} {G : zC} (ok : zOK P G RX11 cX11_print 4 2 43 (some .int))  : ∀ (n : Nat) (a0 : Nat) (x2 : Int32) (x3 : Int32) (m : zM) (h_a0 : zT P 10 a0), zG P G (f_X11_print_b120 P n a0 x2 x3 m) m 120 [(0, .ref a0), (2, .int x2), (3, .int x3)] [] := by
  intro n
  induction n with
  | zero =>
    intros
    exact zG_none
  | succ n ih =>
    intro a0 x2 x3 m h_a0
    unfold f_X11_print_b120
    have hr_120 := ih
    refine z_iload_n ok 2 dX11_print_120 rfl (show zG P G _ _ 121 _ _ from ?_)
    refine z_aload_n ok 0 dX11_print_121 rfl (show zG P G _ _ 122 _ _ from ?_)
    refine z_getR ok fd_200 h_a0 (Or.inl rfl) tf_X11_9 dX11_print_122 (fun b122 h_b122 => (show zG P G _ _ 125 _ _ from ?_))
    refine z_iload_n ok 1 dX11_print_125 rfl (show zG P G _ _ 126 _ _ from ?_)
    refine z_bipush ok (43 : Int32) dX11_print_126 (by decide) (show zG P G _ _ 128 _ _ from ?_)
    refine z_iadd ok dX11_print_128 (show zG P G _ _ 129 _ _ from ?_)
    refine z_iald ok h_b122 dX11_print_129 (show zG P G _ _ 130 _ _ from ?_)
    refine z_icmp_ge ok 207 dX11_print_130 (by decide) ?_ (show zG P G _ _ 133 _ _ from ?_)
    · refine z_aload_n ok 0 dX11_print_207 rfl (show zG P G _ _ 208 _ _ from ?_)
      refine z_getR ok fd_200 h_a0 (Or.inl rfl) tf_X11_9 dX11_print_208 (fun b208 h_b208 => (show zG P G _ _ 211 _ _ from ?_))
      refine z_iload_n ok 1 dX11_print_211 rfl (show zG P G _ _ 212 _ _ from ?_)
      refine z_bipush ok (57 : Int32) dX11_print_212 (by decide) (show zG P G _ _ 214 _ _ from ?_)
      refine z_iadd ok dX11_print_214 (show zG P G _ _ 215 _ _ from ?_)
      refine z_iald ok h_b208 dX11_print_215 (show zG P G _ _ 216 _ _ from ?_)
      refine z_if_lt ok 234 dX11_print_216 (by decide) ?_ (show zG P G _ _ 219 _ _ from ?_)
      · exact z_sub [0, 1] [(0, .ref a0), (2, .int x2)] rfl (t_X11_print_b234 ok h_a0)
      · refine z_aload_n ok 0 dX11_print_219 rfl (show zG P G _ _ 220 _ _ from ?_)
        refine z_bipush ok (126 : Int32) dX11_print_220 (by decide) (show zG P G _ _ 222 _ _ from ?_)
        refine z_aload_n ok 0 dX11_print_222 rfl (show zG P G _ _ 223 _ _ from ?_)
        refine z_getR ok fd_200 h_a0 (Or.inl rfl) tf_X11_9 dX11_print_223 (fun b223 h_b223 => (show zG P G _ _ 226 _ _ from ?_))
        refine z_iload_n ok 1 dX11_print_226 rfl (show zG P G _ _ 227 _ _ from ?_)
        refine z_bipush ok (57 : Int32) dX11_print_227 (by decide) (show zG P G _ _ 229 _ _ from ?_)
        refine z_iadd ok dX11_print_229 (show zG P G _ _ 230 _ _ from ?_)
        refine z_iald ok h_b223 dX11_print_230 (show zG P G _ _ 231 _ _ from ?_)
        refine z_callVv ok [.int (126 : Int32), .int (za m b223 (x2 + (57 : Int32)).toNatClampNeg)] (m_X11_printsTwo _ ok.p h_a0) cv_X11_185 h_a0 rfl (by decide) rfl (Nat.le_of_ble_eq_true rfl) rfl dX11_print_231 (fun _ m231 => (show zG P G _ _ 234 _ _ from ?_))
        exact z_sub [0, 1] [(0, .ref a0), (2, .int x2)] rfl (t_X11_print_b234 ok h_a0)
    · refine z_aload_n ok 0 dX11_print_133 rfl (show zG P G _ _ 134 _ _ from ?_)
      refine z_iload_n ok 2 dX11_print_134 rfl (show zG P G _ _ 135 _ _ from ?_)
      refine z_if_ne ok 143 dX11_print_135 (by decide) ?_ (show zG P G _ _ 138 _ _ from ?_)
      · refine z_bipush ok (44 : Int32) dX11_print_143 (by decide) (show zG P G _ _ 145 _ _ from ?_)
        exact z_sub [0, 1, 2] [(0, .ref a0), (2, .int x2), (3, .int x3)] rfl (t_X11_print_b145 ok (f_X11_print_b120 P n) hr_120 h_a0 h_a0)
      · refine z_bipush ok (61 : Int32) dX11_print_138 (by decide) (show zG P G _ _ 140 _ _ from ?_)
        refine z_goto ok 145 dX11_print_140 (by decide) ?_
        exact z_sub [0, 1, 2] [(0, .ref a0), (2, .int x2), (3, .int x3)] rfl (t_X11_print_b145 ok (f_X11_print_b120 P n) hr_120 h_a0 h_a0)
set_option maxRecDepth 100000 in
set_option maxHeartbeats 4000000 in
theorem t_X11_print_b118 {P : zSt} {G : zC} (ok : zOK P G RX11 cX11_print 4 2 43 (some .int))  {a0 : Nat} {x2 : Int32} {m : zM} (h_a0 : zT P 10 a0) : zG P G (f_X11_print_b118 P a0 x2 m) m 118 [(0, .ref a0), (2, .int x2)] [] := by
  unfold f_X11_print_b118
  refine z_iconst ok (0 : Int32) dX11_print_118 (by decide) (show zG P G _ _ 119 _ _ from ?_)
  refine z_istore_n0 ok [(3, .int (0 : Int32)), (0, .ref a0), (2, .int x2)] dX11_print_119 (by decide) rfl (show zG P G _ _ 120 _ _ from ?_)
  exact z_sub [1, 2, 0] [(0, .ref a0), (2, .int x2), (3, .int (0 : Int32))] rfl (t_X11_print_b120 ok zfuel _ _ _ _ h_a0)
set_option maxRecDepth 100000 in
set_option maxHeartbeats 4000000 in
theorem t_X11_print_b82 {P : zSt} {G : zC} (ok : zOK P G RX11 cX11_print 4 2 43 (some .int))  {a0 : Nat} {x2 : Int32} {m : zM} (h_a0 : zT P 10 a0) : zG P G (f_X11_print_b82 P a0 x2 m) m 82 [(0, .ref a0), (2, .int x2)] [] := by
  unfold f_X11_print_b82
  refine z_aload_n ok 0 dX11_print_82 rfl (show zG P G _ _ 83 _ _ from ?_)
  refine z_bipush ok (91 : Int32) dX11_print_83 (by decide) (show zG P G _ _ 85 _ _ from ?_)
  refine z_aload_n ok 0 dX11_print_85 rfl (show zG P G _ _ 86 _ _ from ?_)
  refine z_getR ok fd_200 h_a0 (Or.inl rfl) tf_X11_9 dX11_print_86 (fun b86 h_b86 => (show zG P G _ _ 89 _ _ from ?_))
  refine z_iload_n ok 1 dX11_print_89 rfl (show zG P G _ _ 90 _ _ from ?_)
  refine z_bipush ok (41 : Int32) dX11_print_90 (by decide) (show zG P G _ _ 92 _ _ from ?_)
  refine z_iadd ok dX11_print_92 (show zG P G _ _ 93 _ _ from ?_)
  refine z_iald ok h_b86 dX11_print_93 (show zG P G _ _ 94 _ _ from ?_)
  refine z_callVv ok [.int (91 : Int32), .int (za m b86 (x2 + (41 : Int32)).toNatClampNeg)] (m_X11_printsTwo _ ok.p h_a0) cv_X11_185 h_a0 rfl (by decide) rfl (Nat.le_of_ble_eq_true rfl) rfl dX11_print_94 (fun _ m94 => (show zG P G _ _ 97 _ _ from ?_))
  refine z_aload_n ok 0 dX11_print_97 rfl (show zG P G _ _ 98 _ _ from ?_)
  refine z_bipush ok (45 : Int32) dX11_print_98 (by decide) (show zG P G _ _ 100 _ _ from ?_)
  refine z_aload_n ok 0 dX11_print_100 rfl (show zG P G _ _ 101 _ _ from ?_)
  refine z_getR ok fd_200 h_a0 (Or.inl rfl) tf_X11_9 dX11_print_101 (fun b101 h_b101 => (show zG P G _ _ 104 _ _ from ?_))
  refine z_iload_n ok 1 dX11_print_104 rfl (show zG P G _ _ 105 _ _ from ?_)
  refine z_bipush ok (42 : Int32) dX11_print_105 (by decide) (show zG P G _ _ 107 _ _ from ?_)
  refine z_iadd ok dX11_print_107 (show zG P G _ _ 108 _ _ from ?_)
  refine z_iald ok h_b101 dX11_print_108 (show zG P G _ _ 109 _ _ from ?_)
  refine z_callVv ok [.int (45 : Int32), .int (za m94 b101 (x2 + (42 : Int32)).toNatClampNeg)] (m_X11_printsTwo _ ok.p h_a0) cv_X11_185 h_a0 rfl (by decide) rfl (Nat.le_of_ble_eq_true rfl) rfl dX11_print_109 (fun _ m109 => (show zG P G _ _ 112 _ _ from ?_))
  refine z_aload_n ok 0 dX11_print_112 rfl (show zG P G _ _ 113 _ _ from ?_)
  refine z_bipush ok (93 : Int32) dX11_print_113 (by decide) (show zG P G _ _ 115 _ _ from ?_)
  refine z_callVv ok [.int (93 : Int32)] (m_X11_prints _ ok.p h_a0) cv_X11_182 h_a0 rfl (by decide) rfl (Nat.le_of_ble_eq_true rfl) rfl dX11_print_115 (fun _ m115 => (show zG P G _ _ 118 _ _ from ?_))
  exact z_sub [0, 1] [(0, .ref a0), (2, .int x2)] rfl (t_X11_print_b118 ok h_a0)
set_option maxRecDepth 100000 in
set_option maxHeartbeats 4000000 in
theorem t_X11_print_b26 {P : zSt} {G : zC} (ok : zOK P G RX11 cX11_print 4 2 43 (some .int))  : ∀ (n : Nat) (a0 : Nat) (x2 : Int32) (x3 : Int32) (m : zM) (h_a0 : zT P 10 a0), zG P G (f_X11_print_b26 P n a0 x2 x3 m) m 26 [(0, .ref a0), (2, .int x2), (3, .int x3)] [] := by
  intro n
  induction n with
  | zero =>
    intros
    exact zG_none
  | succ n ih =>
    intro a0 x2 x3 m h_a0
    unfold f_X11_print_b26
    have hr_26 := ih
    refine z_iload_n ok 2 dX11_print_26 rfl (show zG P G _ _ 27 _ _ from ?_)
    refine z_aload_n ok 0 dX11_print_27 rfl (show zG P G _ _ 28 _ _ from ?_)
    refine z_getR ok fd_200 h_a0 (Or.inl rfl) tf_X11_9 dX11_print_28 (fun b28 h_b28 => (show zG P G _ _ 31 _ _ from ?_))
    refine z_iload_n ok 1 dX11_print_31 rfl (show zG P G _ _ 32 _ _ from ?_)
    refine z_iald ok h_b28 dX11_print_32 (show zG P G _ _ 33 _ _ from ?_)
    refine z_icmp_ge ok 56 dX11_print_33 (by decide) ?_ (show zG P G _ _ 36 _ _ from ?_)
    · refine z_aload_n ok 0 dX11_print_56 rfl (show zG P G _ _ 57 _ _ from ?_)
      refine z_getR ok fd_200 h_a0 (Or.inl rfl) tf_X11_9 dX11_print_57 (fun b57 h_b57 => (show zG P G _ _ 60 _ _ from ?_))
      refine z_iload_n ok 1 dX11_print_60 rfl (show zG P G _ _ 61 _ _ from ?_)
      refine z_bipush ok (41 : Int32) dX11_print_61 (by decide) (show zG P G _ _ 63 _ _ from ?_)
      refine z_iadd ok dX11_print_63 (show zG P G _ _ 64 _ _ from ?_)
      refine z_iald ok h_b57 dX11_print_64 (show zG P G _ _ 65 _ _ from ?_)
      refine z_if_gt ok 82 dX11_print_65 (by decide) ?_ (show zG P G _ _ 68 _ _ from ?_)
      · exact z_sub [0, 1] [(0, .ref a0), (2, .int x2)] rfl (t_X11_print_b82 ok h_a0)
      · refine z_aload_n ok 0 dX11_print_68 rfl (show zG P G _ _ 69 _ _ from ?_)
        refine z_getR ok fd_200 h_a0 (Or.inl rfl) tf_X11_9 dX11_print_69 (fun b69 h_b69 => (show zG P G _ _ 72 _ _ from ?_))
        refine z_iload_n ok 1 dX11_print_72 rfl (show zG P G _ _ 73 _ _ from ?_)
        refine z_bipush ok (42 : Int32) dX11_print_73 (by decide) (show zG P G _ _ 75 _ _ from ?_)
        refine z_iadd ok dX11_print_75 (show zG P G _ _ 76 _ _ from ?_)
        refine z_iald ok h_b69 dX11_print_76 (show zG P G _ _ 77 _ _ from ?_)
        refine z_bipush ok (9 : Int32) dX11_print_77 (by decide) (show zG P G _ _ 79 _ _ from ?_)
        refine z_icmp_ge ok 118 dX11_print_79 (by decide) ?_ (show zG P G _ _ 82 _ _ from ?_)
        · exact z_sub [0, 1] [(0, .ref a0), (2, .int x2)] rfl (t_X11_print_b118 ok h_a0)
        · exact z_sub [0, 1] [(0, .ref a0), (2, .int x2)] rfl (t_X11_print_b82 ok h_a0)
    · refine z_aload_n ok 0 dX11_print_36 rfl (show zG P G _ _ 37 _ _ from ?_)
      refine z_aload_n ok 0 dX11_print_37 rfl (show zG P G _ _ 38 _ _ from ?_)
      refine z_getR ok fd_200 h_a0 (Or.inl rfl) tf_X11_9 dX11_print_38 (fun b38 h_b38 => (show zG P G _ _ 41 _ _ from ?_))
      refine z_iload_n ok 1 dX11_print_41 rfl (show zG P G _ _ 42 _ _ from ?_)
      refine z_iconst ok (1 : Int32) dX11_print_42 (by decide) (show zG P G _ _ 43 _ _ from ?_)
      refine z_iadd ok dX11_print_43 (show zG P G _ _ 44 _ _ from ?_)
      refine z_iload_n ok 2 dX11_print_44 rfl (show zG P G _ _ 45 _ _ from ?_)
      refine z_iadd ok dX11_print_45 (show zG P G _ _ 46 _ _ from ?_)
      refine z_iald ok h_b38 dX11_print_46 (show zG P G _ _ 47 _ _ from ?_)
      refine z_callVv ok [.int (za m b38 ((x2 + (1 : Int32)) + x3).toNatClampNeg)] (m_X11_prints _ ok.p h_a0) cv_X11_182 h_a0 rfl (by decide) rfl (Nat.le_of_ble_eq_true rfl) rfl dX11_print_47 (fun _ m47 => (show zG P G _ _ 50 _ _ from ?_))
      refine z_iinc ok (fun v50 => [(3, .int v50), (0, .ref a0), (2, .int x2)]) 2 dX11_print_50 rfl (by decide) (by decide) (fun _ => rfl) (fun v50 => (show zG P G _ _ 53 _ _ from ?_))
      refine z_goto ok 26 dX11_print_53 (by decide) ?_
      exact z_sub [1, 2, 0] [(0, .ref a0), (2, .int x2), (3, .int v50)] rfl (hr_26 _ _ _ _ h_a0)
set_option maxRecDepth 100000 in
set_option maxHeartbeats 4000000 in
theorem m_X11_print (l : Launch) {P : zSt} (hP : zOKP P) {a0 : Nat} {i1 : Int32} (h_a0 : zT P 10 a0) : zMet l P yX11_print cX11_print 4 2 43 (some .int) [.ref a0, .int i1] (fun m => f_X11_print P a0 i1 m) := by
  refine zMet.of hP (by decide +kernel) RX11 rfl [(0, .ref a0), (1, .int i1)] (fun h => h) (Nat.le_of_ble_eq_true rfl) (fun G m ok => ?_)
  show zG P G (f_X11_print P a0 i1 m) m 0 _ []
  unfold f_X11_print
  refine z_aload_n ok 0 dX11_print_0 rfl (show zG P G _ _ 1 _ _ from ?_)
  refine z_iload_n ok 1 dX11_print_1 rfl (show zG P G _ _ 2 _ _ from ?_)
  refine z_callVi ok [.int i1] (m_X11_isRule _ ok.p h_a0) cv_X11_103 h_a0 rfl (by decide) rfl (Nat.le_of_ble_eq_true rfl) rfl dX11_print_2 (fun r2 m2 => (show zG P G _ _ 5 _ _ from ?_))
  refine z_if_ne ok 10 dX11_print_5 (by decide) ?_ (show zG P G _ _ 8 _ _ from ?_)
  · refine z_aload_n ok 0 dX11_print_10 rfl (show zG P G _ _ 11 _ _ from ?_)
    refine z_iconst ok (0 : Int32) dX11_print_11 (by decide) (show zG P G _ _ 12 _ _ from ?_)
    refine z_put ok fd_212 h_a0 (Or.inl rfl) tf_X11_179 dX11_print_12 (fun m12 => (show zG P G _ _ 15 _ _ from ?_))
    refine z_sipush ok (231 : Int32) dX11_print_15 (by decide) (show zG P G _ _ 18 _ _ from ?_)
    refine z_bipush ok (58 : Int32) dX11_print_18 (by decide) (show zG P G _ _ 20 _ _ from ?_)
    refine z_iload_n ok 1 dX11_print_20 rfl (show zG P G _ _ 21 _ _ from ?_)
    refine z_imul ok dX11_print_21 (show zG P G _ _ 22 _ _ from ?_)
    refine z_iadd ok dX11_print_22 (show zG P G _ _ 23 _ _ from ?_)
    refine z_istore_n ok (fun v23 => [(2, .int v23), (0, .ref a0), (1, .int i1)]) dX11_print_23 (by decide) (fun _ => rfl) (fun v23 => (show zG P G _ _ 24 _ _ from ?_))
    refine z_iconst ok (0 : Int32) dX11_print_24 (by decide) (show zG P G _ _ 25 _ _ from ?_)
    refine z_istore_n0 ok [(3, .int (0 : Int32)), (2, .int v23), (0, .ref a0), (1, .int i1)] dX11_print_25 (by decide) rfl (show zG P G _ _ 26 _ _ from ?_)
    exact z_sub [2, 1, 0] [(0, .ref a0), (2, .int v23), (3, .int (0 : Int32))] rfl (t_X11_print_b26 ok zfuel _ _ _ _ h_a0)
  · refine z_iconst ok (-1 : Int32) dX11_print_8 (by decide) (show zG P G _ _ 9 _ _ from ?_)
    exact z_iret ok dX11_print_9

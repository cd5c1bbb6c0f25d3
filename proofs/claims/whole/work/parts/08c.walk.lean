set_option maxRecDepth 100000 in
set_option maxHeartbeats 4000000 in
theorem m_X11_printed (l : Launch) {P : zSt} (hP : zOKP P) {a0 : Nat} {i1 : Int32} (h_a0 : zT P 10 a0) : zMet l P yX11_printed cX11_printed 2 1 22 (some .int) [.ref a0, .int i1] (fun m => f_X11_printed P a0 i1 m) := by
  refine zMet.of hP (by decide +kernel) RX11 rfl [(0, .ref a0), (1, .int i1)] (fun h => h) (Nat.le_of_ble_eq_true rfl) (fun G m ok => ?_)
  show zG P G (f_X11_printed P a0 i1 m) m 0 _ []
  unfold f_X11_printed
  refine z_iload_n ok 1 dX11_printed_0 rfl (show zG P G _ _ 1 _ _ from ?_)
  refine z_iconst ok (0 : Int32) dX11_printed_1 (by decide) (show zG P G _ _ 2 _ _ from ?_)
  refine z_aload_n ok 0 dX11_printed_2 rfl (show zG P G _ _ 3 _ _ from ?_)
  refine z_get ok fd_212 h_a0 (Or.inl rfl) tf_X11_179 dX11_printed_3 (show zG P G _ _ 6 _ _ from ?_)
  refine z_iconst ok (1 : Int32) dX11_printed_6 (by decide) (show zG P G _ _ 7 _ _ from ?_)
  refine z_isub ok dX11_printed_7 (show zG P G _ _ 8 _ _ from ?_)
  refine z_callSi ok [.int i1, .int (0 : Int32), .int ((zf m 212 a0) - (1 : Int32))] (m_X11_isIn _ ok.p) cv_X11_44 rfl (by decide) rfl (Nat.le_of_ble_eq_true rfl) rfl dX11_printed_8 (fun r8 m8 => (show zG P G _ _ 11 _ _ from ?_))
  refine z_if_eq ok 23 dX11_printed_11 (by decide) ?_ (show zG P G _ _ 14 _ _ from ?_)
  · refine z_iconst ok (-1 : Int32) dX11_printed_23 (by decide) (show zG P G _ _ 24 _ _ from ?_)
    exact z_iret ok dX11_printed_24
  · refine z_aload_n ok 0 dX11_printed_14 rfl (show zG P G _ _ 15 _ _ from ?_)
    refine z_getR ok fd_211 h_a0 (Or.inl rfl) tf_X11_31 dX11_printed_15 (fun b15 h_b15 => (show zG P G _ _ 18 _ _ from ?_))
    refine z_iload_n ok 1 dX11_printed_18 rfl (show zG P G _ _ 19 _ _ from ?_)
    refine z_iald ok h_b15 dX11_printed_19 (show zG P G _ _ 20 _ _ from ?_)
    refine z_goto ok 24 dX11_printed_20 (by decide) ?_
    exact z_iret ok dX11_printed_24
set_option maxRecDepth 100000 in
set_option maxHeartbeats 4000000 in
theorem m_X11_mark (l : Launch) {P : zSt} (hP : zOKP P) {a0 : Nat} (h_a0 : zT P 10 a0) : zMet l P yX11_mark cX11_mark 1 1 22 (some .int) [.ref a0] (fun m => f_X11_mark P a0 m) := by
  refine zMet.of hP (by decide +kernel) RX11 rfl [(0, .ref a0)] (fun h => h) (Nat.le_of_ble_eq_true rfl) (fun G m ok => ?_)
  show zG P G (f_X11_mark P a0 m) m 0 _ []
  unfold f_X11_mark
  refine z_aload_n ok 0 dX11_mark_0 rfl (show zG P G _ _ 1 _ _ from ?_)
  refine z_getR ok fd_200 h_a0 (Or.inl rfl) tf_X11_9 dX11_mark_1 (fun b1 h_b1 => (show zG P G _ _ 4 _ _ from ?_))
  refine z_aload_n ok 0 dX11_mark_4 rfl (show zG P G _ _ 5 _ _ from ?_)
  refine z_getR ok fd_202 h_a0 (Or.inl rfl) tf_X11_16 dX11_mark_5 (fun b5 h_b5 => (show zG P G _ _ 8 _ _ from ?_))
  refine z_callSv ok [.ref b1, .ref b5] (m_X11_copies _ ok.p h_b1 h_b5) cv_X11_168 rfl (by decide) rfl (Nat.le_of_ble_eq_true rfl) rfl dX11_mark_8 (fun _ m8 => (show zG P G _ _ 11 _ _ from ?_))
  refine z_aload_n ok 0 dX11_mark_11 rfl (show zG P G _ _ 12 _ _ from ?_)
  refine z_iconst ok (1 : Int32) dX11_mark_12 (by decide) (show zG P G _ _ 13 _ _ from ?_)
  refine z_putZ ok fd_205 h_a0 (Or.inl rfl) tf_X11_48 dX11_mark_13 (fun m13 => (show zG P G _ _ 16 _ _ from ?_))
  refine z_aload_n ok 0 dX11_mark_16 rfl (show zG P G _ _ 17 _ _ from ?_)
  refine z_iconst ok (0 : Int32) dX11_mark_17 (by decide) (show zG P G _ _ 18 _ _ from ?_)
  refine z_put ok fd_210 h_a0 (Or.inl rfl) tf_X11_52 dX11_mark_18 (fun m18 => (show zG P G _ _ 21 _ _ from ?_))
  refine z_aload_n ok 0 dX11_mark_21 rfl (show zG P G _ _ 22 _ _ from ?_)
  refine z_getR ok fd_200 h_a0 (Or.inl rfl) tf_X11_9 dX11_mark_22 (fun b22 h_b22 => (show zG P G _ _ 25 _ _ from ?_))
  refine z_sipush ok (144 : Int32) dX11_mark_25 (by decide) (show zG P G _ _ 28 _ _ from ?_)
  refine z_iald ok h_b22 dX11_mark_28 (show zG P G _ _ 29 _ _ from ?_)
  exact z_iret ok dX11_mark_29
set_option maxRecDepth 100000 in
set_option maxHeartbeats 4000000 in
theorem t_X11_plays_b228 {P : zSt} {G : zC} (ok : zOK P G RX11 cX11_plays 7 6 157 (some .int)) (rec_88 : Nat → Int32 → Int32 → Int32 → Int32 → zM → Option (Int32 × zM)) (hr_88 : ∀ (a0 : Nat) (x2 : Int32) (x3 : Int32) (x4 : Int32) (x5 : Int32) (m : zM), zT P 10 a0 → zG P G (rec_88 a0 x2 x3 x4 x5 m) m 88 [(0, .ref a0), (2, .int x2), (3, .int x3), (4, .int x4), (5, .int x5)] []) {a0 : Nat} {x2 : Int32} {x3 : Int32} {x4 : Int32} {x5 : Int32} {m : zM} (h_a0 : zT P 10 a0) : zG P G (f_X11_plays_b228 P rec_88 a0 x2 x3 x4 x5 m) m 228 [(0, .ref a0), (2, .int x2), (3, .int x3), (4, .int x4), (5, .int x5)] [] := by
  unfold f_X11_plays_b228
  refine z_iinc ok (fun v228 => [(5, .int v228), (0, .ref a0), (2, .int x2), (3, .int x3), (4, .int x4)]) 4 dX11_plays_228 rfl (by decide) (by decide) (fun _ => rfl) (fun v228 => (show zG P G _ _ 231 _ _ from ?_))
  refine z_goto ok 88 dX11_plays_231 (by decide) ?_
  exact z_sub [1, 2, 3, 4, 0] [(0, .ref a0), (2, .int x2), (3, .int x3), (4, .int x4), (5, .int v228)] rfl (hr_88 _ _ _ _ _ _ h_a0)
set_option maxRecDepth 100000 in
set_option maxHeartbeats 4000000 in
theorem t_X11_plays_b225 {P : zSt} {G : zC} (ok : zOK P G RX11 cX11_plays 7 6 157 (some .int)) (rec_88 : Nat → Int32 → Int32 → Int32 → Int32 → zM → Option (Int32 × zM)) (hr_88 : ∀ (a0 : Nat) (x2 : Int32) (x3 : Int32) (x4 : Int32) (x5 : Int32) (m : zM), zT P 10 a0 → zG P G (rec_88 a0 x2 x3 x4 x5 m) m 88 [(0, .ref a0), (2, .int x2), (3, .int x3), (4, .int x4), (5, .int x5)] []) {a0 : Nat} {x2 : Int32} {x3 : Int32} {x5 : Int32} {s0 : Int32} {s1 : Int32} {m : zM} (h_a0 : zT P 10 a0) : zG P G (f_X11_plays_b225 P rec_88 a0 x2 x3 x5 s0 s1 m) m 225 [(0, .ref a0), (2, .int x2), (3, .int x3), (5, .int x5)] [.int s0, .int s1] := by
  unfold f_X11_plays_b225
  refine z_iadd ok dX11_plays_225 (show zG P G _ _ 226 _ _ from ?_)
  refine z_istore ok (fun v226 => [(4, .int v226), (0, .ref a0), (2, .int x2), (3, .int x3), (5, .int x5)]) dX11_plays_226 (by decide) (fun _ => rfl) (fun v226 => (show zG P G _ _ 228 _ _ from ?_))
  exact z_sub [1, 2, 3, 0, 4] [(0, .ref a0), (2, .int x2), (3, .int x3), (4, .int v226), (5, .int x5)] rfl (t_X11_plays_b228 ok rec_88 hr_88 h_a0)
set_option maxRecDepth 100000 in
set_option maxHeartbeats 4000000 in
theorem t_X11_plays_b220 {P : zSt} {G : zC} (ok : zOK P G RX11 cX11_plays 7 6 157 (some .int)) (rec_88 : Nat → Int32 → Int32 → Int32 → Int32 → zM → Option (Int32 × zM)) (hr_88 : ∀ (a0 : Nat) (x2 : Int32) (x3 : Int32) (x4 : Int32) (x5 : Int32) (m : zM), zT P 10 a0 → zG P G (rec_88 a0 x2 x3 x4 x5 m) m 88 [(0, .ref a0), (2, .int x2), (3, .int x3), (4, .int x4), (5, .int x5)] []) {a0 : Nat} {x2 : Int32} {x3 : Int32} {x5 : Int32} {s0 : Int32} {m : zM} (h_a0 : zT P 10 a0) : zG P G (f_X11_plays_b220 P rec_88 a0 x2 x3 x5 s0 m) m 220 [(0, .ref a0), (2, .int x2), (3, .int x3), (5, .int x5)] [.int s0] := by
  unfold f_X11_plays_b220
  refine z_iconst ok (1 : Int32) dX11_plays_220 (by decide) (show zG P G _ _ 221 _ _ from ?_)
  refine z_goto ok 225 dX11_plays_221 (by decide) ?_
  exact z_sub [0, 1, 2, 3] [(0, .ref a0), (2, .int x2), (3, .int x3), (5, .int x5)] rfl (t_X11_plays_b225 ok rec_88 hr_88 h_a0)
set_option maxRecDepth 100000 in
set_option maxHeartbeats 4000000 in
theorem t_X11_plays_b224 {P : zSt} {G : zC} (ok : zOK P G RX11 cX11_plays 7 6 157 (some .int)) (rec_88 : Nat → Int32 → Int32 → Int32 → Int32 → zM → Option (Int32 × zM)) (hr_88 : ∀ (a0 : Nat) (x2 : Int32) (x3 : Int32) (x4 : Int32) (x5 : Int32) (m : zM), zT P 10 a0 → zG P G (rec_88 a0 x2 x3 x4 x5 m) m 88 [(0, .ref a0), (2, .int x2), (3, .int x3), (4, .int x4), (5, .int x5)] []) {a0 : Nat} {x2 : Int32} {x3 : Int32} {x5 : Int32} {s0 : Int32} {m : zM} (h_a0 : zT P 10 a0) : zG P G (f_X11_plays_b224 P rec_88 a0 x2 x3 x5 s0 m) m 224 [(0, .ref a0), (2, .int x2), (3, .int x3), (5, .int x5)] [.int s0] := by
  unfold f_X11_plays_b224
  refine z_iconst ok (0 : Int32) dX11_plays_224 (by decide) (show zG P G _ _ 225 _ _ from ?_)
  exact z_sub [0, 1, 2, 3] [(0, .ref a0), (2, .int x2), (3, .int x3), (5, .int x5)] rfl (t_X11_plays_b225 ok rec_88 hr_88 h_a0)
set_option maxRecDepth 100000 in
set_option maxHeartbeats 4000000 in
theorem t_X11_plays_b127 {P : zSt} {G : zC} (ok : zOK P G RX11 cX11_plays 7 6 157 (some .int)) (rec_88 : Nat → Int32 → Int32 → Int32 → Int32 → zM → Option (Int32 × zM)) (hr_88 : ∀ (a0 : Nat) (x2 : Int32) (x3 : Int32) (x4 : Int32) (x5 : Int32) (m : zM), zT P 10 a0 → zG P G (rec_88 a0 x2 x3 x4 x5 m) m 88 [(0, .ref a0), (2, .int x2), (3, .int x3), (4, .int x4), (5, .int x5)] []) : ∀ (n : Nat) (a0 : Nat) (x2 : Int32) (x3 : Int32) (x4 : Int32) (x5 : Int32) (x6 : Int32) (m : zM) (h_a0 : zT P 10 a0), zG P G (f_X11_plays_b127 P rec_88 n a0 x2 x3 x4 x5 x6 m) m 127 [(0, .ref a0), (2, .int x2), (3, .int x3), (4, .int x4), (5, .int x5), (6, .int x6)] [] := by
  intro n
  induction n with
  | zero =>
    intros
    exact zG_none
  | succ n ih =>
    intro a0 x2 x3 x4 x5 x6 m h_a0
    unfold f_X11_plays_b127
    have hr_127 := ih
    refine z_iload ok 5 dX11_plays_127 rfl (show zG P G _ _ 129 _ _ from ?_)
    refine z_aload_n ok 0 dX11_plays_129 rfl (show zG P G _ _ 130 _ _ from ?_)
    refine z_get ok fd_207 h_a0 (Or.inl rfl) tf_X11_74 dX11_plays_130 (show zG P G _ _ 133 _ _ from ?_)
    refine z_icmp_ge ok 162 dX11_plays_133 (by decide) ?_ (show zG P G _ _ 136 _ _ from ?_)
    · refine z_aload_n ok 0 dX11_plays_162 rfl (show zG P G _ _ 163 _ _ from ?_)
      refine z_aload_n ok 0 dX11_plays_163 rfl (show zG P G _ _ 164 _ _ from ?_)
      refine z_getR ok fd_208 h_a0 (Or.inl rfl) tf_X11_25 dX11_plays_164 (fun b164 h_b164 => (show zG P G _ _ 167 _ _ from ?_))
      refine z_iconst ok (4 : Int32) dX11_plays_167 (by decide) (show zG P G _ _ 168 _ _ from ?_)
      refine z_iload ok 4 dX11_plays_168 rfl (show zG P G _ _ 170 _ _ from ?_)
      refine z_imul ok dX11_plays_170 (show zG P G _ _ 171 _ _ from ?_)
      refine z_iconst ok (1 : Int32) dX11_plays_171 (by decide) (show zG P G _ _ 172 _ _ from ?_)
      refine z_iadd ok dX11_plays_172 (show zG P G _ _ 173 _ _ from ?_)
      refine z_iald ok h_b164 dX11_plays_173 (show zG P G _ _ 174 _ _ from ?_)
      refine z_aload_n ok 0 dX11_plays_174 rfl (show zG P G _ _ 175 _ _ from ?_)
      refine z_getR ok fd_208 h_a0 (Or.inl rfl) tf_X11_25 dX11_plays_175 (fun b175 h_b175 => (show zG P G _ _ 178 _ _ from ?_))
      refine z_iconst ok (4 : Int32) dX11_plays_178 (by decide) (show zG P G _ _ 179 _ _ from ?_)
      refine z_iload ok 4 dX11_plays_179 rfl (show zG P G _ _ 181 _ _ from ?_)
      refine z_imul ok dX11_plays_181 (show zG P G _ _ 182 _ _ from ?_)
      refine z_iconst ok (2 : Int32) dX11_plays_182 (by decide) (show zG P G _ _ 183 _ _ from ?_)
      refine z_iadd ok dX11_plays_183 (show zG P G _ _ 184 _ _ from ?_)
      refine z_iald ok h_b175 dX11_plays_184 (show zG P G _ _ 185 _ _ from ?_)
      refine z_callVi ok [.int (za m b164 (((4 : Int32) * x5) + (1 : Int32)).toNatClampNeg), .int (za m b175 (((4 : Int32) * x5) + (2 : Int32)).toNatClampNeg)] (m_X11_answers _ ok.p h_a0) cv_X11_165 h_a0 rfl (by decide) rfl (Nat.le_of_ble_eq_true rfl) rfl dX11_plays_185 (fun r185 m185 => (show zG P G _ _ 188 _ _ from ?_))
      refine z_istore0 ok [(6, .int r185), (0, .ref a0), (2, .int x2), (3, .int x3), (4, .int x4), (5, .int x5)] dX11_plays_188 (by decide) rfl (show zG P G _ _ 190 _ _ from ?_)
      refine z_iload ok 4 dX11_plays_190 rfl (show zG P G _ _ 192 _ _ from ?_)
      refine z_iload_n ok 2 dX11_plays_192 rfl (show zG P G _ _ 193 _ _ from ?_)
      refine z_if_eq ok 204 dX11_plays_193 (by decide) ?_ (show zG P G _ _ 196 _ _ from ?_)
      · refine z_iload ok 0 dX11_plays_204 rfl (show zG P G _ _ 206 _ _ from ?_)
        refine z_aload_n ok 1 dX11_plays_206 rfl (show zG P G _ _ 207 _ _ from ?_)
        refine z_getR ok fd_208 h_a0 (Or.inl rfl) tf_X11_25 dX11_plays_207 (fun b207 h_b207 => (show zG P G _ _ 210 _ _ from ?_))
        refine z_iconst ok (4 : Int32) dX11_plays_210 (by decide) (show zG P G _ _ 211 _ _ from ?_)
        refine z_iload ok 5 dX11_plays_211 rfl (show zG P G _ _ 213 _ _ from ?_)
        refine z_imul ok dX11_plays_213 (show zG P G _ _ 214 _ _ from ?_)
        refine z_iconst ok (3 : Int32) dX11_plays_214 (by decide) (show zG P G _ _ 215 _ _ from ?_)
        refine z_iadd ok dX11_plays_215 (show zG P G _ _ 216 _ _ from ?_)
        refine z_iald ok h_b207 dX11_plays_216 (show zG P G _ _ 217 _ _ from ?_)
        refine z_icmp_eq ok 224 dX11_plays_217 (by decide) ?_ (show zG P G _ _ 220 _ _ from ?_)
        · exact z_sub [1, 2, 3, 5] [(0, .ref a0), (2, .int x2), (3, .int x3), (5, .int x5)] rfl (t_X11_plays_b224 ok rec_88 hr_88 h_a0)
        · exact z_sub [1, 2, 3, 5] [(0, .ref a0), (2, .int x2), (3, .int x3), (5, .int x5)] rfl (t_X11_plays_b220 ok rec_88 hr_88 h_a0)
      · refine z_iload ok 0 dX11_plays_196 rfl (show zG P G _ _ 198 _ _ from ?_)
        refine z_if_lt ok 224 dX11_plays_198 (by decide) ?_ (show zG P G _ _ 201 _ _ from ?_)
        · exact z_sub [1, 2, 3, 5] [(0, .ref a0), (2, .int x2), (3, .int x3), (5, .int x5)] rfl (t_X11_plays_b224 ok rec_88 hr_88 h_a0)
        · refine z_goto ok 220 dX11_plays_201 (by decide) ?_
          exact z_sub [1, 2, 3, 5] [(0, .ref a0), (2, .int x2), (3, .int x3), (5, .int x5)] rfl (t_X11_plays_b220 ok rec_88 hr_88 h_a0)
    · refine z_aload_n ok 0 dX11_plays_136 rfl (show zG P G _ _ 137 _ _ from ?_)
      refine z_getR ok fd_206 h_a0 (Or.inl rfl) tf_X11_22 dX11_plays_137 (fun b137 h_b137 => (show zG P G _ _ 140 _ _ from ?_))
      refine z_iload ok 5 dX11_plays_140 rfl (show zG P G _ _ 142 _ _ from ?_)
      refine z_aload_n ok 0 dX11_plays_142 rfl (show zG P G _ _ 143 _ _ from ?_)
      refine z_getR ok fd_209 h_a0 (Or.inl rfl) tf_X11_28 dX11_plays_143 (fun b143 h_b143 => (show zG P G _ _ 146 _ _ from ?_))
      refine z_bipush ok (40 : Int32) dX11_plays_146 (by decide) (show zG P G _ _ 148 _ _ from ?_)
      refine z_iload ok 4 dX11_plays_148 rfl (show zG P G _ _ 150 _ _ from ?_)
      refine z_imul ok dX11_plays_150 (show zG P G _ _ 151 _ _ from ?_)
      refine z_iload ok 5 dX11_plays_151 rfl (show zG P G _ _ 153 _ _ from ?_)
      refine z_iadd ok dX11_plays_153 (show zG P G _ _ 154 _ _ from ?_)
      refine z_iald ok h_b143 dX11_plays_154 (show zG P G _ _ 155 _ _ from ?_)
      refine z_iast ok h_b137 dX11_plays_155 (fun m155 => (show zG P G _ _ 156 _ _ from ?_))
      refine z_iinc ok (fun v156 => [(6, .int v156), (0, .ref a0), (2, .int x2), (3, .int x3), (4, .int x4), (5, .int x5)]) 5 dX11_plays_156 rfl (by decide) (by decide) (fun _ => rfl) (fun v156 => (show zG P G _ _ 159 _ _ from ?_))
      refine z_goto ok 127 dX11_plays_159 (by decide) ?_
      exact z_sub [1, 2, 3, 4, 5, 0] [(0, .ref a0), (2, .int x2), (3, .int x3), (4, .int x4), (5, .int x5), (6, .int v156)] rfl (hr_127 _ _ _ _ _ _ _ h_a0)
set_option maxRecDepth 100000 in
set_option maxHeartbeats 4000000 in
theorem t_X11_plays_b247 {P : zSt} {G : zC} (ok : zOK P G RX11 cX11_plays 7 6 157 (some .int))  : ∀ (n : Nat) (a0 : Nat) (x3 : Int32) (x4 : Int32) (x5 : Int32) (m : zM) (h_a0 : zT P 10 a0), zG P G (f_X11_plays_b247 P n a0 x3 x4 x5 m) m 247 [(0, .ref a0), (3, .int x3), (4, .int x4), (5, .int x5)] [] := by
  intro n
  induction n with
  | zero =>
    intros
    exact zG_none
  | succ n ih =>
    intro a0 x3 x4 x5 m h_a0
    unfold f_X11_plays_b247
    have hr_247 := ih
    refine z_iload ok 3 dX11_plays_247 rfl (show zG P G _ _ 249 _ _ from ?_)
    refine z_iload_n ok 1 dX11_plays_249 rfl (show zG P G _ _ 250 _ _ from ?_)
    refine z_icmp_ge ok 273 dX11_plays_250 (by decide) ?_ (show zG P G _ _ 253 _ _ from ?_)
    · refine z_aload_n ok 0 dX11_plays_273 rfl (show zG P G _ _ 274 _ _ from ?_)
      refine z_getR ok fd_203 h_a0 (Or.inl rfl) tf_X11_19 dX11_plays_274 (fun b274 h_b274 => (show zG P G _ _ 277 _ _ from ?_))
      refine z_aload_n ok 0 dX11_plays_277 rfl (show zG P G _ _ 278 _ _ from ?_)
      refine z_getR ok fd_200 h_a0 (Or.inl rfl) tf_X11_9 dX11_plays_278 (fun b278 h_b278 => (show zG P G _ _ 281 _ _ from ?_))
      refine z_callSv ok [.ref b274, .ref b278] (m_X11_copies _ ok.p h_b274 h_b278) cv_X11_168 rfl (by decide) rfl (Nat.le_of_ble_eq_true rfl) rfl dX11_plays_281 (fun _ m281 => (show zG P G _ _ 284 _ _ from ?_))
      refine z_iload ok 2 dX11_plays_284 rfl (show zG P G _ _ 286 _ _ from ?_)
      exact z_iret ok dX11_plays_286
    · refine z_aload_n ok 0 dX11_plays_253 rfl (show zG P G _ _ 254 _ _ from ?_)
      refine z_getR ok fd_206 h_a0 (Or.inl rfl) tf_X11_22 dX11_plays_254 (fun b254 h_b254 => (show zG P G _ _ 257 _ _ from ?_))
      refine z_iload ok 3 dX11_plays_257 rfl (show zG P G _ _ 259 _ _ from ?_)
      refine z_aload_n ok 0 dX11_plays_259 rfl (show zG P G _ _ 260 _ _ from ?_)
      refine z_getR ok fd_217 h_a0 (Or.inl rfl) tf_X11_41 dX11_plays_260 (fun b260 h_b260 => (show zG P G _ _ 263 _ _ from ?_))
      refine z_iload ok 3 dX11_plays_263 rfl (show zG P G _ _ 265 _ _ from ?_)
      refine z_iald ok h_b260 dX11_plays_265 (show zG P G _ _ 266 _ _ from ?_)
      refine z_iast ok h_b254 dX11_plays_266 (fun m266 => (show zG P G _ _ 267 _ _ from ?_))
      refine z_iinc ok (fun v267 => [(5, .int v267), (0, .ref a0), (3, .int x3), (4, .int x4)]) 3 dX11_plays_267 rfl (by decide) (by decide) (fun _ => rfl) (fun v267 => (show zG P G _ _ 270 _ _ from ?_))
      refine z_goto ok 247 dX11_plays_270 (by decide) ?_
      exact z_sub [1, 2, 3, 0] [(0, .ref a0), (3, .int x3), (4, .int x4), (5, .int v267)] rfl (hr_247 _ _ _ _ _ h_a0)
set_option maxRecDepth 100000 in
set_option maxHeartbeats 4000000 in
theorem t_X11_plays_b88 {P : zSt} {G : zC} (ok : zOK P G RX11 cX11_plays 7 6 157 (some .int))  : ∀ (n : Nat) (a0 : Nat) (x2 : Int32) (x3 : Int32) (x4 : Int32) (x5 : Int32) (m : zM) (h_a0 : zT P 10 a0), zG P G (f_X11_plays_b88 P n a0 x2 x3 x4 x5 m) m 88 [(0, .ref a0), (2, .int x2), (3, .int x3), (4, .int x4), (5, .int x5)] [] := by
  intro n
  induction n with
  | zero =>
    intros
    exact zG_none
  | succ n ih =>
    intro a0 x2 x3 x4 x5 m h_a0
    unfold f_X11_plays_b88
    have hr_88 := ih
    refine z_iload ok 4 dX11_plays_88 rfl (show zG P G _ _ 90 _ _ from ?_)
    refine z_aload_n ok 0 dX11_plays_90 rfl (show zG P G _ _ 91 _ _ from ?_)
    refine z_get ok fd_210 h_a0 (Or.inl rfl) tf_X11_52 dX11_plays_91 (show zG P G _ _ 94 _ _ from ?_)
    refine z_icmp_ge ok 234 dX11_plays_94 (by decide) ?_ (show zG P G _ _ 97 _ _ from ?_)
    · refine z_aload_n ok 0 dX11_plays_234 rfl (show zG P G _ _ 235 _ _ from ?_)
      refine z_iconst ok (-1 : Int32) dX11_plays_235 (by decide) (show zG P G _ _ 236 _ _ from ?_)
      refine z_put ok fd_216 h_a0 (Or.inl rfl) tf_X11_37 dX11_plays_236 (fun m236 => (show zG P G _ _ 239 _ _ from ?_))
      refine z_aload_n ok 0 dX11_plays_239 rfl (show zG P G _ _ 240 _ _ from ?_)
      refine z_iload_n ok 2 dX11_plays_240 rfl (show zG P G _ _ 241 _ _ from ?_)
      refine z_put ok fd_207 h_a0 (Or.inl rfl) tf_X11_74 dX11_plays_241 (fun m241 => (show zG P G _ _ 244 _ _ from ?_))
      refine z_iconst ok (0 : Int32) dX11_plays_244 (by decide) (show zG P G _ _ 245 _ _ from ?_)
      refine z_istore0 ok [(5, .int (0 : Int32)), (0, .ref a0), (2, .int x2), (3, .int x3), (4, .int x4)] dX11_plays_245 (by decide) rfl (show zG P G _ _ 247 _ _ from ?_)
      exact z_sub [1, 3, 4, 0] [(0, .ref a0), (3, .int x3), (4, .int x4), (5, .int (0 : Int32))] rfl (t_X11_plays_b247 ok zfuel _ _ _ _ _ h_a0)
    · refine z_aload_n ok 0 dX11_plays_97 rfl (show zG P G _ _ 98 _ _ from ?_)
      refine z_aload_n ok 0 dX11_plays_98 rfl (show zG P G _ _ 99 _ _ from ?_)
      refine z_getR ok fd_208 h_a0 (Or.inl rfl) tf_X11_25 dX11_plays_99 (fun b99 h_b99 => (show zG P G _ _ 102 _ _ from ?_))
      refine z_iconst ok (4 : Int32) dX11_plays_102 (by decide) (show zG P G _ _ 103 _ _ from ?_)
      refine z_iload ok 4 dX11_plays_103 rfl (show zG P G _ _ 105 _ _ from ?_)
      refine z_imul ok dX11_plays_105 (show zG P G _ _ 106 _ _ from ?_)
      refine z_iald ok h_b99 dX11_plays_106 (show zG P G _ _ 107 _ _ from ?_)
      refine z_put ok fd_207 h_a0 (Or.inl rfl) tf_X11_74 dX11_plays_107 (fun m107 => (show zG P G _ _ 110 _ _ from ?_))
      refine z_aload_n ok 0 dX11_plays_110 rfl (show zG P G _ _ 111 _ _ from ?_)
      refine z_get ok fd_207 h_a0 (Or.inl rfl) tf_X11_74 dX11_plays_111 (show zG P G _ _ 114 _ _ from ?_)
      refine z_if_ge ok 124 dX11_plays_114 (by decide) ?_ (show zG P G _ _ 117 _ _ from ?_)
      · refine z_iconst ok (0 : Int32) dX11_plays_124 (by decide) (show zG P G _ _ 125 _ _ from ?_)
        refine z_istore0 ok [(6, .int (0 : Int32)), (0, .ref a0), (2, .int x2), (3, .int x3), (4, .int x4), (5, .int x5)] dX11_plays_125 (by decide) rfl (show zG P G _ _ 127 _ _ from ?_)
        exact z_sub [1, 2, 3, 4, 5, 0] [(0, .ref a0), (2, .int x2), (3, .int x3), (4, .int x4), (5, .int x5), (6, .int (0 : Int32))] rfl (t_X11_plays_b127 ok (f_X11_plays_b88 P n) hr_88 zfuel _ _ _ _ _ _ _ h_a0)
      · refine z_aload_n ok 0 dX11_plays_117 rfl (show zG P G _ _ 118 _ _ from ?_)
        refine z_callVv ok [] (m_X11_ticks _ ok.p h_a0) cv_X11_172 h_a0 rfl (by decide) rfl (Nat.le_of_ble_eq_true rfl) rfl dX11_plays_118 (fun _ m118 => (show zG P G _ _ 121 _ _ from ?_))
        refine z_goto ok 228 dX11_plays_121 (by decide) ?_
        exact z_sub [0, 1, 2, 3, 4] [(0, .ref a0), (2, .int x2), (3, .int x3), (4, .int x4), (5, .int x5)] rfl (t_X11_plays_b228 ok (f_X11_plays_b88 P n) hr_88 h_a0)
set_option maxRecDepth 100000 in
set_option maxHeartbeats 4000000 in
theorem t_X11_plays_b40 {P : zSt} {G : zC} (ok : zOK P G RX11 cX11_plays 7 6 157 (some .int))  : ∀ (n : Nat) (a0 : Nat) (x1 : Int32) (x2 : Int32) (x3 : Int32) (x4 : Int32) (m : zM) (h_a0 : zT P 10 a0), zG P G (f_X11_plays_b40 P n a0 x1 x2 x3 x4 m) m 40 [(0, .ref a0), (1, .int x1), (2, .int x2), (3, .int x3), (4, .int x4)] [] := by
  intro n
  induction n with
  | zero =>
    intros
    exact zG_none
  | succ n ih =>
    intro a0 x1 x2 x3 x4 m h_a0
    unfold f_X11_plays_b40
    have hr_40 := ih
    refine z_iload ok 4 dX11_plays_40 rfl (show zG P G _ _ 42 _ _ from ?_)
    refine z_iload_n ok 3 dX11_plays_42 rfl (show zG P G _ _ 43 _ _ from ?_)
    refine z_icmp_ge ok 66 dX11_plays_43 (by decide) ?_ (show zG P G _ _ 46 _ _ from ?_)
    · refine z_aload_n ok 0 dX11_plays_66 rfl (show zG P G _ _ 67 _ _ from ?_)
      refine z_getR ok fd_202 h_a0 (Or.inl rfl) tf_X11_16 dX11_plays_67 (fun b67 h_b67 => (show zG P G _ _ 70 _ _ from ?_))
      refine z_aload_n ok 0 dX11_plays_70 rfl (show zG P G _ _ 71 _ _ from ?_)
      refine z_getR ok fd_200 h_a0 (Or.inl rfl) tf_X11_9 dX11_plays_71 (fun b71 h_b71 => (show zG P G _ _ 74 _ _ from ?_))
      refine z_callSv ok [.ref b67, .ref b71] (m_X11_copies _ ok.p h_b67 h_b71) cv_X11_168 rfl (by decide) rfl (Nat.le_of_ble_eq_true rfl) rfl dX11_plays_74 (fun _ m74 => (show zG P G _ _ 77 _ _ from ?_))
      refine z_aload_n ok 0 dX11_plays_77 rfl (show zG P G _ _ 78 _ _ from ?_)
      refine z_iload_n ok 1 dX11_plays_78 rfl (show zG P G _ _ 79 _ _ from ?_)
      refine z_put ok fd_216 h_a0 (Or.inl rfl) tf_X11_37 dX11_plays_79 (fun m79 => (show zG P G _ _ 82 _ _ from ?_))
      refine z_iconst ok (0 : Int32) dX11_plays_82 (by decide) (show zG P G _ _ 83 _ _ from ?_)
      refine z_istore0 ok [(4, .int (0 : Int32)), (0, .ref a0), (1, .int x1), (2, .int x2), (3, .int x3)] dX11_plays_83 (by decide) rfl (show zG P G _ _ 85 _ _ from ?_)
      refine z_iconst ok (0 : Int32) dX11_plays_85 (by decide) (show zG P G _ _ 86 _ _ from ?_)
      refine z_istore0 ok [(5, .int (0 : Int32)), (4, .int (0 : Int32)), (0, .ref a0), (1, .int x1), (2, .int x2), (3, .int x3)] dX11_plays_86 (by decide) rfl (show zG P G _ _ 88 _ _ from ?_)
      exact z_sub [2, 4, 5, 1, 0] [(0, .ref a0), (2, .int x2), (3, .int x3), (4, .int (0 : Int32)), (5, .int (0 : Int32))] rfl (t_X11_plays_b88 ok zfuel _ _ _ _ _ _ h_a0)
    · refine z_aload_n ok 0 dX11_plays_46 rfl (show zG P G _ _ 47 _ _ from ?_)
      refine z_getR ok fd_217 h_a0 (Or.inl rfl) tf_X11_41 dX11_plays_47 (fun b47 h_b47 => (show zG P G _ _ 50 _ _ from ?_))
      refine z_iload ok 4 dX11_plays_50 rfl (show zG P G _ _ 52 _ _ from ?_)
      refine z_aload_n ok 0 dX11_plays_52 rfl (show zG P G _ _ 53 _ _ from ?_)
      refine z_getR ok fd_206 h_a0 (Or.inl rfl) tf_X11_22 dX11_plays_53 (fun b53 h_b53 => (show zG P G _ _ 56 _ _ from ?_))
      refine z_iload ok 4 dX11_plays_56 rfl (show zG P G _ _ 58 _ _ from ?_)
      refine z_iald ok h_b53 dX11_plays_58 (show zG P G _ _ 59 _ _ from ?_)
      refine z_iast ok h_b47 dX11_plays_59 (fun m59 => (show zG P G _ _ 60 _ _ from ?_))
      refine z_iinc ok (fun v60 => [(4, .int v60), (0, .ref a0), (1, .int x1), (2, .int x2), (3, .int x3)]) 4 dX11_plays_60 rfl (by decide) (by decide) (fun _ => rfl) (fun v60 => (show zG P G _ _ 63 _ _ from ?_))
      refine z_goto ok 40 dX11_plays_63 (by decide) ?_
      exact z_sub [1, 2, 3, 4, 0] [(0, .ref a0), (1, .int x1), (2, .int x2), (3, .int x3), (4, .int v60)] rfl (hr_40 _ _ _ _ _ _ h_a0)
set_option maxRecDepth 100000 in
set_option maxHeartbeats 4000000 in
theorem m_X11_plays (l : Launch) {P : zSt} (hP : zOKP P) {a0 : Nat} {i1 : Int32} {i2 : Int32} (h_a0 : zT P 10 a0) : zMet l P yX11_plays cX11_plays 7 6 157 (some .int) [.ref a0, .int i1, .int i2] (fun m => f_X11_plays P a0 i1 i2 m) := by
  refine zMet.of hP (by decide +kernel) RX11 rfl [(0, .ref a0), (1, .int i1), (2, .int i2)] (fun h => h) (Nat.le_of_ble_eq_true rfl) (fun G m ok => ?_)
  show zG P G (f_X11_plays P a0 i1 i2 m) m 0 _ []
  unfold f_X11_plays
  refine z_iload_n ok 1 dX11_plays_0 rfl (show zG P G _ _ 1 _ _ from ?_)
  refine z_iconst ok (0 : Int32) dX11_plays_1 (by decide) (show zG P G _ _ 2 _ _ from ?_)
  refine z_iconst ok (4 : Int32) dX11_plays_2 (by decide) (show zG P G _ _ 3 _ _ from ?_)
  refine z_callSi ok [.int i1, .int (0 : Int32), .int (4 : Int32)] (m_X11_isIn _ ok.p) cv_X11_44 rfl (by decide) rfl (Nat.le_of_ble_eq_true rfl) rfl dX11_plays_3 (fun r3 m3 => (show zG P G _ _ 6 _ _ from ?_))
  refine z_if_ne ok 12 dX11_plays_6 (by decide) ?_ (show zG P G _ _ 9 _ _ from ?_)
  · refine z_aload_n ok 0 dX11_plays_12 rfl (show zG P G _ _ 13 _ _ from ?_)
    refine z_get ok fd_205 h_a0 (Or.inl rfl) tf_X11_48 dX11_plays_13 (show zG P G _ _ 16 _ _ from ?_)
    refine z_if_ne ok 21 dX11_plays_16 (by decide) ?_ (show zG P G _ _ 19 _ _ from ?_)
    · refine z_aload_n ok 0 dX11_plays_21 rfl (show zG P G _ _ 22 _ _ from ?_)
      refine z_getR ok fd_200 h_a0 (Or.inl rfl) tf_X11_9 dX11_plays_22 (fun b22 h_b22 => (show zG P G _ _ 25 _ _ from ?_))
      refine z_aload_n ok 0 dX11_plays_25 rfl (show zG P G _ _ 26 _ _ from ?_)
      refine z_getR ok fd_203 h_a0 (Or.inl rfl) tf_X11_19 dX11_plays_26 (fun b26 h_b26 => (show zG P G _ _ 29 _ _ from ?_))
      refine z_callSv ok [.ref b22, .ref b26] (m_X11_copies _ ok.p h_b22 h_b26) cv_X11_168 rfl (by decide) rfl (Nat.le_of_ble_eq_true rfl) rfl dX11_plays_29 (fun _ m29 => (show zG P G _ _ 32 _ _ from ?_))
      refine z_aload_n ok 0 dX11_plays_32 rfl (show zG P G _ _ 33 _ _ from ?_)
      refine z_get ok fd_207 h_a0 (Or.inl rfl) tf_X11_74 dX11_plays_33 (show zG P G _ _ 36 _ _ from ?_)
      refine z_istore_n ok (fun v36 => [(3, .int v36), (0, .ref a0), (1, .int i1), (2, .int i2)]) dX11_plays_36 (by decide) (fun _ => rfl) (fun v36 => (show zG P G _ _ 37 _ _ from ?_))
      refine z_iconst ok (0 : Int32) dX11_plays_37 (by decide) (show zG P G _ _ 38 _ _ from ?_)
      refine z_istore0 ok [(4, .int (0 : Int32)), (3, .int v36), (0, .ref a0), (1, .int i1), (2, .int i2)] dX11_plays_38 (by decide) rfl (show zG P G _ _ 40 _ _ from ?_)
      exact z_sub [2, 3, 4, 1, 0] [(0, .ref a0), (1, .int i1), (2, .int i2), (3, .int v36), (4, .int (0 : Int32))] rfl (t_X11_plays_b40 ok zfuel _ _ _ _ _ _ h_a0)
    · refine z_iconst ok (-1 : Int32) dX11_plays_19 (by decide) (show zG P G _ _ 20 _ _ from ?_)
      exact z_iret ok dX11_plays_20
  · refine z_bipush ok (-2 : Int32) dX11_plays_9 (by decide) (show zG P G _ _ 11 _ _ from ?_)
    exact z_iret ok dX11_plays_11
set_option maxRecDepth 100000 in
set_option maxHeartbeats 4000000 in
theorem m_X11_play (l : Launch) {P : zSt} (hP : zOKP P) {a0 : Nat} {i1 : Int32} (h_a0 : zT P 10 a0) : zMet l P yX11_play cX11_play 2 7 183 (some .int) [.ref a0, .int i1] (fun m => f_X11_play P a0 i1 m) := by
  refine zMet.of hP (by decide +kernel) RX11 rfl [(0, .ref a0), (1, .int i1)] (fun h => h) (Nat.le_of_ble_eq_true rfl) (fun G m ok => ?_)
  show zG P G (f_X11_play P a0 i1 m) m 0 _ []
  unfold f_X11_play
  refine z_aload_n ok 0 dX11_play_0 rfl (show zG P G _ _ 1 _ _ from ?_)
  refine z_iload_n ok 1 dX11_play_1 rfl (show zG P G _ _ 2 _ _ from ?_)
  refine z_iconst ok (0 : Int32) dX11_play_2 (by decide) (show zG P G _ _ 3 _ _ from ?_)
  refine z_callVi ok [.int i1, .int (0 : Int32)] (m_X11_plays _ ok.p h_a0) cv_X11_188 h_a0 rfl (by decide) rfl (Nat.le_of_ble_eq_true rfl) rfl dX11_play_3 (fun r3 m3 => (show zG P G _ _ 6 _ _ from ?_))
  exact z_iret ok dX11_play_6
set_option maxRecDepth 100000 in
set_option maxHeartbeats 4000000 in
theorem m_X11_answeredIf (l : Launch) {P : zSt} (hP : zOKP P) {a0 : Nat} {i1 : Int32} (h_a0 : zT P 10 a0) : zMet l P yX11_answeredIf cX11_answeredIf 2 7 183 (some .int) [.ref a0, .int i1] (fun m => f_X11_answeredIf P a0 i1 m) := by
  refine zMet.of hP (by decide +kernel) RX11 rfl [(0, .ref a0), (1, .int i1)] (fun h => h) (Nat.le_of_ble_eq_true rfl) (fun G m ok => ?_)
  show zG P G (f_X11_answeredIf P a0 i1 m) m 0 _ []
  unfold f_X11_answeredIf
  refine z_aload_n ok 0 dX11_answeredIf_0 rfl (show zG P G _ _ 1 _ _ from ?_)
  refine z_iload_n ok 1 dX11_answeredIf_1 rfl (show zG P G _ _ 2 _ _ from ?_)
  refine z_iconst ok (1 : Int32) dX11_answeredIf_2 (by decide) (show zG P G _ _ 3 _ _ from ?_)
  refine z_callVi ok [.int i1, .int (1 : Int32)] (m_X11_plays _ ok.p h_a0) cv_X11_188 h_a0 rfl (by decide) rfl (Nat.le_of_ble_eq_true rfl) rfl dX11_answeredIf_3 (fun r3 m3 => (show zG P G _ _ 6 _ _ from ?_))
  exact z_iret ok dX11_answeredIf_6
set_option maxRecDepth 100000 in
set_option maxHeartbeats 4000000 in
theorem m_X11_save (l : Launch) {P : zSt} (hP : zOKP P) {a0 : Nat} (h_a0 : zT P 10 a0) : zMet l P yX11_save cX11_save 1 1 22 (some .int) [.ref a0] (fun m => f_X11_save P a0 m) := by
  refine zMet.of hP (by decide +kernel) RX11 rfl [(0, .ref a0)] (fun h => h) (Nat.le_of_ble_eq_true rfl) (fun G m ok => ?_)
  show zG P G (f_X11_save P a0 m) m 0 _ []
  unfold f_X11_save
  refine z_aload_n ok 0 dX11_save_0 rfl (show zG P G _ _ 1 _ _ from ?_)
  refine z_getR ok fd_200 h_a0 (Or.inl rfl) tf_X11_9 dX11_save_1 (fun b1 h_b1 => (show zG P G _ _ 4 _ _ from ?_))
  refine z_aload_n ok 0 dX11_save_4 rfl (show zG P G _ _ 5 _ _ from ?_)
  refine z_getR ok fd_201 h_a0 (Or.inl rfl) tf_X11_13 dX11_save_5 (fun b5 h_b5 => (show zG P G _ _ 8 _ _ from ?_))
  refine z_callSv ok [.ref b1, .ref b5] (m_X11_copies _ ok.p h_b1 h_b5) cv_X11_168 rfl (by decide) rfl (Nat.le_of_ble_eq_true rfl) rfl dX11_save_8 (fun _ m8 => (show zG P G _ _ 11 _ _ from ?_))
  refine z_aload_n ok 0 dX11_save_11 rfl (show zG P G _ _ 12 _ _ from ?_)
  refine z_iconst ok (1 : Int32) dX11_save_12 (by decide) (show zG P G _ _ 13 _ _ from ?_)
  refine z_putZ ok fd_204 h_a0 (Or.inl rfl) tf_X11_191 dX11_save_13 (fun m13 => (show zG P G _ _ 16 _ _ from ?_))
  refine z_aload_n ok 0 dX11_save_16 rfl (show zG P G _ _ 17 _ _ from ?_)
  refine z_getR ok fd_200 h_a0 (Or.inl rfl) tf_X11_9 dX11_save_17 (fun b17 h_b17 => (show zG P G _ _ 20 _ _ from ?_))
  refine z_sipush ok (144 : Int32) dX11_save_20 (by decide) (show zG P G _ _ 23 _ _ from ?_)
  refine z_iald ok h_b17 dX11_save_23 (show zG P G _ _ 24 _ _ from ?_)
  exact z_iret ok dX11_save_24
set_option maxRecDepth 100000 in
set_option maxHeartbeats 4000000 in
theorem m_X11_restore (l : Launch) {P : zSt} (hP : zOKP P) {a0 : Nat} (h_a0 : zT P 10 a0) : zMet l P yX11_restore cX11_restore 1 1 22 (some .int) [.ref a0] (fun m => f_X11_restore P a0 m) := by
  refine zMet.of hP (by decide +kernel) RX11 rfl [(0, .ref a0)] (fun h => h) (Nat.le_of_ble_eq_true rfl) (fun G m ok => ?_)
  show zG P G (f_X11_restore P a0 m) m 0 _ []
  unfold f_X11_restore
  refine z_aload_n ok 0 dX11_restore_0 rfl (show zG P G _ _ 1 _ _ from ?_)
  refine z_get ok fd_204 h_a0 (Or.inl rfl) tf_X11_191 dX11_restore_1 (show zG P G _ _ 4 _ _ from ?_)
  refine z_if_ne ok 9 dX11_restore_4 (by decide) ?_ (show zG P G _ _ 7 _ _ from ?_)
  · refine z_aload_n ok 0 dX11_restore_9 rfl (show zG P G _ _ 10 _ _ from ?_)
    refine z_callVv ok [] (m_X11_changes _ ok.p h_a0) cv_X11_55 h_a0 rfl (by decide) rfl (Nat.le_of_ble_eq_true rfl) rfl dX11_restore_10 (fun _ m10 => (show zG P G _ _ 13 _ _ from ?_))
    refine z_aload_n ok 0 dX11_restore_13 rfl (show zG P G _ _ 14 _ _ from ?_)
    refine z_getR ok fd_201 h_a0 (Or.inl rfl) tf_X11_13 dX11_restore_14 (fun b14 h_b14 => (show zG P G _ _ 17 _ _ from ?_))
    refine z_aload_n ok 0 dX11_restore_17 rfl (show zG P G _ _ 18 _ _ from ?_)
    refine z_getR ok fd_200 h_a0 (Or.inl rfl) tf_X11_9 dX11_restore_18 (fun b18 h_b18 => (show zG P G _ _ 21 _ _ from ?_))
    refine z_callSv ok [.ref b14, .ref b18] (m_X11_copies _ ok.p h_b14 h_b18) cv_X11_168 rfl (by decide) rfl (Nat.le_of_ble_eq_true rfl) rfl dX11_restore_21 (fun _ m21 => (show zG P G _ _ 24 _ _ from ?_))
    refine z_aload_n ok 0 dX11_restore_24 rfl (show zG P G _ _ 25 _ _ from ?_)
    refine z_getR ok fd_200 h_a0 (Or.inl rfl) tf_X11_9 dX11_restore_25 (fun b25 h_b25 => (show zG P G _ _ 28 _ _ from ?_))
    refine z_sipush ok (706 : Int32) dX11_restore_28 (by decide) (show zG P G _ _ 31 _ _ from ?_)
    refine z_iconst ok (0 : Int32) dX11_restore_31 (by decide) (show zG P G _ _ 32 _ _ from ?_)
    refine z_iast ok h_b25 dX11_restore_32 (fun m32 => (show zG P G _ _ 33 _ _ from ?_))
    refine z_aload_n ok 0 dX11_restore_33 rfl (show zG P G _ _ 34 _ _ from ?_)
    refine z_getR ok fd_200 h_a0 (Or.inl rfl) tf_X11_9 dX11_restore_34 (fun b34 h_b34 => (show zG P G _ _ 37 _ _ from ?_))
    refine z_sipush ok (144 : Int32) dX11_restore_37 (by decide) (show zG P G _ _ 40 _ _ from ?_)
    refine z_iald ok h_b34 dX11_restore_40 (show zG P G _ _ 41 _ _ from ?_)
    exact z_iret ok dX11_restore_41
  · refine z_iconst ok (-1 : Int32) dX11_restore_7 (by decide) (show zG P G _ _ 8 _ _ from ?_)
    exact z_iret ok dX11_restore_8

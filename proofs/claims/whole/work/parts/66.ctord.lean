/-! ===== the reference's constructor ===== -/
def moS (V : Nat → Int32) (s : Nat) : Nat → Int32 := uV (uV (uV (uV (uV V (145 + 21 * s + 1) 3) (145 + 21 * s + 2) 5) (145 + 21 * s + 3) 50) (145 + 21 * s + 4) 20) (145 + 21 * s + 5) 300
def moH (V : Nat → Int32) (s : Nat) : Nat → (Nat → Int32)
  | 0 => V
  | h + 1 => uV (moH V s h) (145 + 21 * s + 11 + h) (-1)
def moO : Nat → (Nat → Int32)
  | 0 => uV (fun _ => 0) 229 70
  | s + 1 => moH (moS (moO s) s) s 10
def cModel (cy : Nat → ClassId) (a : Nat) : List va_E := (.inr (10, [.ref (a + 1), .ref (a + 2), .ref (a + 3), .ref (a + 4), .int 0, .int 0, .ref (a + 5), .int 0, .ref (a + 6), .ref (a + 7), .int 0, .ref (a + 8), .int 0, .int 0, .int 0, .ref (a + 9), .int (-1), .ref (a + 10)]) :: (.inl (cy 12, 723, .inl (moO 4)) :: [.inl (cy 12, 723, .inl (fun _ => 0)), .inl (cy 12, 723, .inl (fun _ => 0)), .inl (cy 12, 723, .inl (fun _ => 0)), .inl (cy 12, 40, .inl (fun _ => 0)), .inl (cy 12, 240, .inl (fun _ => 0)), .inl (cy 12, 2400, .inl (fun _ => 0)), .inl (cy 12, 80, .inl (fun _ => 0)), .inl (cy 12, 58, .inl (fun _ => 0)), .inl (cy 12, 40, .inl (fun _ => 0))]))
section CI6
variable {D : va_G} {cy : Nat → ClassId}
theorem n_X11_init (l : Launch) (D : va_G) (cy : Nat → ClassId) {a : Nat} : cMet l D cy yX11_init cX11_init 4 1 20 10 5750 [] a [.inr (10, [.null, .null, .null, .null, .int 0, .int 0, .null, .int 0, .null, .null, .int 0, .null, .int 0, .int 0, .int 0, .null, .int 0, .null])] (cModel cy a) := by
  refine cMet.of (by decide +kernel) RX11 rfl [(0, .ref a)] (fun h => h) (Nat.le_of_ble_eq_true rfl) (fun G ok hnm hret hQ => ?_)
  have inner : ∀ (V : Nat → Int32) (s : Nat), s < 4 → cAt D G a (.inr (10, [.ref (a + 1), .ref (a + 2), .ref (a + 3), .ref (a + 4), .int 0, .int 0, .ref (a + 5), .int 0, .ref (a + 6), .ref (a + 7), .int 0, .ref (a + 8), .int 0, .int 0, .int 0, .ref (a + 9), .int (-1), .ref (a + 10)]) :: (.inl (cy 12, 723, .inl (moH V s 10)) :: [.inl (cy 12, 723, .inl (fun _ => 0)), .inl (cy 12, 723, .inl (fun _ => 0)), .inl (cy 12, 723, .inl (fun _ => 0)), .inl (cy 12, 40, .inl (fun _ => 0)), .inl (cy 12, 240, .inl (fun _ => 0)), .inl (cy 12, 2400, .inl (fun _ => 0)), .inl (cy 12, 80, .inl (fun _ => 0)), .inl (cy 12, 58, .inl (fun _ => 0)), .inl (cy 12, 40, .inl (fun _ => 0))])) 10 5750 196 [(1, .int (nI s)), (0, .ref a)] [] → ∀ d h, h + d = 10 → cAt D G a (.inr (10, [.ref (a + 1), .ref (a + 2), .ref (a + 3), .ref (a + 4), .int 0, .int 0, .ref (a + 5), .int 0, .ref (a + 6), .ref (a + 7), .int 0, .ref (a + 8), .int 0, .int 0, .int 0, .ref (a + 9), .int (-1), .ref (a + 10)]) :: (.inl (cy 12, 723, .inl (moH V s h)) :: [.inl (cy 12, 723, .inl (fun _ => 0)), .inl (cy 12, 723, .inl (fun _ => 0)), .inl (cy 12, 723, .inl (fun _ => 0)), .inl (cy 12, 40, .inl (fun _ => 0)), .inl (cy 12, 240, .inl (fun _ => 0)), .inl (cy 12, 2400, .inl (fun _ => 0)), .inl (cy 12, 80, .inl (fun _ => 0)), .inl (cy 12, 58, .inl (fun _ => 0)), .inl (cy 12, 40, .inl (fun _ => 0))])) 10 5750 172 [(3, .int (nI h)), (2, .int (nI (145 + 21 * s))), (1, .int (nI s)), (0, .ref a)] [] := by
    intro V s hs hout d
    induction d with
    | zero =>
      intro h hh
      have : h = 10 := by omega
      subst this
      refine c_iload_n ok 0 dX11_init_172 rfl ?_
      refine c_bipush ok 10 dX11_init_173 rfl ?_
      refine c_icmp_ge ok 196 dX11_init_175 rfl (fun _ => ?_) (fun h => absurd (by decide) h)
      exact c_sub [2, 3] [(1, .int (nI s)), (0, .ref a)] rfl hout
    | succ d ih =>
      intro h hh
      refine c_iload_n ok 0 dX11_init_172 rfl ?_
      refine c_bipush ok 10 dX11_init_173 rfl ?_
      refine c_icmp_ge ok 196 dX11_init_175 rfl (fun q => absurd ((n_le (a := 10) (by omega) (by omega)).mp q) (by omega)) (fun _ => ?_)
      refine c_aload_n ok 3 dX11_init_178 rfl ?_
      refine c_get (ci := 10) (q := 0) (j := 0) (v := .ref (a + 1)) ok rfl rfl rfl (by decide) rfl rfl (Or.inl rfl) ⟨List.mem_of_getElem? (i := 897) (by decide +kernel), rfl⟩ dX11_init_179 ?_
      refine c_iload_n ok 1 dX11_init_182 rfl ?_
      refine c_bipush ok 11 dX11_init_183 rfl ?_
      refine c_iadd ok dX11_init_185 ?_
      refine c_iload_n ok 0 dX11_init_186 rfl ?_
      refine c_iadd ok dX11_init_187 ?_
      have e1 : nI (145 + 21 * s) + 11 + nI h = nI (145 + 21 * s + 11 + h) := by rw [show (11 : Int32) = nI 11 from rfl, n_add, n_add]
      rw [e1]
      refine c_iconst ok (-1) dX11_init_188 rfl ?_
      refine c_iast (q := 1) (N := 723) (i := 145 + 21 * s + 11 + h) ok rfl rfl (by omega) (by omega) dX11_init_189 ?_
      refine c_iinc ok [(3, .int (nI (h + 1))), (2, .int (nI (145 + 21 * s))), (1, .int (nI s)), (0, .ref a)] 0 dX11_init_190 rfl (d := 1) rfl (by decide) (by rw [nI_1]; rfl) ?_
      refine c_goto ok 172 dX11_init_193 rfl ?_
      exact ih (h + 1) (by omega)
  have outer : ∀ d s, s + d = 4 → cAt D G a (.inr (10, [.ref (a + 1), .ref (a + 2), .ref (a + 3), .ref (a + 4), .int 0, .int 0, .ref (a + 5), .int 0, .ref (a + 6), .ref (a + 7), .int 0, .ref (a + 8), .int 0, .int 0, .int 0, .ref (a + 9), .int (-1), .ref (a + 10)]) :: (.inl (cy 12, 723, .inl (moO s)) :: [.inl (cy 12, 723, .inl (fun _ => 0)), .inl (cy 12, 723, .inl (fun _ => 0)), .inl (cy 12, 723, .inl (fun _ => 0)), .inl (cy 12, 40, .inl (fun _ => 0)), .inl (cy 12, 240, .inl (fun _ => 0)), .inl (cy 12, 2400, .inl (fun _ => 0)), .inl (cy 12, 80, .inl (fun _ => 0)), .inl (cy 12, 58, .inl (fun _ => 0)), .inl (cy 12, 40, .inl (fun _ => 0))])) 10 5750 107 [(1, .int (nI s)), (0, .ref a)] [] := by
    intro d
    induction d with
    | zero =>
      intro s hs
      have : s = 4 := by omega
      subst this
      refine c_iload_n ok 0 dX11_init_107 rfl ?_
      refine c_iconst ok 4 dX11_init_108 rfl ?_
      refine c_icmp_ge ok 202 dX11_init_109 rfl (fun _ => ?_) (fun h => absurd (by decide) h)
      exact c_vret ok hret hQ rfl dX11_init_202
    | succ d ih =>
      intro s hs
      refine c_iload_n ok 0 dX11_init_107 rfl ?_
      refine c_iconst ok 4 dX11_init_108 rfl ?_
      refine c_icmp_ge ok 202 dX11_init_109 rfl (fun q => absurd ((n_le (a := 4) (by omega) (by omega)).mp q) (by omega)) (fun _ => ?_)
      refine c_sipush ok 145 dX11_init_112 rfl ?_
      refine c_bipush ok 21 dX11_init_115 rfl ?_
      refine c_iload_n ok 0 dX11_init_117 rfl ?_
      refine c_imul ok dX11_init_118 ?_
      refine c_iadd ok dX11_init_119 ?_
      have e0 : (145 : Int32) + 21 * nI s = nI (145 + 21 * s) := by rw [show (21 : Int32) = nI 21 from rfl, show (145 : Int32) = nI 145 from rfl, n_mul, n_add]
      rw [e0]
      refine c_istore_n ok [(2, .int (nI (145 + 21 * s))), (1, .int (nI s)), (0, .ref a)] dX11_init_120 (by decide) rfl ?_
      refine c_aload_n ok 2 dX11_init_121 rfl ?_
      refine c_get (ci := 10) (q := 0) (j := 0) (v := .ref (a + 1)) ok rfl rfl rfl (by decide) rfl rfl (Or.inl rfl) ⟨List.mem_of_getElem? (i := 897) (by decide +kernel), rfl⟩ dX11_init_122 ?_
      refine c_iload_n ok 0 dX11_init_125 rfl ?_
      refine c_iconst ok 1 dX11_init_126 rfl ?_
      refine c_iadd ok dX11_init_127 ?_
      rw [show nI (145 + 21 * s) + 1 = nI (145 + 21 * s + 1) from n_add _ 1]
      refine c_iconst ok 3 dX11_init_128 rfl ?_
      refine c_iast (q := 1) (N := 723) (i := 145 + 21 * s + 1) ok rfl rfl (by omega) (by omega) dX11_init_129 ?_
      refine c_aload_n ok 2 dX11_init_130 rfl ?_
      refine c_get (ci := 10) (q := 0) (j := 0) (v := .ref (a + 1)) ok rfl rfl rfl (by decide) rfl rfl (Or.inl rfl) ⟨List.mem_of_getElem? (i := 897) (by decide +kernel), rfl⟩ dX11_init_131 ?_
      refine c_iload_n ok 0 dX11_init_134 rfl ?_
      refine c_iconst ok 2 dX11_init_135 rfl ?_
      refine c_iadd ok dX11_init_136 ?_
      rw [show nI (145 + 21 * s) + 2 = nI (145 + 21 * s + 2) from n_add _ 2]
      refine c_iconst ok 5 dX11_init_137 rfl ?_
      refine c_iast (q := 1) (N := 723) (i := 145 + 21 * s + 2) ok rfl rfl (by omega) (by omega) dX11_init_138 ?_
      refine c_aload_n ok 2 dX11_init_139 rfl ?_
      refine c_get (ci := 10) (q := 0) (j := 0) (v := .ref (a + 1)) ok rfl rfl rfl (by decide) rfl rfl (Or.inl rfl) ⟨List.mem_of_getElem? (i := 897) (by decide +kernel), rfl⟩ dX11_init_140 ?_
      refine c_iload_n ok 0 dX11_init_143 rfl ?_
      refine c_iconst ok 3 dX11_init_144 rfl ?_
      refine c_iadd ok dX11_init_145 ?_
      rw [show nI (145 + 21 * s) + 3 = nI (145 + 21 * s + 3) from n_add _ 3]
      refine c_bipush ok 50 dX11_init_146 rfl ?_
      refine c_iast (q := 1) (N := 723) (i := 145 + 21 * s + 3) ok rfl rfl (by omega) (by omega) dX11_init_148 ?_
      refine c_aload_n ok 2 dX11_init_149 rfl ?_
      refine c_get (ci := 10) (q := 0) (j := 0) (v := .ref (a + 1)) ok rfl rfl rfl (by decide) rfl rfl (Or.inl rfl) ⟨List.mem_of_getElem? (i := 897) (by decide +kernel), rfl⟩ dX11_init_150 ?_
      refine c_iload_n ok 0 dX11_init_153 rfl ?_
      refine c_iconst ok 4 dX11_init_154 rfl ?_
      refine c_iadd ok dX11_init_155 ?_
      rw [show nI (145 + 21 * s) + 4 = nI (145 + 21 * s + 4) from n_add _ 4]
      refine c_bipush ok 20 dX11_init_156 rfl ?_
      refine c_iast (q := 1) (N := 723) (i := 145 + 21 * s + 4) ok rfl rfl (by omega) (by omega) dX11_init_158 ?_
      refine c_aload_n ok 2 dX11_init_159 rfl ?_
      refine c_get (ci := 10) (q := 0) (j := 0) (v := .ref (a + 1)) ok rfl rfl rfl (by decide) rfl rfl (Or.inl rfl) ⟨List.mem_of_getElem? (i := 897) (by decide +kernel), rfl⟩ dX11_init_160 ?_
      refine c_iload_n ok 0 dX11_init_163 rfl ?_
      refine c_iconst ok 5 dX11_init_164 rfl ?_
      refine c_iadd ok dX11_init_165 ?_
      rw [show nI (145 + 21 * s) + 5 = nI (145 + 21 * s + 5) from n_add _ 5]
      refine c_sipush ok 300 dX11_init_166 rfl ?_
      refine c_iast (q := 1) (N := 723) (i := 145 + 21 * s + 5) ok rfl rfl (by omega) (by omega) dX11_init_169 ?_
      refine c_iconst ok 0 dX11_init_170 rfl ?_
      refine c_istore_n ok [(3, .int (nI 0)), (2, .int (nI (145 + 21 * s))), (1, .int (nI s)), (0, .ref a)] dX11_init_171 (by decide) rfl ?_
      refine inner (moS (moO s) s) s (by omega) ?_ 10 0 (by omega)
      refine c_iinc ok [(1, .int (nI (s + 1))), (0, .ref a)] 0 dX11_init_196 rfl (d := 1) rfl (by decide) (by rw [nI_1]; rfl) ?_
      refine c_goto ok 107 dX11_init_199 rfl ?_
      exact ih (s + 1) (by omega)
  refine c_aload_n ok 0 dX11_init_0 rfl ?_
  refine c_obj ok ⟨List.mem_of_getElem? (i := 896) (by decide +kernel), rfl⟩ ⟨List.mem_of_getElem? (i := 80) (by decide +kernel), rfl⟩ ⟨List.mem_of_getElem? (i := 81) (by decide +kernel), rfl⟩ (by decide) (by decide) (by decide) dX11_init_1 ?_
  refine c_aload_n ok 0 dX11_init_4 rfl ?_
  refine c_sipush ok (723) dX11_init_5 rfl ?_
  refine c_newa (kd := 12) (t0 := 1) (N := 723) ok rfl (Or.inl rfl) ⟨List.mem_of_getElem? (i := 112) (by decide +kernel), rfl⟩ (by decide) (by decide) (by decide) (by decide) (by decide) dX11_init_8 ?_
  show cAt D G a (.inr (10, [.null, .null, .null, .null, .int 0, .int 0, .null, .int 0, .null, .null, .int 0, .null, .int 0, .int 0, .int 0, .null, .int 0, .null]) :: [.inl (cy 12, 723, .inl (fun _ => 0))]) 1 723 10 [(0, .ref a)] [.ref (a + 1), .ref a]
  refine c_putf (ci := 10) (q := 0) (j := 0) (v := .ref (a + 1)) (ty := tyX11 0) ok rfl rfl rfl (by decide) rfl (by decide +kernel) rfl rfl (Nat.le_of_ble_eq_true rfl) (Or.inl rfl) ⟨List.mem_of_getElem? (i := 897) (by decide +kernel), rfl⟩ (fun _ => ⟨hnm, rfl⟩) dX11_init_10 ?_
  show cAt D G a (.inr (10, [.ref (a + 1), .null, .null, .null, .int 0, .int 0, .null, .int 0, .null, .null, .int 0, .null, .int 0, .int 0, .int 0, .null, .int 0, .null]) :: [.inl (cy 12, 723, .inl (fun _ => 0))]) 1 723 13 [(0, .ref a)] []
  refine c_aload_n ok 0 dX11_init_13 rfl ?_
  refine c_sipush ok (723) dX11_init_14 rfl ?_
  refine c_newa (kd := 12) (t0 := 1) (N := 723) ok rfl (Or.inl rfl) ⟨List.mem_of_getElem? (i := 112) (by decide +kernel), rfl⟩ (by decide) (by decide) (by decide) (by decide) (by decide) dX11_init_17 ?_
  show cAt D G a (.inr (10, [.ref (a + 1), .null, .null, .null, .int 0, .int 0, .null, .int 0, .null, .null, .int 0, .null, .int 0, .int 0, .int 0, .null, .int 0, .null]) :: ([.inl (cy 12, 723, .inl (fun _ => 0))] ++ [.inl (cy 12, 723, .inl (fun _ => 0))])) 2 1446 19 [(0, .ref a)] [.ref (a + 2), .ref a]
  refine c_putf (ci := 10) (q := 0) (j := 1) (v := .ref (a + 2)) (ty := tyX11 1) ok rfl rfl rfl (by decide) rfl (by decide +kernel) rfl rfl (Nat.le_of_ble_eq_true rfl) (Or.inl rfl) ⟨List.mem_of_getElem? (i := 898) (by decide +kernel), rfl⟩ (fun _ => ⟨hnm, rfl⟩) dX11_init_19 ?_
  show cAt D G a (.inr (10, [.ref (a + 1), .ref (a + 2), .null, .null, .int 0, .int 0, .null, .int 0, .null, .null, .int 0, .null, .int 0, .int 0, .int 0, .null, .int 0, .null]) :: ([.inl (cy 12, 723, .inl (fun _ => 0))] ++ [.inl (cy 12, 723, .inl (fun _ => 0))])) 2 1446 22 [(0, .ref a)] []
  refine c_aload_n ok 0 dX11_init_22 rfl ?_
  refine c_sipush ok (723) dX11_init_23 rfl ?_
  refine c_newa (kd := 12) (t0 := 1) (N := 723) ok rfl (Or.inl rfl) ⟨List.mem_of_getElem? (i := 112) (by decide +kernel), rfl⟩ (by decide) (by decide) (by decide) (by decide) (by decide) dX11_init_26 ?_
  show cAt D G a (.inr (10, [.ref (a + 1), .ref (a + 2), .null, .null, .int 0, .int 0, .null, .int 0, .null, .null, .int 0, .null, .int 0, .int 0, .int 0, .null, .int 0, .null]) :: (([.inl (cy 12, 723, .inl (fun _ => 0))] ++ [.inl (cy 12, 723, .inl (fun _ => 0))]) ++ [.inl (cy 12, 723, .inl (fun _ => 0))])) 3 2169 28 [(0, .ref a)] [.ref (a + 3), .ref a]
  refine c_putf (ci := 10) (q := 0) (j := 2) (v := .ref (a + 3)) (ty := tyX11 2) ok rfl rfl rfl (by decide) rfl (by decide +kernel) rfl rfl (Nat.le_of_ble_eq_true rfl) (Or.inl rfl) ⟨List.mem_of_getElem? (i := 899) (by decide +kernel), rfl⟩ (fun _ => ⟨hnm, rfl⟩) dX11_init_28 ?_
  show cAt D G a (.inr (10, [.ref (a + 1), .ref (a + 2), .ref (a + 3), .null, .int 0, .int 0, .null, .int 0, .null, .null, .int 0, .null, .int 0, .int 0, .int 0, .null, .int 0, .null]) :: (([.inl (cy 12, 723, .inl (fun _ => 0))] ++ [.inl (cy 12, 723, .inl (fun _ => 0))]) ++ [.inl (cy 12, 723, .inl (fun _ => 0))])) 3 2169 31 [(0, .ref a)] []
  refine c_aload_n ok 0 dX11_init_31 rfl ?_
  refine c_sipush ok (723) dX11_init_32 rfl ?_
  refine c_newa (kd := 12) (t0 := 1) (N := 723) ok rfl (Or.inl rfl) ⟨List.mem_of_getElem? (i := 112) (by decide +kernel), rfl⟩ (by decide) (by decide) (by decide) (by decide) (by decide) dX11_init_35 ?_
  show cAt D G a (.inr (10, [.ref (a + 1), .ref (a + 2), .ref (a + 3), .null, .int 0, .int 0, .null, .int 0, .null, .null, .int 0, .null, .int 0, .int 0, .int 0, .null, .int 0, .null]) :: ((([.inl (cy 12, 723, .inl (fun _ => 0))] ++ [.inl (cy 12, 723, .inl (fun _ => 0))]) ++ [.inl (cy 12, 723, .inl (fun _ => 0))]) ++ [.inl (cy 12, 723, .inl (fun _ => 0))])) 4 2892 37 [(0, .ref a)] [.ref (a + 4), .ref a]
  refine c_putf (ci := 10) (q := 0) (j := 3) (v := .ref (a + 4)) (ty := tyX11 3) ok rfl rfl rfl (by decide) rfl (by decide +kernel) rfl rfl (Nat.le_of_ble_eq_true rfl) (Or.inl rfl) ⟨List.mem_of_getElem? (i := 900) (by decide +kernel), rfl⟩ (fun _ => ⟨hnm, rfl⟩) dX11_init_37 ?_
  show cAt D G a (.inr (10, [.ref (a + 1), .ref (a + 2), .ref (a + 3), .ref (a + 4), .int 0, .int 0, .null, .int 0, .null, .null, .int 0, .null, .int 0, .int 0, .int 0, .null, .int 0, .null]) :: ((([.inl (cy 12, 723, .inl (fun _ => 0))] ++ [.inl (cy 12, 723, .inl (fun _ => 0))]) ++ [.inl (cy 12, 723, .inl (fun _ => 0))]) ++ [.inl (cy 12, 723, .inl (fun _ => 0))])) 4 2892 40 [(0, .ref a)] []
  refine c_aload_n ok 0 dX11_init_40 rfl ?_
  refine c_bipush ok (40) dX11_init_41 rfl ?_
  refine c_newa (kd := 12) (t0 := 1) (N := 40) ok rfl (Or.inl rfl) ⟨List.mem_of_getElem? (i := 112) (by decide +kernel), rfl⟩ (by decide) (by decide) (by decide) (by decide) (by decide) dX11_init_43 ?_
  show cAt D G a (.inr (10, [.ref (a + 1), .ref (a + 2), .ref (a + 3), .ref (a + 4), .int 0, .int 0, .null, .int 0, .null, .null, .int 0, .null, .int 0, .int 0, .int 0, .null, .int 0, .null]) :: (((([.inl (cy 12, 723, .inl (fun _ => 0))] ++ [.inl (cy 12, 723, .inl (fun _ => 0))]) ++ [.inl (cy 12, 723, .inl (fun _ => 0))]) ++ [.inl (cy 12, 723, .inl (fun _ => 0))]) ++ [.inl (cy 12, 40, .inl (fun _ => 0))])) 5 2932 45 [(0, .ref a)] [.ref (a + 5), .ref a]
  refine c_putf (ci := 10) (q := 0) (j := 6) (v := .ref (a + 5)) (ty := tyX11 6) ok rfl rfl rfl (by decide) rfl (by decide +kernel) rfl rfl (Nat.le_of_ble_eq_true rfl) (Or.inl rfl) ⟨List.mem_of_getElem? (i := 903) (by decide +kernel), rfl⟩ (fun _ => ⟨hnm, rfl⟩) dX11_init_45 ?_
  show cAt D G a (.inr (10, [.ref (a + 1), .ref (a + 2), .ref (a + 3), .ref (a + 4), .int 0, .int 0, .ref (a + 5), .int 0, .null, .null, .int 0, .null, .int 0, .int 0, .int 0, .null, .int 0, .null]) :: (((([.inl (cy 12, 723, .inl (fun _ => 0))] ++ [.inl (cy 12, 723, .inl (fun _ => 0))]) ++ [.inl (cy 12, 723, .inl (fun _ => 0))]) ++ [.inl (cy 12, 723, .inl (fun _ => 0))]) ++ [.inl (cy 12, 40, .inl (fun _ => 0))])) 5 2932 48 [(0, .ref a)] []
  refine c_aload_n ok 0 dX11_init_48 rfl ?_
  refine c_sipush ok (240) dX11_init_49 rfl ?_
  refine c_newa (kd := 12) (t0 := 1) (N := 240) ok rfl (Or.inl rfl) ⟨List.mem_of_getElem? (i := 112) (by decide +kernel), rfl⟩ (by decide) (by decide) (by decide) (by decide) (by decide) dX11_init_52 ?_
  show cAt D G a (.inr (10, [.ref (a + 1), .ref (a + 2), .ref (a + 3), .ref (a + 4), .int 0, .int 0, .ref (a + 5), .int 0, .null, .null, .int 0, .null, .int 0, .int 0, .int 0, .null, .int 0, .null]) :: ((((([.inl (cy 12, 723, .inl (fun _ => 0))] ++ [.inl (cy 12, 723, .inl (fun _ => 0))]) ++ [.inl (cy 12, 723, .inl (fun _ => 0))]) ++ [.inl (cy 12, 723, .inl (fun _ => 0))]) ++ [.inl (cy 12, 40, .inl (fun _ => 0))]) ++ [.inl (cy 12, 240, .inl (fun _ => 0))])) 6 3172 54 [(0, .ref a)] [.ref (a + 6), .ref a]
  refine c_putf (ci := 10) (q := 0) (j := 8) (v := .ref (a + 6)) (ty := tyX11 8) ok rfl rfl rfl (by decide) rfl (by decide +kernel) rfl rfl (Nat.le_of_ble_eq_true rfl) (Or.inl rfl) ⟨List.mem_of_getElem? (i := 905) (by decide +kernel), rfl⟩ (fun _ => ⟨hnm, rfl⟩) dX11_init_54 ?_
  show cAt D G a (.inr (10, [.ref (a + 1), .ref (a + 2), .ref (a + 3), .ref (a + 4), .int 0, .int 0, .ref (a + 5), .int 0, .ref (a + 6), .null, .int 0, .null, .int 0, .int 0, .int 0, .null, .int 0, .null]) :: ((((([.inl (cy 12, 723, .inl (fun _ => 0))] ++ [.inl (cy 12, 723, .inl (fun _ => 0))]) ++ [.inl (cy 12, 723, .inl (fun _ => 0))]) ++ [.inl (cy 12, 723, .inl (fun _ => 0))]) ++ [.inl (cy 12, 40, .inl (fun _ => 0))]) ++ [.inl (cy 12, 240, .inl (fun _ => 0))])) 6 3172 57 [(0, .ref a)] []
  refine c_aload_n ok 0 dX11_init_57 rfl ?_
  refine c_sipush ok (2400) dX11_init_58 rfl ?_
  refine c_newa (kd := 12) (t0 := 1) (N := 2400) ok rfl (Or.inl rfl) ⟨List.mem_of_getElem? (i := 112) (by decide +kernel), rfl⟩ (by decide) (by decide) (by decide) (by decide) (by decide) dX11_init_61 ?_
  show cAt D G a (.inr (10, [.ref (a + 1), .ref (a + 2), .ref (a + 3), .ref (a + 4), .int 0, .int 0, .ref (a + 5), .int 0, .ref (a + 6), .null, .int 0, .null, .int 0, .int 0, .int 0, .null, .int 0, .null]) :: (((((([.inl (cy 12, 723, .inl (fun _ => 0))] ++ [.inl (cy 12, 723, .inl (fun _ => 0))]) ++ [.inl (cy 12, 723, .inl (fun _ => 0))]) ++ [.inl (cy 12, 723, .inl (fun _ => 0))]) ++ [.inl (cy 12, 40, .inl (fun _ => 0))]) ++ [.inl (cy 12, 240, .inl (fun _ => 0))]) ++ [.inl (cy 12, 2400, .inl (fun _ => 0))])) 7 5572 63 [(0, .ref a)] [.ref (a + 7), .ref a]
  refine c_putf (ci := 10) (q := 0) (j := 9) (v := .ref (a + 7)) (ty := tyX11 9) ok rfl rfl rfl (by decide) rfl (by decide +kernel) rfl rfl (Nat.le_of_ble_eq_true rfl) (Or.inl rfl) ⟨List.mem_of_getElem? (i := 906) (by decide +kernel), rfl⟩ (fun _ => ⟨hnm, rfl⟩) dX11_init_63 ?_
  show cAt D G a (.inr (10, [.ref (a + 1), .ref (a + 2), .ref (a + 3), .ref (a + 4), .int 0, .int 0, .ref (a + 5), .int 0, .ref (a + 6), .ref (a + 7), .int 0, .null, .int 0, .int 0, .int 0, .null, .int 0, .null]) :: (((((([.inl (cy 12, 723, .inl (fun _ => 0))] ++ [.inl (cy 12, 723, .inl (fun _ => 0))]) ++ [.inl (cy 12, 723, .inl (fun _ => 0))]) ++ [.inl (cy 12, 723, .inl (fun _ => 0))]) ++ [.inl (cy 12, 40, .inl (fun _ => 0))]) ++ [.inl (cy 12, 240, .inl (fun _ => 0))]) ++ [.inl (cy 12, 2400, .inl (fun _ => 0))])) 7 5572 66 [(0, .ref a)] []
  refine c_aload_n ok 0 dX11_init_66 rfl ?_
  refine c_bipush ok (80) dX11_init_67 rfl ?_
  refine c_newa (kd := 12) (t0 := 1) (N := 80) ok rfl (Or.inl rfl) ⟨List.mem_of_getElem? (i := 112) (by decide +kernel), rfl⟩ (by decide) (by decide) (by decide) (by decide) (by decide) dX11_init_69 ?_
  show cAt D G a (.inr (10, [.ref (a + 1), .ref (a + 2), .ref (a + 3), .ref (a + 4), .int 0, .int 0, .ref (a + 5), .int 0, .ref (a + 6), .ref (a + 7), .int 0, .null, .int 0, .int 0, .int 0, .null, .int 0, .null]) :: ((((((([.inl (cy 12, 723, .inl (fun _ => 0))] ++ [.inl (cy 12, 723, .inl (fun _ => 0))]) ++ [.inl (cy 12, 723, .inl (fun _ => 0))]) ++ [.inl (cy 12, 723, .inl (fun _ => 0))]) ++ [.inl (cy 12, 40, .inl (fun _ => 0))]) ++ [.inl (cy 12, 240, .inl (fun _ => 0))]) ++ [.inl (cy 12, 2400, .inl (fun _ => 0))]) ++ [.inl (cy 12, 80, .inl (fun _ => 0))])) 8 5652 71 [(0, .ref a)] [.ref (a + 8), .ref a]
  refine c_putf (ci := 10) (q := 0) (j := 11) (v := .ref (a + 8)) (ty := tyX11 11) ok rfl rfl rfl (by decide) rfl (by decide +kernel) rfl rfl (Nat.le_of_ble_eq_true rfl) (Or.inl rfl) ⟨List.mem_of_getElem? (i := 908) (by decide +kernel), rfl⟩ (fun _ => ⟨hnm, rfl⟩) dX11_init_71 ?_
  show cAt D G a (.inr (10, [.ref (a + 1), .ref (a + 2), .ref (a + 3), .ref (a + 4), .int 0, .int 0, .ref (a + 5), .int 0, .ref (a + 6), .ref (a + 7), .int 0, .ref (a + 8), .int 0, .int 0, .int 0, .null, .int 0, .null]) :: ((((((([.inl (cy 12, 723, .inl (fun _ => 0))] ++ [.inl (cy 12, 723, .inl (fun _ => 0))]) ++ [.inl (cy 12, 723, .inl (fun _ => 0))]) ++ [.inl (cy 12, 723, .inl (fun _ => 0))]) ++ [.inl (cy 12, 40, .inl (fun _ => 0))]) ++ [.inl (cy 12, 240, .inl (fun _ => 0))]) ++ [.inl (cy 12, 2400, .inl (fun _ => 0))]) ++ [.inl (cy 12, 80, .inl (fun _ => 0))])) 8 5652 74 [(0, .ref a)] []
  refine c_aload_n ok 0 dX11_init_74 rfl ?_
  refine c_bipush ok (58) dX11_init_75 rfl ?_
  refine c_newa (kd := 12) (t0 := 1) (N := 58) ok rfl (Or.inl rfl) ⟨List.mem_of_getElem? (i := 112) (by decide +kernel), rfl⟩ (by decide) (by decide) (by decide) (by decide) (by decide) dX11_init_77 ?_
  show cAt D G a (.inr (10, [.ref (a + 1), .ref (a + 2), .ref (a + 3), .ref (a + 4), .int 0, .int 0, .ref (a + 5), .int 0, .ref (a + 6), .ref (a + 7), .int 0, .ref (a + 8), .int 0, .int 0, .int 0, .null, .int 0, .null]) :: (((((((([.inl (cy 12, 723, .inl (fun _ => 0))] ++ [.inl (cy 12, 723, .inl (fun _ => 0))]) ++ [.inl (cy 12, 723, .inl (fun _ => 0))]) ++ [.inl (cy 12, 723, .inl (fun _ => 0))]) ++ [.inl (cy 12, 40, .inl (fun _ => 0))]) ++ [.inl (cy 12, 240, .inl (fun _ => 0))]) ++ [.inl (cy 12, 2400, .inl (fun _ => 0))]) ++ [.inl (cy 12, 80, .inl (fun _ => 0))]) ++ [.inl (cy 12, 58, .inl (fun _ => 0))])) 9 5710 79 [(0, .ref a)] [.ref (a + 9), .ref a]
  refine c_putf (ci := 10) (q := 0) (j := 15) (v := .ref (a + 9)) (ty := tyX11 15) ok rfl rfl rfl (by decide) rfl (by decide +kernel) rfl rfl (Nat.le_of_ble_eq_true rfl) (Or.inl rfl) ⟨List.mem_of_getElem? (i := 912) (by decide +kernel), rfl⟩ (fun _ => ⟨hnm, rfl⟩) dX11_init_79 ?_
  show cAt D G a (.inr (10, [.ref (a + 1), .ref (a + 2), .ref (a + 3), .ref (a + 4), .int 0, .int 0, .ref (a + 5), .int 0, .ref (a + 6), .ref (a + 7), .int 0, .ref (a + 8), .int 0, .int 0, .int 0, .ref (a + 9), .int 0, .null]) :: (((((((([.inl (cy 12, 723, .inl (fun _ => 0))] ++ [.inl (cy 12, 723, .inl (fun _ => 0))]) ++ [.inl (cy 12, 723, .inl (fun _ => 0))]) ++ [.inl (cy 12, 723, .inl (fun _ => 0))]) ++ [.inl (cy 12, 40, .inl (fun _ => 0))]) ++ [.inl (cy 12, 240, .inl (fun _ => 0))]) ++ [.inl (cy 12, 2400, .inl (fun _ => 0))]) ++ [.inl (cy 12, 80, .inl (fun _ => 0))]) ++ [.inl (cy 12, 58, .inl (fun _ => 0))])) 9 5710 82 [(0, .ref a)] []
  refine c_aload_n ok 0 dX11_init_82 rfl ?_
  refine c_iconst ok (-1) dX11_init_83 rfl ?_
  refine c_putf (ci := 10) (q := 0) (j := 16) (v := .int (-1)) (ty := tyX11 16) ok rfl rfl rfl (by decide) rfl (by decide +kernel) rfl rfl (Nat.le_of_ble_eq_true rfl) (Or.inl rfl) ⟨List.mem_of_getElem? (i := 913) (by decide +kernel), rfl⟩ (fun h => by cases h) dX11_init_84 ?_
  show cAt D G a (.inr (10, [.ref (a + 1), .ref (a + 2), .ref (a + 3), .ref (a + 4), .int 0, .int 0, .ref (a + 5), .int 0, .ref (a + 6), .ref (a + 7), .int 0, .ref (a + 8), .int 0, .int 0, .int 0, .ref (a + 9), .int (-1), .null]) :: (((((((([.inl (cy 12, 723, .inl (fun _ => 0))] ++ [.inl (cy 12, 723, .inl (fun _ => 0))]) ++ [.inl (cy 12, 723, .inl (fun _ => 0))]) ++ [.inl (cy 12, 723, .inl (fun _ => 0))]) ++ [.inl (cy 12, 40, .inl (fun _ => 0))]) ++ [.inl (cy 12, 240, .inl (fun _ => 0))]) ++ [.inl (cy 12, 2400, .inl (fun _ => 0))]) ++ [.inl (cy 12, 80, .inl (fun _ => 0))]) ++ [.inl (cy 12, 58, .inl (fun _ => 0))])) 9 5710 87 [(0, .ref a)] []
  refine c_aload_n ok 0 dX11_init_87 rfl ?_
  refine c_bipush ok (40) dX11_init_88 rfl ?_
  refine c_newa (kd := 12) (t0 := 1) (N := 40) ok rfl (Or.inl rfl) ⟨List.mem_of_getElem? (i := 112) (by decide +kernel), rfl⟩ (by decide) (by decide) (by decide) (by decide) (by decide) dX11_init_90 ?_
  show cAt D G a (.inr (10, [.ref (a + 1), .ref (a + 2), .ref (a + 3), .ref (a + 4), .int 0, .int 0, .ref (a + 5), .int 0, .ref (a + 6), .ref (a + 7), .int 0, .ref (a + 8), .int 0, .int 0, .int 0, .ref (a + 9), .int (-1), .null]) :: ((((((((([.inl (cy 12, 723, .inl (fun _ => 0))] ++ [.inl (cy 12, 723, .inl (fun _ => 0))]) ++ [.inl (cy 12, 723, .inl (fun _ => 0))]) ++ [.inl (cy 12, 723, .inl (fun _ => 0))]) ++ [.inl (cy 12, 40, .inl (fun _ => 0))]) ++ [.inl (cy 12, 240, .inl (fun _ => 0))]) ++ [.inl (cy 12, 2400, .inl (fun _ => 0))]) ++ [.inl (cy 12, 80, .inl (fun _ => 0))]) ++ [.inl (cy 12, 58, .inl (fun _ => 0))]) ++ [.inl (cy 12, 40, .inl (fun _ => 0))])) 10 5750 92 [(0, .ref a)] [.ref (a + 10), .ref a]
  refine c_putf (ci := 10) (q := 0) (j := 17) (v := .ref (a + 10)) (ty := tyX11 17) ok rfl rfl rfl (by decide) rfl (by decide +kernel) rfl rfl (Nat.le_of_ble_eq_true rfl) (Or.inl rfl) ⟨List.mem_of_getElem? (i := 914) (by decide +kernel), rfl⟩ (fun _ => ⟨hnm, rfl⟩) dX11_init_92 ?_
  show cAt D G a (.inr (10, [.ref (a + 1), .ref (a + 2), .ref (a + 3), .ref (a + 4), .int 0, .int 0, .ref (a + 5), .int 0, .ref (a + 6), .ref (a + 7), .int 0, .ref (a + 8), .int 0, .int 0, .int 0, .ref (a + 9), .int (-1), .ref (a + 10)]) :: ((((((((([.inl (cy 12, 723, .inl (fun _ => 0))] ++ [.inl (cy 12, 723, .inl (fun _ => 0))]) ++ [.inl (cy 12, 723, .inl (fun _ => 0))]) ++ [.inl (cy 12, 723, .inl (fun _ => 0))]) ++ [.inl (cy 12, 40, .inl (fun _ => 0))]) ++ [.inl (cy 12, 240, .inl (fun _ => 0))]) ++ [.inl (cy 12, 2400, .inl (fun _ => 0))]) ++ [.inl (cy 12, 80, .inl (fun _ => 0))]) ++ [.inl (cy 12, 58, .inl (fun _ => 0))]) ++ [.inl (cy 12, 40, .inl (fun _ => 0))])) 10 5750 95 [(0, .ref a)] []
  refine c_aload_n ok 0 dX11_init_95 rfl ?_
  refine c_get (ci := 10) (q := 0) (j := 0) (v := .ref (a + 1)) ok rfl rfl rfl (by decide) rfl rfl (Or.inl rfl) ⟨List.mem_of_getElem? (i := 897) (by decide +kernel), rfl⟩ dX11_init_96 ?_
  refine c_sipush ok 229 dX11_init_99 rfl ?_
  refine c_bipush ok 70 dX11_init_102 rfl ?_
  refine c_iast (q := 1) (N := 723) (i := 229) ok rfl rfl (by omega) (by omega) dX11_init_104 ?_
  refine c_iconst ok 0 dX11_init_105 rfl ?_
  refine c_istore_n ok [(1, .int (nI 0)), (0, .ref a)] dX11_init_106 (by decide) rfl ?_
  exact outer 4 0 (by omega)
end CI6

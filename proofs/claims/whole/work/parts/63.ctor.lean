/-! ===== the constructors ===== -/
def cBackend (_ : Nat) : List va_E := [.inr (0, [.int 0, .int 0, .int 0, .int 0, .int 0, .int 0, .int 0, .int 0, .int 0, .int 0, .int 0, .int 0, .int 0, .int 0])]
def cTarget (_ : Nat) : List va_E := [.inr (6, [.int 0, .int 0, .int 0, .int 0, .int 0])]
def cText (cy : Nat → ClassId) (a : Nat) : List va_E := [.inr (7, [.ref (a + 1), .int 0]), .inl (cy 11, 40, .inl (fun _ => 0))]
def kpF (k : Nat) : Nat → Int32 := fun j => if j < k then -1 else 0
def cService (cy : Nat → ClassId) (a : Nat) : List va_E := [.inr (5, [.int 0, .int 3, .int 5, .int 50, .int 20, .int 300, .int 0, .int 0, .ref (a + 1), .ref (a + 2)]), .inl (cy 12, 3, .inl (fun _ => 0)), .inl (cy 12, 10, .inl (kpF 10))]
def cTrail (cy : Nat → ClassId) (a : Nat) : List va_E := .inr (8, [.ref (a + 1), .int 0]) :: .inl (cy 17, 4, .inr (.inr (.inr (.inr (fun i => if i < 4 then some (a + 2 + i) else none))))) :: List.replicate 4 (.inl (cy 12, 4, .inl (fun _ => 0)))
def rfF (b d k : Nat) : Nat → Option Nat := fun j => if j < k then some (b + d * j) else none
def cRule (cy : Nat → ClassId) (a : Nat) : List va_E := .inr (3, [.ref (a + 1), .int 0, .int 9, .ref (a + 3), .int 0, .int 1, .int (-1)]) :: (cText cy (a + 1) ++ (.inl (cy 16, 3, .inr (.inr (.inr (.inr (rfF (a + 4) 1 3))))) :: List.replicate 3 (.inr (6, [.int 0, .int 0, .int 0, .int 0, .int 0]))))
def cReader (cy : Nat → ClassId) (a tx : Nat) : List va_E := .inr (4, [.ref tx, .ref (a + 1), .int 0]) :: cRule cy (a + 1)
def cRecording (cy : Nat → ClassId) (a : Nat) : List va_E := .inr (2, [.ref (a + 1), .ref (a + 2), .ref (a + 3), .ref (a + 4), .ref (a + 5), .int 0, .int 0]) :: List.replicate 5 (.inl (cy 12, 60, .inl (fun _ => 0)))
section CI3
variable {D : va_G} {cy : Nat → ClassId}
theorem n_X9_init (l : Launch) (D : va_G) (cy : Nat → ClassId) {a : Nat} {e0 : List va_E} : cMet l D cy yX9_init cX9_init 1 1 20 0 0 [] a e0 e0 := by
  refine cMet.of (by decide +kernel) RX9 rfl [(0, .ref a)] (fun h => h) (Nat.le_of_ble_eq_true rfl) (fun G ok hnm hret hQ => ?_)
  refine c_aload_n ok 0 dX9_init_0 rfl ?_
  refine c_obj ok ⟨List.mem_of_getElem? (i := 120) (by decide +kernel), rfl⟩ ⟨List.mem_of_getElem? (i := 80) (by decide +kernel), rfl⟩ ⟨List.mem_of_getElem? (i := 81) (by decide +kernel), rfl⟩ (by decide) (by decide) (by decide) dX9_init_1 ?_
  exact c_vret ok hret hQ rfl dX9_init_4
theorem n_X0_init (l : Launch) (D : va_G) (cy : Nat → ClassId) {a : Nat} : cMet l D cy yX0_init cX0_init 1 2 40 0 0 [] a [.inr (0, [.int 0, .int 0, .int 0, .int 0, .int 0, .int 0, .int 0, .int 0, .int 0, .int 0, .int 0, .int 0, .int 0, .int 0])] (cBackend a) := by
  refine cMet.of (by decide +kernel) RX0 rfl [(0, .ref a)] (fun h => h) (Nat.le_of_ble_eq_true rfl) (fun G ok hnm hret hQ => ?_)
  refine c_aload_n ok 0 dX0_init_0 rfl ?_
  refine c_init (q := 0) (np := 0) (y := yX9_init) (ds0 := []) ok [] (n_X9_init _ D cy) rfl rfl rfl ⟨List.mem_of_getElem? (i := 119) (by decide +kernel), rfl⟩ ⟨List.mem_of_getElem? (i := 64) (by decide +kernel), rfl⟩ rfl ⟨List.mem_of_getElem? (i := 118) (by decide +kernel), rfl⟩ (by decide +kernel) rfl ⟨by decide, by decide⟩ ⟨by decide, by decide⟩ (Or.inr ⟨"MeshRouter", ⟨List.mem_of_getElem? (i := 117) (by decide +kernel), rfl⟩⟩) rfl (by decide) dX0_init_1 ?_
  show cAt D G a (.inr (0, [.int 0, .int 0, .int 0, .int 0, .int 0, .int 0, .int 0, .int 0, .int 0, .int 0, .int 0, .int 0, .int 0, .int 0]) :: []) 0 0 4 [(0, .ref a)] []
  exact c_vret ok hret hQ rfl dX0_init_4
theorem n_X6_init (l : Launch) (D : va_G) (cy : Nat → ClassId) {a : Nat} : cMet l D cy yX6_init cX6_init 1 2 40 0 0 [] a [.inr (6, [.int 0, .int 0, .int 0, .int 0, .int 0])] (cTarget a) := by
  refine cMet.of (by decide +kernel) RX6 rfl [(0, .ref a)] (fun h => h) (Nat.le_of_ble_eq_true rfl) (fun G ok hnm hret hQ => ?_)
  refine c_aload_n ok 0 dX6_init_0 rfl ?_
  refine c_init (q := 0) (np := 0) (y := yX9_init) (ds0 := []) ok [] (n_X9_init _ D cy) rfl rfl rfl ⟨List.mem_of_getElem? (i := 119) (by decide +kernel), rfl⟩ ⟨List.mem_of_getElem? (i := 64) (by decide +kernel), rfl⟩ rfl ⟨List.mem_of_getElem? (i := 118) (by decide +kernel), rfl⟩ (by decide +kernel) rfl ⟨by decide, by decide⟩ ⟨by decide, by decide⟩ (Or.inr ⟨"MeshRouter", ⟨List.mem_of_getElem? (i := 265) (by decide +kernel), rfl⟩⟩) rfl (by decide) dX6_init_1 ?_
  show cAt D G a (.inr (6, [.int 0, .int 0, .int 0, .int 0, .int 0]) :: []) 0 0 4 [(0, .ref a)] []
  exact c_vret ok hret hQ rfl dX6_init_4
theorem n_X7_init (l : Launch) (D : va_G) (cy : Nat → ClassId) {a : Nat} : cMet l D cy yX7_init cX7_init 1 1 20 1 40 [] a [.inr (7, [.null, .int 0])] (cText cy a) := by
  refine cMet.of (by decide +kernel) RX7 rfl [(0, .ref a)] (fun h => h) (Nat.le_of_ble_eq_true rfl) (fun G ok hnm hret hQ => ?_)
  refine c_aload_n ok 0 dX7_init_0 rfl ?_
  refine c_obj ok ⟨List.mem_of_getElem? (i := 248) (by decide +kernel), rfl⟩ ⟨List.mem_of_getElem? (i := 80) (by decide +kernel), rfl⟩ ⟨List.mem_of_getElem? (i := 81) (by decide +kernel), rfl⟩ (by decide) (by decide) (by decide) dX7_init_1 ?_
  refine c_aload_n ok 0 dX7_init_4 rfl ?_
  refine c_bipush ok (40) dX7_init_5 rfl ?_
  refine c_newa (kd := 11) (t0 := 0) (N := 40) ok rfl (Or.inr rfl) ⟨List.mem_of_getElem? (i := 258) (by decide +kernel), rfl⟩ (by decide) (by decide) (by decide) (by decide) (by decide) dX7_init_7 ?_
  show cAt D G a (.inr (7, [.null, .int 0]) :: [.inl (cy 11, 40, .inl (fun _ => 0))]) 1 40 9 [(0, .ref a)] [.ref (a + 1), .ref a]
  refine c_putf (ci := 7) (q := 0) (j := 0) (v := .ref (a + 1)) (ty := tyX7 0) ok rfl rfl rfl (by decide) rfl (by decide +kernel) rfl rfl (Nat.le_of_ble_eq_true rfl) (Or.inl rfl) ⟨List.mem_of_getElem? (i := 249) (by decide +kernel), rfl⟩ (fun _ => ⟨hnm, rfl⟩) dX7_init_9 ?_
  show cAt D G a (.inr (7, [.ref (a + 1), .int 0]) :: [.inl (cy 11, 40, .inl (fun _ => 0))]) 1 40 12 [(0, .ref a)] []
  exact c_vret ok hret hQ rfl dX7_init_12
theorem n_X8_init (l : Launch) (D : va_G) (cy : Nat → ClassId) {a : Nat} : cMet l D cy yX8_init cX8_init 1 1 20 5 20 [] a [.inr (8, [.null, .int 0])] (cTrail cy a) := by
  refine cMet.of (by decide +kernel) RX8 rfl [(0, .ref a)] (fun h => h) (Nat.le_of_ble_eq_true rfl) (fun G ok hnm hret hQ => ?_)
  refine c_aload_n ok 0 dX8_init_0 rfl ?_
  refine c_obj ok ⟨List.mem_of_getElem? (i := 99) (by decide +kernel), rfl⟩ ⟨List.mem_of_getElem? (i := 80) (by decide +kernel), rfl⟩ ⟨List.mem_of_getElem? (i := 81) (by decide +kernel), rfl⟩ (by decide) (by decide) (by decide) dX8_init_1 ?_
  refine c_aload_n ok 0 dX8_init_4 rfl ?_
  refine c_iconst ok (4) dX8_init_5 rfl ?_
  refine c_iconst ok (4) dX8_init_6 rfl ?_
  refine c_mna ok ⟨List.mem_of_getElem? (i := 100) (by decide +kernel), rfl⟩ ⟨List.mem_of_getElem? (i := 101) (by decide +kernel), rfl⟩ ⟨List.mem_of_getElem? (i := 112) (by decide +kernel), rfl⟩ (by decide) (by decide) dX8_init_7 ?_
  show cAt D G a (.inr (8, [.null, .int 0]) :: (.inl (cy 17, 4, .inr (.inr (.inr (.inr (fun i => if i < 4 then some (a + 2 + i) else none))))) :: List.replicate 4 (.inl (cy 12, 4, .inl (fun _ => 0))))) 5 20 11 [(0, .ref a)] [.ref (a + 1), .ref a]
  refine c_putf (ci := 8) (q := 0) (j := 0) (v := .ref (a + 1)) (ty := tyX8 0) ok rfl rfl rfl (by decide) rfl (by decide +kernel) rfl rfl (Nat.le_of_ble_eq_true rfl) (Or.inl rfl) ⟨List.mem_of_getElem? (i := 102) (by decide +kernel), rfl⟩ (fun _ => ⟨hnm, rfl⟩) dX8_init_11 ?_
  show cAt D G a (.inr (8, [.ref (a + 1), .int 0]) :: (.inl (cy 17, 4, .inr (.inr (.inr (.inr (fun i => if i < 4 then some (a + 2 + i) else none))))) :: List.replicate 4 (.inl (cy 12, 4, .inl (fun _ => 0))))) 5 20 14 [(0, .ref a)] []
  exact c_vret ok hret hQ rfl dX8_init_14
theorem n_X2_init (l : Launch) (D : va_G) (cy : Nat → ClassId) {a : Nat} : cMet l D cy yX2_init cX2_init 1 1 20 5 300 [] a [.inr (2, [.null, .null, .null, .null, .null, .int 0, .int 0])] (cRecording cy a) := by
  refine cMet.of (by decide +kernel) RX2 rfl [(0, .ref a)] (fun h => h) (Nat.le_of_ble_eq_true rfl) (fun G ok hnm hret hQ => ?_)
  refine c_aload_n ok 0 dX2_init_0 rfl ?_
  refine c_obj ok ⟨List.mem_of_getElem? (i := 382) (by decide +kernel), rfl⟩ ⟨List.mem_of_getElem? (i := 80) (by decide +kernel), rfl⟩ ⟨List.mem_of_getElem? (i := 81) (by decide +kernel), rfl⟩ (by decide) (by decide) (by decide) dX2_init_1 ?_
  refine c_aload_n ok 0 dX2_init_4 rfl ?_
  refine c_bipush ok (60) dX2_init_5 rfl ?_
  refine c_newa (kd := 12) (t0 := 1) (N := 60) ok rfl (Or.inl rfl) ⟨List.mem_of_getElem? (i := 112) (by decide +kernel), rfl⟩ (by decide) (by decide) (by decide) (by decide) (by decide) dX2_init_7 ?_
  show cAt D G a (.inr (2, [.null, .null, .null, .null, .null, .int 0, .int 0]) :: [.inl (cy 12, 60, .inl (fun _ => 0))]) 1 60 9 [(0, .ref a)] [.ref (a + 1), .ref a]
  refine c_putf (ci := 2) (q := 0) (j := 0) (v := .ref (a + 1)) (ty := tyX2 0) ok rfl rfl rfl (by decide) rfl (by decide +kernel) rfl rfl (Nat.le_of_ble_eq_true rfl) (Or.inl rfl) ⟨List.mem_of_getElem? (i := 383) (by decide +kernel), rfl⟩ (fun _ => ⟨hnm, rfl⟩) dX2_init_9 ?_
  show cAt D G a (.inr (2, [.ref (a + 1), .null, .null, .null, .null, .int 0, .int 0]) :: [.inl (cy 12, 60, .inl (fun _ => 0))]) 1 60 12 [(0, .ref a)] []
  refine c_aload_n ok 0 dX2_init_12 rfl ?_
  refine c_bipush ok (60) dX2_init_13 rfl ?_
  refine c_newa (kd := 12) (t0 := 1) (N := 60) ok rfl (Or.inl rfl) ⟨List.mem_of_getElem? (i := 112) (by decide +kernel), rfl⟩ (by decide) (by decide) (by decide) (by decide) (by decide) dX2_init_15 ?_
  show cAt D G a (.inr (2, [.ref (a + 1), .null, .null, .null, .null, .int 0, .int 0]) :: ([.inl (cy 12, 60, .inl (fun _ => 0))] ++ [.inl (cy 12, 60, .inl (fun _ => 0))])) 2 120 17 [(0, .ref a)] [.ref (a + 2), .ref a]
  refine c_putf (ci := 2) (q := 0) (j := 1) (v := .ref (a + 2)) (ty := tyX2 1) ok rfl rfl rfl (by decide) rfl (by decide +kernel) rfl rfl (Nat.le_of_ble_eq_true rfl) (Or.inl rfl) ⟨List.mem_of_getElem? (i := 385) (by decide +kernel), rfl⟩ (fun _ => ⟨hnm, rfl⟩) dX2_init_17 ?_
  show cAt D G a (.inr (2, [.ref (a + 1), .ref (a + 2), .null, .null, .null, .int 0, .int 0]) :: ([.inl (cy 12, 60, .inl (fun _ => 0))] ++ [.inl (cy 12, 60, .inl (fun _ => 0))])) 2 120 20 [(0, .ref a)] []
  refine c_aload_n ok 0 dX2_init_20 rfl ?_
  refine c_bipush ok (60) dX2_init_21 rfl ?_
  refine c_newa (kd := 12) (t0 := 1) (N := 60) ok rfl (Or.inl rfl) ⟨List.mem_of_getElem? (i := 112) (by decide +kernel), rfl⟩ (by decide) (by decide) (by decide) (by decide) (by decide) dX2_init_23 ?_
  show cAt D G a (.inr (2, [.ref (a + 1), .ref (a + 2), .null, .null, .null, .int 0, .int 0]) :: (([.inl (cy 12, 60, .inl (fun _ => 0))] ++ [.inl (cy 12, 60, .inl (fun _ => 0))]) ++ [.inl (cy 12, 60, .inl (fun _ => 0))])) 3 180 25 [(0, .ref a)] [.ref (a + 3), .ref a]
  refine c_putf (ci := 2) (q := 0) (j := 2) (v := .ref (a + 3)) (ty := tyX2 2) ok rfl rfl rfl (by decide) rfl (by decide +kernel) rfl rfl (Nat.le_of_ble_eq_true rfl) (Or.inl rfl) ⟨List.mem_of_getElem? (i := 387) (by decide +kernel), rfl⟩ (fun _ => ⟨hnm, rfl⟩) dX2_init_25 ?_
  show cAt D G a (.inr (2, [.ref (a + 1), .ref (a + 2), .ref (a + 3), .null, .null, .int 0, .int 0]) :: (([.inl (cy 12, 60, .inl (fun _ => 0))] ++ [.inl (cy 12, 60, .inl (fun _ => 0))]) ++ [.inl (cy 12, 60, .inl (fun _ => 0))])) 3 180 28 [(0, .ref a)] []
  refine c_aload_n ok 0 dX2_init_28 rfl ?_
  refine c_bipush ok (60) dX2_init_29 rfl ?_
  refine c_newa (kd := 12) (t0 := 1) (N := 60) ok rfl (Or.inl rfl) ⟨List.mem_of_getElem? (i := 112) (by decide +kernel), rfl⟩ (by decide) (by decide) (by decide) (by decide) (by decide) dX2_init_31 ?_
  show cAt D G a (.inr (2, [.ref (a + 1), .ref (a + 2), .ref (a + 3), .null, .null, .int 0, .int 0]) :: ((([.inl (cy 12, 60, .inl (fun _ => 0))] ++ [.inl (cy 12, 60, .inl (fun _ => 0))]) ++ [.inl (cy 12, 60, .inl (fun _ => 0))]) ++ [.inl (cy 12, 60, .inl (fun _ => 0))])) 4 240 33 [(0, .ref a)] [.ref (a + 4), .ref a]
  refine c_putf (ci := 2) (q := 0) (j := 3) (v := .ref (a + 4)) (ty := tyX2 3) ok rfl rfl rfl (by decide) rfl (by decide +kernel) rfl rfl (Nat.le_of_ble_eq_true rfl) (Or.inl rfl) ⟨List.mem_of_getElem? (i := 389) (by decide +kernel), rfl⟩ (fun _ => ⟨hnm, rfl⟩) dX2_init_33 ?_
  show cAt D G a (.inr (2, [.ref (a + 1), .ref (a + 2), .ref (a + 3), .ref (a + 4), .null, .int 0, .int 0]) :: ((([.inl (cy 12, 60, .inl (fun _ => 0))] ++ [.inl (cy 12, 60, .inl (fun _ => 0))]) ++ [.inl (cy 12, 60, .inl (fun _ => 0))]) ++ [.inl (cy 12, 60, .inl (fun _ => 0))])) 4 240 36 [(0, .ref a)] []
  refine c_aload_n ok 0 dX2_init_36 rfl ?_
  refine c_bipush ok (60) dX2_init_37 rfl ?_
  refine c_newa (kd := 12) (t0 := 1) (N := 60) ok rfl (Or.inl rfl) ⟨List.mem_of_getElem? (i := 112) (by decide +kernel), rfl⟩ (by decide) (by decide) (by decide) (by decide) (by decide) dX2_init_39 ?_
  show cAt D G a (.inr (2, [.ref (a + 1), .ref (a + 2), .ref (a + 3), .ref (a + 4), .null, .int 0, .int 0]) :: (((([.inl (cy 12, 60, .inl (fun _ => 0))] ++ [.inl (cy 12, 60, .inl (fun _ => 0))]) ++ [.inl (cy 12, 60, .inl (fun _ => 0))]) ++ [.inl (cy 12, 60, .inl (fun _ => 0))]) ++ [.inl (cy 12, 60, .inl (fun _ => 0))])) 5 300 41 [(0, .ref a)] [.ref (a + 5), .ref a]
  refine c_putf (ci := 2) (q := 0) (j := 4) (v := .ref (a + 5)) (ty := tyX2 4) ok rfl rfl rfl (by decide) rfl (by decide +kernel) rfl rfl (Nat.le_of_ble_eq_true rfl) (Or.inl rfl) ⟨List.mem_of_getElem? (i := 390) (by decide +kernel), rfl⟩ (fun _ => ⟨hnm, rfl⟩) dX2_init_41 ?_
  show cAt D G a (.inr (2, [.ref (a + 1), .ref (a + 2), .ref (a + 3), .ref (a + 4), .ref (a + 5), .int 0, .int 0]) :: (((([.inl (cy 12, 60, .inl (fun _ => 0))] ++ [.inl (cy 12, 60, .inl (fun _ => 0))]) ++ [.inl (cy 12, 60, .inl (fun _ => 0))]) ++ [.inl (cy 12, 60, .inl (fun _ => 0))]) ++ [.inl (cy 12, 60, .inl (fun _ => 0))])) 5 300 44 [(0, .ref a)] []
  exact c_vret ok hret hQ rfl dX2_init_44
theorem n_X5_init (l : Launch) (D : va_G) (cy : Nat → ClassId) {a : Nat} : cMet l D cy yX5_init cX5_init 2 1 20 2 13 [] a [.inr (5, [.int 0, .int 0, .int 0, .int 0, .int 0, .int 0, .int 0, .int 0, .null, .null])] (cService cy a) := by
  refine cMet.of (by decide +kernel) RX5 rfl [(0, .ref a)] (fun h => h) (Nat.le_of_ble_eq_true rfl) (fun G ok hnm hret hQ => ?_)
  refine c_aload_n ok 0 dX5_init_0 rfl ?_
  refine c_obj ok ⟨List.mem_of_getElem? (i := 190) (by decide +kernel), rfl⟩ ⟨List.mem_of_getElem? (i := 80) (by decide +kernel), rfl⟩ ⟨List.mem_of_getElem? (i := 81) (by decide +kernel), rfl⟩ (by decide) (by decide) (by decide) dX5_init_1 ?_
  refine c_aload_n ok 0 dX5_init_4 rfl ?_
  refine c_iconst ok (0) dX5_init_5 rfl ?_
  refine c_putf (ci := 5) (q := 0) (j := 0) (v := .int 0) (ty := tyX5 0) ok rfl rfl rfl (by decide) rfl (by decide +kernel) rfl rfl (Nat.le_of_ble_eq_true rfl) (Or.inl rfl) ⟨List.mem_of_getElem? (i := 191) (by decide +kernel), rfl⟩ (fun h => by cases h) dX5_init_6 ?_
  show cAt D G a (.inr (5, [.int 0, .int 0, .int 0, .int 0, .int 0, .int 0, .int 0, .int 0, .null, .null]) :: []) 0 0 9 [(0, .ref a)] []
  refine c_aload_n ok 0 dX5_init_9 rfl ?_
  refine c_iconst ok (3) dX5_init_10 rfl ?_
  refine c_putf (ci := 5) (q := 0) (j := 1) (v := .int 3) (ty := tyX5 1) ok rfl rfl rfl (by decide) rfl (by decide +kernel) rfl rfl (Nat.le_of_ble_eq_true rfl) (Or.inl rfl) ⟨List.mem_of_getElem? (i := 194) (by decide +kernel), rfl⟩ (fun h => by cases h) dX5_init_11 ?_
  show cAt D G a (.inr (5, [.int 0, .int 3, .int 0, .int 0, .int 0, .int 0, .int 0, .int 0, .null, .null]) :: []) 0 0 14 [(0, .ref a)] []
  refine c_aload_n ok 0 dX5_init_14 rfl ?_
  refine c_iconst ok (5) dX5_init_15 rfl ?_
  refine c_putf (ci := 5) (q := 0) (j := 2) (v := .int 5) (ty := tyX5 2) ok rfl rfl rfl (by decide) rfl (by decide +kernel) rfl rfl (Nat.le_of_ble_eq_true rfl) (Or.inl rfl) ⟨List.mem_of_getElem? (i := 197) (by decide +kernel), rfl⟩ (fun h => by cases h) dX5_init_16 ?_
  show cAt D G a (.inr (5, [.int 0, .int 3, .int 5, .int 0, .int 0, .int 0, .int 0, .int 0, .null, .null]) :: []) 0 0 19 [(0, .ref a)] []
  refine c_aload_n ok 0 dX5_init_19 rfl ?_
  refine c_bipush ok (50) dX5_init_20 rfl ?_
  refine c_putf (ci := 5) (q := 0) (j := 3) (v := .int 50) (ty := tyX5 3) ok rfl rfl rfl (by decide) rfl (by decide +kernel) rfl rfl (Nat.le_of_ble_eq_true rfl) (Or.inl rfl) ⟨List.mem_of_getElem? (i := 200) (by decide +kernel), rfl⟩ (fun h => by cases h) dX5_init_22 ?_
  show cAt D G a (.inr (5, [.int 0, .int 3, .int 5, .int 50, .int 0, .int 0, .int 0, .int 0, .null, .null]) :: []) 0 0 25 [(0, .ref a)] []
  refine c_aload_n ok 0 dX5_init_25 rfl ?_
  refine c_bipush ok (20) dX5_init_26 rfl ?_
  refine c_putf (ci := 5) (q := 0) (j := 4) (v := .int 20) (ty := tyX5 4) ok rfl rfl rfl (by decide) rfl (by decide +kernel) rfl rfl (Nat.le_of_ble_eq_true rfl) (Or.inl rfl) ⟨List.mem_of_getElem? (i := 203) (by decide +kernel), rfl⟩ (fun h => by cases h) dX5_init_28 ?_
  show cAt D G a (.inr (5, [.int 0, .int 3, .int 5, .int 50, .int 20, .int 0, .int 0, .int 0, .null, .null]) :: []) 0 0 31 [(0, .ref a)] []
  refine c_aload_n ok 0 dX5_init_31 rfl ?_
  refine c_sipush ok (300) dX5_init_32 rfl ?_
  refine c_putf (ci := 5) (q := 0) (j := 5) (v := .int 300) (ty := tyX5 5) ok rfl rfl rfl (by decide) rfl (by decide +kernel) rfl rfl (Nat.le_of_ble_eq_true rfl) (Or.inl rfl) ⟨List.mem_of_getElem? (i := 206) (by decide +kernel), rfl⟩ (fun h => by cases h) dX5_init_35 ?_
  show cAt D G a (.inr (5, [.int 0, .int 3, .int 5, .int 50, .int 20, .int 300, .int 0, .int 0, .null, .null]) :: []) 0 0 38 [(0, .ref a)] []
  refine c_aload_n ok 0 dX5_init_38 rfl ?_
  refine c_iconst ok (3) dX5_init_39 rfl ?_
  refine c_newa (kd := 12) (t0 := 1) (N := 3) ok rfl (Or.inl rfl) ⟨List.mem_of_getElem? (i := 112) (by decide +kernel), rfl⟩ (by decide) (by decide) (by decide) (by decide) (by decide) dX5_init_40 ?_
  show cAt D G a (.inr (5, [.int 0, .int 3, .int 5, .int 50, .int 20, .int 300, .int 0, .int 0, .null, .null]) :: [.inl (cy 12, 3, .inl (fun _ => 0))]) 1 3 42 [(0, .ref a)] [.ref (a + 1), .ref a]
  refine c_putf (ci := 5) (q := 0) (j := 8) (v := .ref (a + 1)) (ty := tyX5 8) ok rfl rfl rfl (by decide) rfl (by decide +kernel) rfl rfl (Nat.le_of_ble_eq_true rfl) (Or.inl rfl) ⟨List.mem_of_getElem? (i := 212) (by decide +kernel), rfl⟩ (fun _ => ⟨hnm, rfl⟩) dX5_init_42 ?_
  show cAt D G a (.inr (5, [.int 0, .int 3, .int 5, .int 50, .int 20, .int 300, .int 0, .int 0, .ref (a + 1), .null]) :: [.inl (cy 12, 3, .inl (fun _ => 0))]) 1 3 45 [(0, .ref a)] []
  refine c_aload_n ok 0 dX5_init_45 rfl ?_
  refine c_bipush ok (10) dX5_init_46 rfl ?_
  refine c_newa (kd := 12) (t0 := 1) (N := 10) ok rfl (Or.inl rfl) ⟨List.mem_of_getElem? (i := 112) (by decide +kernel), rfl⟩ (by decide) (by decide) (by decide) (by decide) (by decide) dX5_init_48 ?_
  show cAt D G a (.inr (5, [.int 0, .int 3, .int 5, .int 50, .int 20, .int 300, .int 0, .int 0, .ref (a + 1), .null]) :: ([.inl (cy 12, 3, .inl (fun _ => 0))] ++ [.inl (cy 12, 10, .inl (fun _ => 0))])) 2 13 50 [(0, .ref a)] [.ref (a + 2), .ref a]
  refine c_putf (ci := 5) (q := 0) (j := 9) (v := .ref (a + 2)) (ty := tyX5 9) ok rfl rfl rfl (by decide) rfl (by decide +kernel) rfl rfl (Nat.le_of_ble_eq_true rfl) (Or.inl rfl) ⟨List.mem_of_getElem? (i := 214) (by decide +kernel), rfl⟩ (fun _ => ⟨hnm, rfl⟩) dX5_init_50 ?_
  show cAt D G a (.inr (5, [.int 0, .int 3, .int 5, .int 50, .int 20, .int 300, .int 0, .int 0, .ref (a + 1), .ref (a + 2)]) :: ([.inl (cy 12, 3, .inl (fun _ => 0))] ++ [.inl (cy 12, 10, .inl (fun _ => 0))])) 2 13 53 [(0, .ref a)] []
  refine c_iconst ok (0) dX5_init_53 rfl ?_
  refine c_istore_n ok [(1, .int 0), (0, .ref a)] dX5_init_54 (by decide) rfl ?_
  have loop : ∀ d j, j + d = 10 → cAt D G a (.inr (5, [.int 0, .int 3, .int 5, .int 50, .int 20, .int 300, .int 0, .int 0, .ref (a + 1), .ref (a + 2)]) :: [.inl (cy 12, 3, .inl (fun _ => 0)), .inl (cy 12, 10, .inl (kpF j))]) 2 13 55 [(1, .int (nI j)), (0, .ref a)] [] := by
    intro d
    induction d with
    | zero =>
      intro j hj
      have : j = 10 := by omega
      subst this
      refine c_iload_n ok 0 dX5_init_55 rfl ?_
      refine c_bipush ok 10 dX5_init_56 rfl ?_
      refine c_icmp_ge ok 74 dX5_init_58 rfl (fun _ => ?_) (fun h => absurd (by decide) h)
      exact c_vret ok hret hQ rfl dX5_init_74
    | succ d ih =>
      intro j hj
      refine c_iload_n ok 0 dX5_init_55 rfl ?_
      refine c_bipush ok 10 dX5_init_56 rfl ?_
      refine c_icmp_ge ok 74 dX5_init_58 rfl (fun h => absurd ((n_le (a := 10) (by omega) (by omega)).mp h) (by omega)) (fun _ => ?_)
      refine c_aload_n ok 1 dX5_init_61 rfl ?_
      refine c_get (ci := 5) (q := 0) (j := 9) (v := .ref (a + 2)) ok rfl rfl rfl (by decide) rfl rfl (Or.inl rfl) ⟨List.mem_of_getElem? (i := 214) (by decide +kernel), rfl⟩ dX5_init_62 ?_
      refine c_iload_n ok 0 dX5_init_65 rfl ?_
      refine c_iconst ok (-1) dX5_init_66 rfl ?_
      refine c_iast (q := 2) (N := 10) (i := j) ok rfl rfl (by omega) (by omega) dX5_init_67 ?_
      refine c_iinc ok [(1, .int (nI (j + 1))), (0, .ref a)] 0 dX5_init_68 rfl (d := 1) rfl (by decide) (by rw [nI_1]; rfl) ?_
      refine c_goto ok 55 dX5_init_71 rfl ?_
      have h := ih (j + 1) (by omega)
      have e : uV (kpF j) j (-1) = kpF (j + 1) := by
        funext q
        unfold uV kpF
        by_cases h1 : q = j
        · rw [if_pos h1, if_pos (by omega)]
        · rw [if_neg h1]
          by_cases h2 : q < j
          · rw [if_pos h2, if_pos (by omega)]
          · rw [if_neg h2, if_neg (by omega)]
      rw [← e] at h
      exact h
  have e0 : kpF 0 = fun _ => 0 := by
    funext q
    unfold kpF
    rw [if_neg (by omega)]
  have h0 := loop 10 0 (by omega)
  rw [e0] at h0
  exact h0
end CI3

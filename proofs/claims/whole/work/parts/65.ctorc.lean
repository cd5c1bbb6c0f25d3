/-! ===== the constructors of a mesh, of the class, of the reference ===== -/
def svs (cy : Nat → ClassId) (a : Nat) : Nat → List va_E
  | 0 => []
  | i + 1 => svs cy a i ++ cService cy (a + (3 * i + 22))
def rus (cy : Nat → ClassId) (a : Nat) : Nat → List va_E
  | 0 => []
  | i + 1 => rus cy a i ++ cRule cy (a + (7 * i + 34))
theorem svs_n {cy : Nat → ClassId} {a : Nat} : ∀ i, (svs cy a i).length = 3 * i := by
  intro i
  induction i with
  | zero => rfl
  | succ i ih =>
    unfold svs
    rw [List.length_append, ih]
    simp only [cService, List.length_cons, List.length_nil]
    omega
theorem rus_n {cy : Nat → ClassId} {a : Nat} : ∀ i, (rus cy a i).length = 7 * i := by
  intro i
  induction i with
  | zero => rfl
  | succ i ih =>
    unfold rus
    rw [List.length_append, ih]
    simp only [cRule, cText, List.length_cons, List.length_nil, List.length_append, List.length_replicate]
    omega
def cMesh (cy : Nat → ClassId) (a : Nat) : List va_E := (.inr (1, [.ref (a + 1), .int 0, .ref (a + 2), .ref (a + 3), .int 0, .int 70, .int 0, .int 0, .int 0, .int 0, .int 0, .int 0, .int 0, .int 0, .int 0, .ref (a + 4)]) :: (.inl (cy 13, 12, .inr (.inr (.inr (.inr (rfF (a + 10) 1 12))))) :: (.inl (cy 15, 4, .inr (.inr (.inr (.inr (rfF (a + 22) 3 4))))) :: (.inl (cy 14, 8, .inr (.inr (.inr (.inr (rfF (a + 34) 7 8))))) :: (cTrail cy (a + 4) ++ (List.replicate 12 (.inr (0, [.int 0, .int 0, .int 0, .int 0, .int 0, .int 0, .int 0, .int 0, .int 0, .int 0, .int 0, .int 0, .int 0, .int 0])) ++ (svs cy a 4 ++ rus cy a 8)))))))
section CI5
variable {D : va_G} {cy : Nat → ClassId}
theorem n_X1_init (l : Launch) (D : va_G) (cy : Nat → ClassId) {a : Nat} : cMet l D cy yX1_init cX1_init 2 4 81 89 842 [] a [.inr (1, [.null, .int 0, .null, .null, .int 0, .int 0, .int 0, .int 0, .int 0, .int 0, .int 0, .int 0, .int 0, .int 0, .int 0, .null])] (cMesh cy a) := by
  refine cMet.of (by decide +kernel) RX1 rfl [(0, .ref a)] (fun h => h) (Nat.le_of_ble_eq_true rfl) (fun G ok hnm hret hQ => ?_)
  have e2 : ∀ lvx, lvx = [(1, Value.int (nI 8)), (0, .ref a)] → True := fun _ _ => trivial
  have l3 : ∀ d j, j + d = 8 → cAt D G a (.inr (1, [.ref (a + 1), .int 0, .ref (a + 2), .ref (a + 3), .int 0, .int 70, .int 0, .int 0, .int 0, .int 0, .int 0, .int 0, .int 0, .int 0, .int 0, .ref (a + 4)]) :: (.inl (cy 13, 12, .inr (.inr (.inr (.inr (rfF (a + 10) 1 12))))) :: (.inl (cy 15, 4, .inr (.inr (.inr (.inr (rfF (a + 22) 3 4))))) :: (.inl (cy 14, 8, .inr (.inr (.inr (.inr (rfF (a + 34) 7 j))))) :: (cTrail cy (a + 4) ++ (List.replicate 12 (.inr (0, [.int 0, .int 0, .int 0, .int 0, .int 0, .int 0, .int 0, .int 0, .int 0, .int 0, .int 0, .int 0, .int 0, .int 0])) ++ (svs cy a 4 ++ rus cy a j))))))) (33 + 7 * j) (306 + 67 * j) 102 [(1, .int (nI j)), (0, .ref a)] [] := by
    intro d
    induction d with
    | zero =>
      intro j hj
      have : j = 8 := by omega
      subst this
      refine c_iload_n ok 0 dX1_init_102 rfl ?_
      refine c_bipush ok 8 dX1_init_103 rfl ?_
      refine c_icmp_ge ok 127 dX1_init_105 rfl (fun _ => ?_) (fun h => absurd (by decide) h)
      exact c_vret ok hret hQ rfl dX1_init_127
    | succ d ih =>
      intro j hj
      have hlen : (.inr (1, [.ref (a + 1), .int 0, .ref (a + 2), .ref (a + 3), .int 0, .int 70, .int 0, .int 0, .int 0, .int 0, .int 0, .int 0, .int 0, .int 0, .int 0, .ref (a + 4)]) :: (.inl (cy 13, 12, .inr (.inr (.inr (.inr (rfF (a + 10) 1 12))))) :: (.inl (cy 15, 4, .inr (.inr (.inr (.inr (rfF (a + 22) 3 4))))) :: (.inl (cy 14, 8, .inr (.inr (.inr (.inr (rfF (a + 34) 7 j))))) :: (cTrail cy (a + 4) ++ (List.replicate 12 (.inr (0, [.int 0, .int 0, .int 0, .int 0, .int 0, .int 0, .int 0, .int 0, .int 0, .int 0, .int 0, .int 0, .int 0, .int 0])) ++ (svs cy a 4 ++ rus cy a j))))))).length = 7 * j + 34 := by
        simp only [cTrail, List.length_cons, List.length_nil, List.length_append, List.length_replicate, svs_n, rus_n]
        omega
      refine c_iload_n ok 0 dX1_init_102 rfl ?_
      refine c_bipush ok 8 dX1_init_103 rfl ?_
      refine c_icmp_ge ok 127 dX1_init_105 rfl (fun h => absurd ((n_le (a := 8) (by omega) (by omega)).mp h) (by omega)) (fun _ => ?_)
      refine c_aload_n ok 1 dX1_init_108 rfl ?_
      refine c_get (ci := 1) (q := 0) (j := 3) (v := .ref (a + 3)) ok rfl rfl rfl (by decide) rfl rfl (Or.inl rfl) ⟨List.mem_of_getElem? (i := 326) (by decide +kernel), rfl⟩ dX1_init_109 ?_
      refine c_iload_n ok 0 dX1_init_112 rfl ?_
      refine c_new (ci := 3) (fs := [.null, .int 0, .int 0, .null, .int 0, .int 0, .int 0]) ok tyX3 tyX3_ok rfl ⟨List.mem_of_getElem? (i := 92) (by decide +kernel), rfl⟩ ⟨List.mem_of_getElem? (i := 238) (by decide +kernel), rfl⟩ ⟨List.mem_of_getElem? (i := 67) (by decide +kernel), rfl⟩ (fun j hj => by rcases (show j = 0 ∨ j = 1 ∨ j = 2 ∨ j = 3 ∨ j = 4 ∨ j = 5 ∨ j = 6 by omega) with rfl | rfl | rfl | rfl | rfl | rfl | rfl <;> rfl) (show 33 + 7 * j + 1 ≤ 89 by omega) (show 306 + 67 * j + 7 ≤ 842 by omega) dX1_init_113 ?_
      rw [hlen]
      refine c_dup ok dX1_init_116 rfl ?_
      refine c_init (q := 7 * j + 34) (np := 0) (y := yX3_init) (ds0 := (.inr (1, [.ref (a + 1), .int 0, .ref (a + 2), .ref (a + 3), .int 0, .int 70, .int 0, .int 0, .int 0, .int 0, .int 0, .int 0, .int 0, .int 0, .int 0, .ref (a + 4)]) :: (.inl (cy 13, 12, .inr (.inr (.inr (.inr (rfF (a + 10) 1 12))))) :: (.inl (cy 15, 4, .inr (.inr (.inr (.inr (rfF (a + 22) 3 4))))) :: (.inl (cy 14, 8, .inr (.inr (.inr (.inr (rfF (a + 34) 7 j))))) :: (cTrail cy (a + 4) ++ (List.replicate 12 (.inr (0, [.int 0, .int 0, .int 0, .int 0, .int 0, .int 0, .int 0, .int 0, .int 0, .int 0, .int 0, .int 0, .int 0, .int 0])) ++ (svs cy a 4 ++ rus cy a j)))))))) ok [] (n_X3_init _ D cy) rfl hlen rfl ⟨List.mem_of_getElem? (i := 241) (by decide +kernel), rfl⟩ ⟨List.mem_of_getElem? (i := 67) (by decide +kernel), rfl⟩ rfl ⟨List.mem_of_getElem? (i := 240) (by decide +kernel), rfl⟩ (by decide +kernel) rfl ⟨by decide, by decide⟩ ⟨show 33 + 7 * j + 1 + 6 ≤ 89 by omega, show 306 + 67 * j + 7 + 60 ≤ 842 by omega⟩ (Or.inl ⟨List.mem_of_getElem? (i := 239) (by decide +kernel), rfl⟩) rfl (Nat.le_of_ble_eq_true rfl) dX1_init_117 ?_
      refine c_aast (q := 3) (qk := 7 * j + 34) (i := j) (N := 8) (t0 := 3) (ci := 3) (vs := [.ref (a + (7 * j + 34) + 1), .int 0, .int 9, .ref (a + (7 * j + 34) + 3), .int 0, .int 1, .int (-1)]) ok rfl rfl ?_ rfl rfl rfl (by omega) (by omega) dX1_init_120 ?_
      · rw [List.getElem?_append_right (by rw [hlen]; exact Nat.le_refl _), hlen, Nat.sub_self]
        rfl
      refine c_iinc ok [(1, .int (nI (j + 1))), (0, .ref a)] 0 dX1_init_121 rfl (d := 1) rfl (by decide) (by rw [nI_1]; rfl) ?_
      refine c_goto ok 102 dX1_init_124 rfl ?_
      refine c_ch (ih (j + 1) (by omega)) ?_ (by omega) (by omega)
      rw [show rus cy a (j + 1) = rus cy a j ++ cRule cy (a + (7 * j + 34)) from rfl, ← List.append_assoc (svs cy a 4), ← List.append_assoc (List.replicate 12 _), ← List.append_assoc (cTrail cy (a + 4)), ← rfF_s (k := j) (x := a + (7 * j + 34)) (by omega)]
      rfl
  have l2 : ∀ d j, j + d = 4 → cAt D G a (.inr (1, [.ref (a + 1), .int 0, .ref (a + 2), .ref (a + 3), .int 0, .int 70, .int 0, .int 0, .int 0, .int 0, .int 0, .int 0, .int 0, .int 0, .int 0, .ref (a + 4)]) :: (.inl (cy 13, 12, .inr (.inr (.inr (.inr (rfF (a + 10) 1 12))))) :: (.inl (cy 15, 4, .inr (.inr (.inr (.inr (rfF (a + 22) 3 j))))) :: (.inl (cy 14, 8, .inr (.inr (.inr (.inr (rfF (a + 34) 7 0))))) :: (cTrail cy (a + 4) ++ (List.replicate 12 (.inr (0, [.int 0, .int 0, .int 0, .int 0, .int 0, .int 0, .int 0, .int 0, .int 0, .int 0, .int 0, .int 0, .int 0, .int 0])) ++ svs cy a j)))))) (21 + 3 * j) (214 + 23 * j) 76 [(1, .int (nI j)), (0, .ref a)] [] := by
    intro d
    induction d with
    | zero =>
      intro j hj
      have : j = 4 := by omega
      subst this
      refine c_iload_n ok 0 dX1_init_76 rfl ?_
      refine c_iconst ok 4 dX1_init_77 rfl ?_
      refine c_icmp_ge ok 100 dX1_init_78 rfl (fun _ => ?_) (fun h => absurd (by decide) h)
      refine c_iconst ok 0 dX1_init_100 rfl ?_
      refine c_istore_n ok [(1, .int (nI 0)), (0, .ref a)] dX1_init_101 (by decide) rfl ?_
      refine c_ch (l3 8 0 (by omega)) ?_ (by omega) (by omega)
      rw [show rus cy a 0 = [] from rfl, List.append_nil]
    | succ d ih =>
      intro j hj
      have hlen : (.inr (1, [.ref (a + 1), .int 0, .ref (a + 2), .ref (a + 3), .int 0, .int 70, .int 0, .int 0, .int 0, .int 0, .int 0, .int 0, .int 0, .int 0, .int 0, .ref (a + 4)]) :: (.inl (cy 13, 12, .inr (.inr (.inr (.inr (rfF (a + 10) 1 12))))) :: (.inl (cy 15, 4, .inr (.inr (.inr (.inr (rfF (a + 22) 3 j))))) :: (.inl (cy 14, 8, .inr (.inr (.inr (.inr (rfF (a + 34) 7 0))))) :: (cTrail cy (a + 4) ++ (List.replicate 12 (.inr (0, [.int 0, .int 0, .int 0, .int 0, .int 0, .int 0, .int 0, .int 0, .int 0, .int 0, .int 0, .int 0, .int 0, .int 0])) ++ svs cy a j)))))).length = 3 * j + 22 := by
        simp only [cTrail, List.length_cons, List.length_nil, List.length_append, List.length_replicate, svs_n, rus_n]
        omega
      refine c_iload_n ok 0 dX1_init_76 rfl ?_
      refine c_iconst ok 4 dX1_init_77 rfl ?_
      refine c_icmp_ge ok 100 dX1_init_78 rfl (fun h => absurd ((n_le (a := 4) (by omega) (by omega)).mp h) (by omega)) (fun _ => ?_)
      refine c_aload_n ok 1 dX1_init_81 rfl ?_
      refine c_get (ci := 1) (q := 0) (j := 2) (v := .ref (a + 2)) ok rfl rfl rfl (by decide) rfl rfl (Or.inl rfl) ⟨List.mem_of_getElem? (i := 324) (by decide +kernel), rfl⟩ dX1_init_82 ?_
      refine c_iload_n ok 0 dX1_init_85 rfl ?_
      refine c_new (ci := 5) (fs := [.int 0, .int 0, .int 0, .int 0, .int 0, .int 0, .int 0, .int 0, .null, .null]) ok tyX5 tyX5_ok rfl ⟨List.mem_of_getElem? (i := 90) (by decide +kernel), rfl⟩ ⟨List.mem_of_getElem? (i := 186) (by decide +kernel), rfl⟩ ⟨List.mem_of_getElem? (i := 66) (by decide +kernel), rfl⟩ (fun j hj => by rcases (show j = 0 ∨ j = 1 ∨ j = 2 ∨ j = 3 ∨ j = 4 ∨ j = 5 ∨ j = 6 ∨ j = 7 ∨ j = 8 ∨ j = 9 by omega) with rfl | rfl | rfl | rfl | rfl | rfl | rfl | rfl | rfl | rfl <;> rfl) (show 21 + 3 * j + 1 ≤ 89 by omega) (show 214 + 23 * j + 10 ≤ 842 by omega) dX1_init_86 ?_
      rw [hlen]
      refine c_dup ok dX1_init_89 rfl ?_
      refine c_init (q := 3 * j + 22) (np := 0) (y := yX5_init) (ds0 := (.inr (1, [.ref (a + 1), .int 0, .ref (a + 2), .ref (a + 3), .int 0, .int 70, .int 0, .int 0, .int 0, .int 0, .int 0, .int 0, .int 0, .int 0, .int 0, .ref (a + 4)]) :: (.inl (cy 13, 12, .inr (.inr (.inr (.inr (rfF (a + 10) 1 12))))) :: (.inl (cy 15, 4, .inr (.inr (.inr (.inr (rfF (a + 22) 3 j))))) :: (.inl (cy 14, 8, .inr (.inr (.inr (.inr (rfF (a + 34) 7 0))))) :: (cTrail cy (a + 4) ++ (List.replicate 12 (.inr (0, [.int 0, .int 0, .int 0, .int 0, .int 0, .int 0, .int 0, .int 0, .int 0, .int 0, .int 0, .int 0, .int 0, .int 0])) ++ svs cy a j))))))) ok [] (n_X5_init _ D cy) rfl hlen rfl ⟨List.mem_of_getElem? (i := 189) (by decide +kernel), rfl⟩ ⟨List.mem_of_getElem? (i := 66) (by decide +kernel), rfl⟩ rfl ⟨List.mem_of_getElem? (i := 188) (by decide +kernel), rfl⟩ (by decide +kernel) rfl ⟨by decide, by decide⟩ ⟨show 21 + 3 * j + 1 + 2 ≤ 89 by omega, show 214 + 23 * j + 10 + 13 ≤ 842 by omega⟩ (Or.inl ⟨List.mem_of_getElem? (i := 187) (by decide +kernel), rfl⟩) rfl (Nat.le_of_ble_eq_true rfl) dX1_init_90 ?_
      refine c_aast (q := 2) (qk := 3 * j + 22) (i := j) (N := 4) (t0 := 4) (ci := 5) (vs := [.int 0, .int 3, .int 5, .int 50, .int 20, .int 300, .int 0, .int 0, .ref (a + (3 * j + 22) + 1), .ref (a + (3 * j + 22) + 2)]) ok rfl rfl ?_ rfl rfl rfl (by omega) (by omega) dX1_init_93 ?_
      · rw [List.getElem?_append_right (by rw [hlen]; exact Nat.le_refl _), hlen, Nat.sub_self]
        rfl
      refine c_iinc ok [(1, .int (nI (j + 1))), (0, .ref a)] 0 dX1_init_94 rfl (d := 1) rfl (by decide) (by rw [nI_1]; rfl) ?_
      refine c_goto ok 76 dX1_init_97 rfl ?_
      refine c_ch (ih (j + 1) (by omega)) ?_ (by omega) (by omega)
      rw [show svs cy a (j + 1) = svs cy a j ++ cService cy (a + (3 * j + 22)) from rfl, ← List.append_assoc (List.replicate 12 _), ← List.append_assoc (cTrail cy (a + 4)), ← rfF_s (k := j) (x := a + (3 * j + 22)) (by omega)]
      rfl
  have l1 : ∀ d j, j + d = 12 → cAt D G a (.inr (1, [.ref (a + 1), .int 0, .ref (a + 2), .ref (a + 3), .int 0, .int 70, .int 0, .int 0, .int 0, .int 0, .int 0, .int 0, .int 0, .int 0, .int 0, .ref (a + 4)]) :: (.inl (cy 13, 12, .inr (.inr (.inr (.inr (rfF (a + 10) 1 j))))) :: (.inl (cy 15, 4, .inr (.inr (.inr (.inr (rfF (a + 22) 3 0))))) :: (.inl (cy 14, 8, .inr (.inr (.inr (.inr (rfF (a + 34) 7 0))))) :: (cTrail cy (a + 4) ++ List.replicate j (.inr (0, [.int 0, .int 0, .int 0, .int 0, .int 0, .int 0, .int 0, .int 0, .int 0, .int 0, .int 0, .int 0, .int 0, .int 0]))))))) (9 + 1 * j) (46 + 14 * j) 49 [(1, .int (nI j)), (0, .ref a)] [] := by
    intro d
    induction d with
    | zero =>
      intro j hj
      have : j = 12 := by omega
      subst this
      refine c_iload_n ok 0 dX1_init_49 rfl ?_
      refine c_bipush ok 12 dX1_init_50 rfl ?_
      refine c_icmp_ge ok 74 dX1_init_52 rfl (fun _ => ?_) (fun h => absurd (by decide) h)
      refine c_iconst ok 0 dX1_init_74 rfl ?_
      refine c_istore_n ok [(1, .int (nI 0)), (0, .ref a)] dX1_init_75 (by decide) rfl ?_
      refine c_ch (l2 4 0 (by omega)) ?_ (by omega) (by omega)
      rw [show svs cy a 0 = [] from rfl, List.append_nil]
    | succ d ih =>
      intro j hj
      have hlen : (.inr (1, [.ref (a + 1), .int 0, .ref (a + 2), .ref (a + 3), .int 0, .int 70, .int 0, .int 0, .int 0, .int 0, .int 0, .int 0, .int 0, .int 0, .int 0, .ref (a + 4)]) :: (.inl (cy 13, 12, .inr (.inr (.inr (.inr (rfF (a + 10) 1 j))))) :: (.inl (cy 15, 4, .inr (.inr (.inr (.inr (rfF (a + 22) 3 0))))) :: (.inl (cy 14, 8, .inr (.inr (.inr (.inr (rfF (a + 34) 7 0))))) :: (cTrail cy (a + 4) ++ List.replicate j (.inr (0, [.int 0, .int 0, .int 0, .int 0, .int 0, .int 0, .int 0, .int 0, .int 0, .int 0, .int 0, .int 0, .int 0, .int 0]))))))).length = j + 10 := by
        simp only [cTrail, List.length_cons, List.length_nil, List.length_append, List.length_replicate, svs_n, rus_n]
        omega
      refine c_iload_n ok 0 dX1_init_49 rfl ?_
      refine c_bipush ok 12 dX1_init_50 rfl ?_
      refine c_icmp_ge ok 74 dX1_init_52 rfl (fun h => absurd ((n_le (a := 12) (by omega) (by omega)).mp h) (by omega)) (fun _ => ?_)
      refine c_aload_n ok 1 dX1_init_55 rfl ?_
      refine c_get (ci := 1) (q := 0) (j := 0) (v := .ref (a + 1)) ok rfl rfl rfl (by decide) rfl rfl (Or.inl rfl) ⟨List.mem_of_getElem? (i := 320) (by decide +kernel), rfl⟩ dX1_init_56 ?_
      refine c_iload_n ok 0 dX1_init_59 rfl ?_
      refine c_new (ci := 0) (fs := [.int 0, .int 0, .int 0, .int 0, .int 0, .int 0, .int 0, .int 0, .int 0, .int 0, .int 0, .int 0, .int 0, .int 0]) ok tyX0 tyX0_ok rfl ⟨List.mem_of_getElem? (i := 88) (by decide +kernel), rfl⟩ ⟨List.mem_of_getElem? (i := 113) (by decide +kernel), rfl⟩ ⟨List.mem_of_getElem? (i := 65) (by decide +kernel), rfl⟩ (fun j hj => by rcases (show j = 0 ∨ j = 1 ∨ j = 2 ∨ j = 3 ∨ j = 4 ∨ j = 5 ∨ j = 6 ∨ j = 7 ∨ j = 8 ∨ j = 9 ∨ j = 10 ∨ j = 11 ∨ j = 12 ∨ j = 13 by omega) with rfl | rfl | rfl | rfl | rfl | rfl | rfl | rfl | rfl | rfl | rfl | rfl | rfl | rfl <;> rfl) (show 9 + 1 * j + 1 ≤ 89 by omega) (show 46 + 14 * j + 14 ≤ 842 by omega) dX1_init_60 ?_
      rw [hlen]
      refine c_dup ok dX1_init_63 rfl ?_
      refine c_init (q := j + 10) (np := 0) (y := yX0_init) (ds0 := (.inr (1, [.ref (a + 1), .int 0, .ref (a + 2), .ref (a + 3), .int 0, .int 70, .int 0, .int 0, .int 0, .int 0, .int 0, .int 0, .int 0, .int 0, .int 0, .ref (a + 4)]) :: (.inl (cy 13, 12, .inr (.inr (.inr (.inr (rfF (a + 10) 1 j))))) :: (.inl (cy 15, 4, .inr (.inr (.inr (.inr (rfF (a + 22) 3 0))))) :: (.inl (cy 14, 8, .inr (.inr (.inr (.inr (rfF (a + 34) 7 0))))) :: (cTrail cy (a + 4) ++ List.replicate j (.inr (0, [.int 0, .int 0, .int 0, .int 0, .int 0, .int 0, .int 0, .int 0, .int 0, .int 0, .int 0, .int 0, .int 0, .int 0])))))))) ok [] (n_X0_init _ D cy) rfl hlen rfl ⟨List.mem_of_getElem? (i := 116) (by decide +kernel), rfl⟩ ⟨List.mem_of_getElem? (i := 65) (by decide +kernel), rfl⟩ rfl ⟨List.mem_of_getElem? (i := 115) (by decide +kernel), rfl⟩ (by decide +kernel) rfl ⟨by decide, by decide⟩ ⟨show 9 + 1 * j + 1 + 0 ≤ 89 by omega, show 46 + 14 * j + 14 + 0 ≤ 842 by omega⟩ (Or.inr ⟨"MeshRouter", ⟨List.mem_of_getElem? (i := 114) (by decide +kernel), rfl⟩⟩) rfl (Nat.le_of_ble_eq_true rfl) dX1_init_64 ?_
      refine c_aast (q := 1) (qk := j + 10) (i := j) (N := 12) (t0 := 2) (ci := 0) (vs := [.int 0, .int 0, .int 0, .int 0, .int 0, .int 0, .int 0, .int 0, .int 0, .int 0, .int 0, .int 0, .int 0, .int 0]) ok rfl rfl ?_ rfl rfl rfl (by omega) (by omega) dX1_init_67 ?_
      · rw [List.getElem?_append_right (by rw [hlen]; exact Nat.le_refl _), hlen, Nat.sub_self]
        rfl
      refine c_iinc ok [(1, .int (nI (j + 1))), (0, .ref a)] 0 dX1_init_68 rfl (d := 1) rfl (by decide) (by rw [nI_1]; rfl) ?_
      refine c_goto ok 49 dX1_init_71 rfl ?_
      refine c_ch (ih (j + 1) (by omega)) ?_ (by omega) (by omega)
      rw [List.replicate_succ', ← List.append_assoc (cTrail cy (a + 4)), ← rfF_s (k := j) (x := a + (j + 10)) (by omega)]
      rfl
  refine c_aload_n ok 0 dX1_init_0 rfl ?_
  refine c_obj ok ⟨List.mem_of_getElem? (i := 87) (by decide +kernel), rfl⟩ ⟨List.mem_of_getElem? (i := 80) (by decide +kernel), rfl⟩ ⟨List.mem_of_getElem? (i := 81) (by decide +kernel), rfl⟩ (by decide) (by decide) (by decide) dX1_init_1 ?_
  refine c_aload_n ok 0 dX1_init_4 rfl ?_
  refine c_bipush ok (12) dX1_init_5 rfl ?_
  refine c_newq (kd := 13) (t0 := 2) (N := 12) ok rfl ⟨List.mem_of_getElem? (i := 88) (by decide +kernel), rfl⟩ ⟨List.mem_of_getElem? (i := 89) (by decide +kernel), rfl⟩ (by decide) (by decide) (by decide) (by decide) (by decide) dX1_init_7 ?_
  show cAt D G a (.inr (1, [.null, .int 0, .null, .null, .int 0, .int 0, .int 0, .int 0, .int 0, .int 0, .int 0, .int 0, .int 0, .int 0, .int 0, .null]) :: [.inl (cy 13, 12, .inr (.inr (.inr (.inr (fun _ => none)))))]) 1 12 10 [(0, .ref a)] [.ref (a + 1), .ref a]
  refine c_putf (ci := 1) (q := 0) (j := 0) (v := .ref (a + 1)) (ty := tyX1 0) ok rfl rfl rfl (by decide) rfl (by decide +kernel) rfl rfl (Nat.le_of_ble_eq_true rfl) (Or.inl rfl) ⟨List.mem_of_getElem? (i := 320) (by decide +kernel), rfl⟩ (fun _ => ⟨hnm, rfl⟩) dX1_init_10 ?_
  show cAt D G a (.inr (1, [.ref (a + 1), .int 0, .null, .null, .int 0, .int 0, .int 0, .int 0, .int 0, .int 0, .int 0, .int 0, .int 0, .int 0, .int 0, .null]) :: [.inl (cy 13, 12, .inr (.inr (.inr (.inr (fun _ => none)))))]) 1 12 13 [(0, .ref a)] []
  refine c_aload_n ok 0 dX1_init_13 rfl ?_
  refine c_iconst ok (4) dX1_init_14 rfl ?_
  refine c_newq (kd := 15) (t0 := 4) (N := 4) ok rfl ⟨List.mem_of_getElem? (i := 90) (by decide +kernel), rfl⟩ ⟨List.mem_of_getElem? (i := 91) (by decide +kernel), rfl⟩ (by decide) (by decide) (by decide) (by decide) (by decide) dX1_init_15 ?_
  show cAt D G a (.inr (1, [.ref (a + 1), .int 0, .null, .null, .int 0, .int 0, .int 0, .int 0, .int 0, .int 0, .int 0, .int 0, .int 0, .int 0, .int 0, .null]) :: ([.inl (cy 13, 12, .inr (.inr (.inr (.inr (fun _ => none)))))] ++ [.inl (cy 15, 4, .inr (.inr (.inr (.inr (fun _ => none)))))])) 2 16 18 [(0, .ref a)] [.ref (a + 2), .ref a]
  refine c_putf (ci := 1) (q := 0) (j := 2) (v := .ref (a + 2)) (ty := tyX1 2) ok rfl rfl rfl (by decide) rfl (by decide +kernel) rfl rfl (Nat.le_of_ble_eq_true rfl) (Or.inl rfl) ⟨List.mem_of_getElem? (i := 324) (by decide +kernel), rfl⟩ (fun _ => ⟨hnm, rfl⟩) dX1_init_18 ?_
  show cAt D G a (.inr (1, [.ref (a + 1), .int 0, .ref (a + 2), .null, .int 0, .int 0, .int 0, .int 0, .int 0, .int 0, .int 0, .int 0, .int 0, .int 0, .int 0, .null]) :: ([.inl (cy 13, 12, .inr (.inr (.inr (.inr (fun _ => none)))))] ++ [.inl (cy 15, 4, .inr (.inr (.inr (.inr (fun _ => none)))))])) 2 16 21 [(0, .ref a)] []
  refine c_aload_n ok 0 dX1_init_21 rfl ?_
  refine c_bipush ok (8) dX1_init_22 rfl ?_
  refine c_newq (kd := 14) (t0 := 3) (N := 8) ok rfl ⟨List.mem_of_getElem? (i := 92) (by decide +kernel), rfl⟩ ⟨List.mem_of_getElem? (i := 93) (by decide +kernel), rfl⟩ (by decide) (by decide) (by decide) (by decide) (by decide) dX1_init_24 ?_
  show cAt D G a (.inr (1, [.ref (a + 1), .int 0, .ref (a + 2), .null, .int 0, .int 0, .int 0, .int 0, .int 0, .int 0, .int 0, .int 0, .int 0, .int 0, .int 0, .null]) :: (([.inl (cy 13, 12, .inr (.inr (.inr (.inr (fun _ => none)))))] ++ [.inl (cy 15, 4, .inr (.inr (.inr (.inr (fun _ => none)))))]) ++ [.inl (cy 14, 8, .inr (.inr (.inr (.inr (fun _ => none)))))])) 3 24 27 [(0, .ref a)] [.ref (a + 3), .ref a]
  refine c_putf (ci := 1) (q := 0) (j := 3) (v := .ref (a + 3)) (ty := tyX1 3) ok rfl rfl rfl (by decide) rfl (by decide +kernel) rfl rfl (Nat.le_of_ble_eq_true rfl) (Or.inl rfl) ⟨List.mem_of_getElem? (i := 326) (by decide +kernel), rfl⟩ (fun _ => ⟨hnm, rfl⟩) dX1_init_27 ?_
  show cAt D G a (.inr (1, [.ref (a + 1), .int 0, .ref (a + 2), .ref (a + 3), .int 0, .int 0, .int 0, .int 0, .int 0, .int 0, .int 0, .int 0, .int 0, .int 0, .int 0, .null]) :: (([.inl (cy 13, 12, .inr (.inr (.inr (.inr (fun _ => none)))))] ++ [.inl (cy 15, 4, .inr (.inr (.inr (.inr (fun _ => none)))))]) ++ [.inl (cy 14, 8, .inr (.inr (.inr (.inr (fun _ => none)))))])) 3 24 30 [(0, .ref a)] []
  refine c_aload_n ok 0 dX1_init_30 rfl ?_
  refine c_bipush ok (70) dX1_init_31 rfl ?_
  refine c_putf (ci := 1) (q := 0) (j := 5) (v := .int 70) (ty := tyX1 5) ok rfl rfl rfl (by decide) rfl (by decide +kernel) rfl rfl (Nat.le_of_ble_eq_true rfl) (Or.inl rfl) ⟨List.mem_of_getElem? (i := 330) (by decide +kernel), rfl⟩ (fun h => by cases h) dX1_init_33 ?_
  show cAt D G a (.inr (1, [.ref (a + 1), .int 0, .ref (a + 2), .ref (a + 3), .int 0, .int 70, .int 0, .int 0, .int 0, .int 0, .int 0, .int 0, .int 0, .int 0, .int 0, .null]) :: (([.inl (cy 13, 12, .inr (.inr (.inr (.inr (fun _ => none)))))] ++ [.inl (cy 15, 4, .inr (.inr (.inr (.inr (fun _ => none)))))]) ++ [.inl (cy 14, 8, .inr (.inr (.inr (.inr (fun _ => none)))))])) 3 24 36 [(0, .ref a)] []
  refine c_aload_n ok 0 dX1_init_36 rfl ?_
  refine c_new (ci := 8) (fs := [.null, .int 0]) ok tyX8 tyX8_ok rfl ⟨List.mem_of_getElem? (i := 94) (by decide +kernel), rfl⟩ ⟨List.mem_of_getElem? (i := 95) (by decide +kernel), rfl⟩ ⟨List.mem_of_getElem? (i := 63) (by decide +kernel), rfl⟩ (fun j hj => by rcases (show j = 0 ∨ j = 1 by omega) with rfl | rfl <;> rfl) (by decide) (by decide) dX1_init_37 ?_
  show cAt D G a (.inr (1, [.ref (a + 1), .int 0, .ref (a + 2), .ref (a + 3), .int 0, .int 70, .int 0, .int 0, .int 0, .int 0, .int 0, .int 0, .int 0, .int 0, .int 0, .null]) :: ((([.inl (cy 13, 12, .inr (.inr (.inr (.inr (fun _ => none)))))] ++ [.inl (cy 15, 4, .inr (.inr (.inr (.inr (fun _ => none)))))]) ++ [.inl (cy 14, 8, .inr (.inr (.inr (.inr (fun _ => none)))))]) ++ [.inr (8, [.null, .int 0])])) 4 26 40 [(0, .ref a)] [.ref (a + 4), .ref a]
  refine c_dup ok dX1_init_40 rfl ?_
  refine c_init (q := 4) (np := 0) (y := yX8_init) (ds0 := (.inr (1, [.ref (a + 1), .int 0, .ref (a + 2), .ref (a + 3), .int 0, .int 70, .int 0, .int 0, .int 0, .int 0, .int 0, .int 0, .int 0, .int 0, .int 0, .null]) :: (([.inl (cy 13, 12, .inr (.inr (.inr (.inr (fun _ => none)))))] ++ [.inl (cy 15, 4, .inr (.inr (.inr (.inr (fun _ => none)))))]) ++ [.inl (cy 14, 8, .inr (.inr (.inr (.inr (fun _ => none)))))]))) ok [] (n_X8_init _ D cy) rfl rfl rfl ⟨List.mem_of_getElem? (i := 98) (by decide +kernel), rfl⟩ ⟨List.mem_of_getElem? (i := 63) (by decide +kernel), rfl⟩ rfl ⟨List.mem_of_getElem? (i := 97) (by decide +kernel), rfl⟩ (by decide +kernel) rfl ⟨by decide, by decide⟩ ⟨by decide, by decide⟩ (Or.inr ⟨"MeshRouter", ⟨List.mem_of_getElem? (i := 96) (by decide +kernel), rfl⟩⟩) rfl (Nat.le_of_ble_eq_true rfl) dX1_init_41 ?_
  show cAt D G a (.inr (1, [.ref (a + 1), .int 0, .ref (a + 2), .ref (a + 3), .int 0, .int 70, .int 0, .int 0, .int 0, .int 0, .int 0, .int 0, .int 0, .int 0, .int 0, .null]) :: ((([.inl (cy 13, 12, .inr (.inr (.inr (.inr (fun _ => none)))))] ++ [.inl (cy 15, 4, .inr (.inr (.inr (.inr (fun _ => none)))))]) ++ [.inl (cy 14, 8, .inr (.inr (.inr (.inr (fun _ => none)))))]) ++ cTrail cy (a + 4))) 9 46 44 [(0, .ref a)] [.ref (a + 4), .ref a]
  refine c_putf (ci := 1) (q := 0) (j := 15) (v := .ref (a + 4)) (ty := tyX1 15) ok rfl rfl rfl (by decide) rfl (by decide +kernel) rfl rfl (Nat.le_of_ble_eq_true rfl) (Or.inl rfl) ⟨List.mem_of_getElem? (i := 342) (by decide +kernel), rfl⟩ (fun _ => ⟨hnm, rfl⟩) dX1_init_44 ?_
  show cAt D G a (.inr (1, [.ref (a + 1), .int 0, .ref (a + 2), .ref (a + 3), .int 0, .int 70, .int 0, .int 0, .int 0, .int 0, .int 0, .int 0, .int 0, .int 0, .int 0, .ref (a + 4)]) :: ((([.inl (cy 13, 12, .inr (.inr (.inr (.inr (fun _ => none)))))] ++ [.inl (cy 15, 4, .inr (.inr (.inr (.inr (fun _ => none)))))]) ++ [.inl (cy 14, 8, .inr (.inr (.inr (.inr (fun _ => none)))))]) ++ cTrail cy (a + 4))) 9 46 47 [(0, .ref a)] []
  refine c_iconst ok (0) dX1_init_47 rfl ?_
  refine c_istore_n ok [(1, .int 0), (0, .ref a)] dX1_init_48 (by decide) rfl ?_
  refine c_ch (l1 12 0 (by omega)) ?_ (by omega) (by omega)
  rw [rfF_0, rfF_0, rfF_0]
  rfl
theorem cMesh_n {a : Nat} : (cMesh cy a).length = 90 := rfl
def cRouter (cy : Nat → ClassId) (a : Nat) : List va_E := (.inr (9, [.ref (a + 1), .ref (a + 91), .ref (a + 181), .ref (a + 271), .ref (a + 361), .ref (a + 367), .ref (a + 369), .ref (a + 371), .int 0]) :: (((((((cMesh cy (a + 1) ++ cMesh cy (a + 91)) ++ cMesh cy (a + 181)) ++ cMesh cy (a + 271)) ++ cRecording cy (a + 361)) ++ cText cy (a + 367)) ++ cText cy (a + 369)) ++ cReader cy (a + 371) (a + 367)))
theorem cRecording_n {a : Nat} : (cRecording cy a).length = 6 := rfl
theorem cText_n {a : Nat} : (cText cy a).length = 2 := rfl
theorem x10_0 {G : zC} {a : Nat} (ok : cOK D cy a G RX10 cX10_init 1 { frames := 5, cells := 378, slots := 3893, locals := 102 }) (hnm : (zmt G).name = "<init>") (kk : cAt D G a (.inr (9, [.ref (a + 1), .null, .null, .null, .null, .null, .null, .null, .int 0]) :: cMesh cy (a + 1)) 90 858 15 [(0, .ref a)] []) : cAt D G a [.inr (9, [.null, .null, .null, .null, .null, .null, .null, .null, .int 0])] 0 0 4 [(0, .ref a)] [] := by
  refine c_aload_n ok 0 dX10_init_4 rfl ?_
  refine c_new (ci := 1) (fs := [.null, .int 0, .null, .null, .int 0, .int 0, .int 0, .int 0, .int 0, .int 0, .int 0, .int 0, .int 0, .int 0, .int 0, .null]) ok tyX1 tyX1_ok rfl ⟨List.mem_of_getElem? (i := 82) (by decide +kernel), rfl⟩ ⟨List.mem_of_getElem? (i := 83) (by decide +kernel), rfl⟩ ⟨List.mem_of_getElem? (i := 62) (by decide +kernel), rfl⟩ (fun j hj => by rcases (show j = 0 ∨ j = 1 ∨ j = 2 ∨ j = 3 ∨ j = 4 ∨ j = 5 ∨ j = 6 ∨ j = 7 ∨ j = 8 ∨ j = 9 ∨ j = 10 ∨ j = 11 ∨ j = 12 ∨ j = 13 ∨ j = 14 ∨ j = 15 by omega) with rfl | rfl | rfl | rfl | rfl | rfl | rfl | rfl | rfl | rfl | rfl | rfl | rfl | rfl | rfl | rfl <;> rfl) (by decide) (by decide) dX10_init_5 ?_
  show cAt D G a (.inr (9, [.null, .null, .null, .null, .null, .null, .null, .null, .int 0]) :: [.inr (1, [.null, .int 0, .null, .null, .int 0, .int 0, .int 0, .int 0, .int 0, .int 0, .int 0, .int 0, .int 0, .int 0, .int 0, .null])]) 1 16 8 [(0, .ref a)] [.ref (a + 1), .ref a]
  refine c_dup ok dX10_init_8 rfl ?_
  refine c_init (q := 1) (np := 0) (y := yX1_init) (ds0 := (.inr (9, [.null, .null, .null, .null, .null, .null, .null, .null, .int 0]) :: [])) ok [] (n_X1_init _ D cy) rfl rfl rfl ⟨List.mem_of_getElem? (i := 86) (by decide +kernel), rfl⟩ ⟨List.mem_of_getElem? (i := 62) (by decide +kernel), rfl⟩ rfl ⟨List.mem_of_getElem? (i := 85) (by decide +kernel), rfl⟩ (by decide +kernel) rfl ⟨by decide, by decide⟩ ⟨by decide, by decide⟩ (Or.inl ⟨List.mem_of_getElem? (i := 84) (by decide +kernel), rfl⟩) rfl (Nat.le_of_ble_eq_true rfl) dX10_init_9 ?_
  show cAt D G a (.inr (9, [.null, .null, .null, .null, .null, .null, .null, .null, .int 0]) :: cMesh cy (a + 1)) 90 858 12 [(0, .ref a)] [.ref (a + 1), .ref a]
  refine c_putf (ci := 9) (q := 0) (j := 0) (v := .ref (a + 1)) (ty := tyX10 0) ok rfl rfl rfl (by decide) rfl (by decide +kernel) rfl rfl (Nat.le_of_ble_eq_true rfl) (Or.inl rfl) ⟨List.mem_of_getElem? (i := 432) (by decide +kernel), rfl⟩ (fun _ => ⟨hnm, rfl⟩) dX10_init_12 ?_
  exact kk
theorem x10_1 {G : zC} {a : Nat} (ok : cOK D cy a G RX10 cX10_init 1 { frames := 5, cells := 378, slots := 3893, locals := 102 }) (hnm : (zmt G).name = "<init>") {R : List va_E} (hR : R.length = 90) (kk : cAt D G a (.inr (9, [.ref (a + 1), .ref (a + 91), .null, .null, .null, .null, .null, .null, .int 0]) :: (R ++ cMesh cy (a + 91))) 180 1716 26 [(0, .ref a)] []) : cAt D G a (.inr (9, [.ref (a + 1), .null, .null, .null, .null, .null, .null, .null, .int 0]) :: R) 90 858 15 [(0, .ref a)] [] := by
  refine c_aload_n ok 0 dX10_init_15 rfl ?_
  refine c_new (ci := 1) (fs := [.null, .int 0, .null, .null, .int 0, .int 0, .int 0, .int 0, .int 0, .int 0, .int 0, .int 0, .int 0, .int 0, .int 0, .null]) ok tyX1 tyX1_ok rfl ⟨List.mem_of_getElem? (i := 82) (by decide +kernel), rfl⟩ ⟨List.mem_of_getElem? (i := 83) (by decide +kernel), rfl⟩ ⟨List.mem_of_getElem? (i := 62) (by decide +kernel), rfl⟩ (fun j hj => by rcases (show j = 0 ∨ j = 1 ∨ j = 2 ∨ j = 3 ∨ j = 4 ∨ j = 5 ∨ j = 6 ∨ j = 7 ∨ j = 8 ∨ j = 9 ∨ j = 10 ∨ j = 11 ∨ j = 12 ∨ j = 13 ∨ j = 14 ∨ j = 15 by omega) with rfl | rfl | rfl | rfl | rfl | rfl | rfl | rfl | rfl | rfl | rfl | rfl | rfl | rfl | rfl | rfl <;> rfl) (by decide) (by decide) dX10_init_16 ?_
  rw [List.length_cons, hR]
  show cAt D G a (.inr (9, [.ref (a + 1), .null, .null, .null, .null, .null, .null, .null, .int 0]) :: (R ++ [.inr (1, [.null, .int 0, .null, .null, .int 0, .int 0, .int 0, .int 0, .int 0, .int 0, .int 0, .int 0, .int 0, .int 0, .int 0, .null])])) 91 874 19 [(0, .ref a)] [.ref (a + 91), .ref a]
  refine c_dup ok dX10_init_19 rfl ?_
  refine c_init (q := 91) (np := 0) (y := yX1_init) (ds0 := (.inr (9, [.ref (a + 1), .null, .null, .null, .null, .null, .null, .null, .int 0]) :: R)) ok [] (n_X1_init _ D cy) rfl (by rw [List.length_cons, hR]) rfl ⟨List.mem_of_getElem? (i := 86) (by decide +kernel), rfl⟩ ⟨List.mem_of_getElem? (i := 62) (by decide +kernel), rfl⟩ rfl ⟨List.mem_of_getElem? (i := 85) (by decide +kernel), rfl⟩ (by decide +kernel) rfl ⟨by decide, by decide⟩ ⟨by decide, by decide⟩ (Or.inl ⟨List.mem_of_getElem? (i := 84) (by decide +kernel), rfl⟩) rfl (Nat.le_of_ble_eq_true rfl) dX10_init_20 ?_
  show cAt D G a (.inr (9, [.ref (a + 1), .null, .null, .null, .null, .null, .null, .null, .int 0]) :: (R ++ cMesh cy (a + 91))) 180 1716 23 [(0, .ref a)] [.ref (a + 91), .ref a]
  refine c_putf (ci := 9) (q := 0) (j := 1) (v := .ref (a + 91)) (ty := tyX10 1) ok rfl rfl rfl (by decide) rfl (by decide +kernel) rfl rfl (Nat.le_of_ble_eq_true rfl) (Or.inl rfl) ⟨List.mem_of_getElem? (i := 433) (by decide +kernel), rfl⟩ (fun _ => ⟨hnm, rfl⟩) dX10_init_23 ?_
  exact kk
theorem x10_2 {G : zC} {a : Nat} (ok : cOK D cy a G RX10 cX10_init 1 { frames := 5, cells := 378, slots := 3893, locals := 102 }) (hnm : (zmt G).name = "<init>") {R : List va_E} (hR : R.length = 180) (kk : cAt D G a (.inr (9, [.ref (a + 1), .ref (a + 91), .ref (a + 181), .null, .null, .null, .null, .null, .int 0]) :: (R ++ cMesh cy (a + 181))) 270 2574 37 [(0, .ref a)] []) : cAt D G a (.inr (9, [.ref (a + 1), .ref (a + 91), .null, .null, .null, .null, .null, .null, .int 0]) :: R) 180 1716 26 [(0, .ref a)] [] := by
  refine c_aload_n ok 0 dX10_init_26 rfl ?_
  refine c_new (ci := 1) (fs := [.null, .int 0, .null, .null, .int 0, .int 0, .int 0, .int 0, .int 0, .int 0, .int 0, .int 0, .int 0, .int 0, .int 0, .null]) ok tyX1 tyX1_ok rfl ⟨List.mem_of_getElem? (i := 82) (by decide +kernel), rfl⟩ ⟨List.mem_of_getElem? (i := 83) (by decide +kernel), rfl⟩ ⟨List.mem_of_getElem? (i := 62) (by decide +kernel), rfl⟩ (fun j hj => by rcases (show j = 0 ∨ j = 1 ∨ j = 2 ∨ j = 3 ∨ j = 4 ∨ j = 5 ∨ j = 6 ∨ j = 7 ∨ j = 8 ∨ j = 9 ∨ j = 10 ∨ j = 11 ∨ j = 12 ∨ j = 13 ∨ j = 14 ∨ j = 15 by omega) with rfl | rfl | rfl | rfl | rfl | rfl | rfl | rfl | rfl | rfl | rfl | rfl | rfl | rfl | rfl | rfl <;> rfl) (by decide) (by decide) dX10_init_27 ?_
  rw [List.length_cons, hR]
  show cAt D G a (.inr (9, [.ref (a + 1), .ref (a + 91), .null, .null, .null, .null, .null, .null, .int 0]) :: (R ++ [.inr (1, [.null, .int 0, .null, .null, .int 0, .int 0, .int 0, .int 0, .int 0, .int 0, .int 0, .int 0, .int 0, .int 0, .int 0, .null])])) 181 1732 30 [(0, .ref a)] [.ref (a + 181), .ref a]
  refine c_dup ok dX10_init_30 rfl ?_
  refine c_init (q := 181) (np := 0) (y := yX1_init) (ds0 := (.inr (9, [.ref (a + 1), .ref (a + 91), .null, .null, .null, .null, .null, .null, .int 0]) :: R)) ok [] (n_X1_init _ D cy) rfl (by rw [List.length_cons, hR]) rfl ⟨List.mem_of_getElem? (i := 86) (by decide +kernel), rfl⟩ ⟨List.mem_of_getElem? (i := 62) (by decide +kernel), rfl⟩ rfl ⟨List.mem_of_getElem? (i := 85) (by decide +kernel), rfl⟩ (by decide +kernel) rfl ⟨by decide, by decide⟩ ⟨by decide, by decide⟩ (Or.inl ⟨List.mem_of_getElem? (i := 84) (by decide +kernel), rfl⟩) rfl (Nat.le_of_ble_eq_true rfl) dX10_init_31 ?_
  show cAt D G a (.inr (9, [.ref (a + 1), .ref (a + 91), .null, .null, .null, .null, .null, .null, .int 0]) :: (R ++ cMesh cy (a + 181))) 270 2574 34 [(0, .ref a)] [.ref (a + 181), .ref a]
  refine c_putf (ci := 9) (q := 0) (j := 2) (v := .ref (a + 181)) (ty := tyX10 2) ok rfl rfl rfl (by decide) rfl (by decide +kernel) rfl rfl (Nat.le_of_ble_eq_true rfl) (Or.inl rfl) ⟨List.mem_of_getElem? (i := 434) (by decide +kernel), rfl⟩ (fun _ => ⟨hnm, rfl⟩) dX10_init_34 ?_
  exact kk
theorem x10_3 {G : zC} {a : Nat} (ok : cOK D cy a G RX10 cX10_init 1 { frames := 5, cells := 378, slots := 3893, locals := 102 }) (hnm : (zmt G).name = "<init>") {R : List va_E} (hR : R.length = 270) (kk : cAt D G a (.inr (9, [.ref (a + 1), .ref (a + 91), .ref (a + 181), .ref (a + 271), .null, .null, .null, .null, .int 0]) :: (R ++ cMesh cy (a + 271))) 360 3432 48 [(0, .ref a)] []) : cAt D G a (.inr (9, [.ref (a + 1), .ref (a + 91), .ref (a + 181), .null, .null, .null, .null, .null, .int 0]) :: R) 270 2574 37 [(0, .ref a)] [] := by
  refine c_aload_n ok 0 dX10_init_37 rfl ?_
  refine c_new (ci := 1) (fs := [.null, .int 0, .null, .null, .int 0, .int 0, .int 0, .int 0, .int 0, .int 0, .int 0, .int 0, .int 0, .int 0, .int 0, .null]) ok tyX1 tyX1_ok rfl ⟨List.mem_of_getElem? (i := 82) (by decide +kernel), rfl⟩ ⟨List.mem_of_getElem? (i := 83) (by decide +kernel), rfl⟩ ⟨List.mem_of_getElem? (i := 62) (by decide +kernel), rfl⟩ (fun j hj => by rcases (show j = 0 ∨ j = 1 ∨ j = 2 ∨ j = 3 ∨ j = 4 ∨ j = 5 ∨ j = 6 ∨ j = 7 ∨ j = 8 ∨ j = 9 ∨ j = 10 ∨ j = 11 ∨ j = 12 ∨ j = 13 ∨ j = 14 ∨ j = 15 by omega) with rfl | rfl | rfl | rfl | rfl | rfl | rfl | rfl | rfl | rfl | rfl | rfl | rfl | rfl | rfl | rfl <;> rfl) (by decide) (by decide) dX10_init_38 ?_
  rw [List.length_cons, hR]
  show cAt D G a (.inr (9, [.ref (a + 1), .ref (a + 91), .ref (a + 181), .null, .null, .null, .null, .null, .int 0]) :: (R ++ [.inr (1, [.null, .int 0, .null, .null, .int 0, .int 0, .int 0, .int 0, .int 0, .int 0, .int 0, .int 0, .int 0, .int 0, .int 0, .null])])) 271 2590 41 [(0, .ref a)] [.ref (a + 271), .ref a]
  refine c_dup ok dX10_init_41 rfl ?_
  refine c_init (q := 271) (np := 0) (y := yX1_init) (ds0 := (.inr (9, [.ref (a + 1), .ref (a + 91), .ref (a + 181), .null, .null, .null, .null, .null, .int 0]) :: R)) ok [] (n_X1_init _ D cy) rfl (by rw [List.length_cons, hR]) rfl ⟨List.mem_of_getElem? (i := 86) (by decide +kernel), rfl⟩ ⟨List.mem_of_getElem? (i := 62) (by decide +kernel), rfl⟩ rfl ⟨List.mem_of_getElem? (i := 85) (by decide +kernel), rfl⟩ (by decide +kernel) rfl ⟨by decide, by decide⟩ ⟨by decide, by decide⟩ (Or.inl ⟨List.mem_of_getElem? (i := 84) (by decide +kernel), rfl⟩) rfl (Nat.le_of_ble_eq_true rfl) dX10_init_42 ?_
  show cAt D G a (.inr (9, [.ref (a + 1), .ref (a + 91), .ref (a + 181), .null, .null, .null, .null, .null, .int 0]) :: (R ++ cMesh cy (a + 271))) 360 3432 45 [(0, .ref a)] [.ref (a + 271), .ref a]
  refine c_putf (ci := 9) (q := 0) (j := 3) (v := .ref (a + 271)) (ty := tyX10 3) ok rfl rfl rfl (by decide) rfl (by decide +kernel) rfl rfl (Nat.le_of_ble_eq_true rfl) (Or.inl rfl) ⟨List.mem_of_getElem? (i := 435) (by decide +kernel), rfl⟩ (fun _ => ⟨hnm, rfl⟩) dX10_init_45 ?_
  exact kk
theorem x10_4 {G : zC} {a : Nat} (ok : cOK D cy a G RX10 cX10_init 1 { frames := 5, cells := 378, slots := 3893, locals := 102 }) (hnm : (zmt G).name = "<init>") {R : List va_E} (hR : R.length = 360) (kk : cAt D G a (.inr (9, [.ref (a + 1), .ref (a + 91), .ref (a + 181), .ref (a + 271), .ref (a + 361), .null, .null, .null, .int 0]) :: (R ++ cRecording cy (a + 361))) 366 3739 59 [(0, .ref a)] []) : cAt D G a (.inr (9, [.ref (a + 1), .ref (a + 91), .ref (a + 181), .ref (a + 271), .null, .null, .null, .null, .int 0]) :: R) 360 3432 48 [(0, .ref a)] [] := by
  refine c_aload_n ok 0 dX10_init_48 rfl ?_
  refine c_new (ci := 2) (fs := [.null, .null, .null, .null, .null, .int 0, .int 0]) ok tyX2 tyX2_ok rfl ⟨List.mem_of_getElem? (i := 377) (by decide +kernel), rfl⟩ ⟨List.mem_of_getElem? (i := 378) (by decide +kernel), rfl⟩ ⟨List.mem_of_getElem? (i := 70) (by decide +kernel), rfl⟩ (fun j hj => by rcases (show j = 0 ∨ j = 1 ∨ j = 2 ∨ j = 3 ∨ j = 4 ∨ j = 5 ∨ j = 6 by omega) with rfl | rfl | rfl | rfl | rfl | rfl | rfl <;> rfl) (by decide) (by decide) dX10_init_49 ?_
  rw [List.length_cons, hR]
  show cAt D G a (.inr (9, [.ref (a + 1), .ref (a + 91), .ref (a + 181), .ref (a + 271), .null, .null, .null, .null, .int 0]) :: (R ++ [.inr (2, [.null, .null, .null, .null, .null, .int 0, .int 0])])) 361 3439 52 [(0, .ref a)] [.ref (a + 361), .ref a]
  refine c_dup ok dX10_init_52 rfl ?_
  refine c_init (q := 361) (np := 0) (y := yX2_init) (ds0 := (.inr (9, [.ref (a + 1), .ref (a + 91), .ref (a + 181), .ref (a + 271), .null, .null, .null, .null, .int 0]) :: R)) ok [] (n_X2_init _ D cy) rfl (by rw [List.length_cons, hR]) rfl ⟨List.mem_of_getElem? (i := 381) (by decide +kernel), rfl⟩ ⟨List.mem_of_getElem? (i := 70) (by decide +kernel), rfl⟩ rfl ⟨List.mem_of_getElem? (i := 380) (by decide +kernel), rfl⟩ (by decide +kernel) rfl ⟨by decide, by decide⟩ ⟨by decide, by decide⟩ (Or.inr ⟨"MeshRouter", ⟨List.mem_of_getElem? (i := 379) (by decide +kernel), rfl⟩⟩) rfl (Nat.le_of_ble_eq_true rfl) dX10_init_53 ?_
  show cAt D G a (.inr (9, [.ref (a + 1), .ref (a + 91), .ref (a + 181), .ref (a + 271), .null, .null, .null, .null, .int 0]) :: (R ++ cRecording cy (a + 361))) 366 3739 56 [(0, .ref a)] [.ref (a + 361), .ref a]
  refine c_putf (ci := 9) (q := 0) (j := 4) (v := .ref (a + 361)) (ty := tyX10 4) ok rfl rfl rfl (by decide) rfl (by decide +kernel) rfl rfl (Nat.le_of_ble_eq_true rfl) (Or.inl rfl) ⟨List.mem_of_getElem? (i := 436) (by decide +kernel), rfl⟩ (fun _ => ⟨hnm, rfl⟩) dX10_init_56 ?_
  exact kk
theorem x10_5 {G : zC} {a : Nat} (ok : cOK D cy a G RX10 cX10_init 1 { frames := 5, cells := 378, slots := 3893, locals := 102 }) (hnm : (zmt G).name = "<init>") {R : List va_E} (hR : R.length = 366) (kk : cAt D G a (.inr (9, [.ref (a + 1), .ref (a + 91), .ref (a + 181), .ref (a + 271), .ref (a + 361), .ref (a + 367), .null, .null, .int 0]) :: (R ++ cText cy (a + 367))) 368 3781 70 [(0, .ref a)] []) : cAt D G a (.inr (9, [.ref (a + 1), .ref (a + 91), .ref (a + 181), .ref (a + 271), .ref (a + 361), .null, .null, .null, .int 0]) :: R) 366 3739 59 [(0, .ref a)] [] := by
  refine c_aload_n ok 0 dX10_init_59 rfl ?_
  refine c_new (ci := 7) (fs := [.null, .int 0]) ok tyX7 tyX7_ok rfl ⟨List.mem_of_getElem? (i := 411) (by decide +kernel), rfl⟩ ⟨List.mem_of_getElem? (i := 244) (by decide +kernel), rfl⟩ ⟨List.mem_of_getElem? (i := 68) (by decide +kernel), rfl⟩ (fun j hj => by rcases (show j = 0 ∨ j = 1 by omega) with rfl | rfl <;> rfl) (by decide) (by decide) dX10_init_60 ?_
  rw [List.length_cons, hR]
  show cAt D G a (.inr (9, [.ref (a + 1), .ref (a + 91), .ref (a + 181), .ref (a + 271), .ref (a + 361), .null, .null, .null, .int 0]) :: (R ++ [.inr (7, [.null, .int 0])])) 367 3741 63 [(0, .ref a)] [.ref (a + 367), .ref a]
  refine c_dup ok dX10_init_63 rfl ?_
  refine c_init (q := 367) (np := 0) (y := yX7_init) (ds0 := (.inr (9, [.ref (a + 1), .ref (a + 91), .ref (a + 181), .ref (a + 271), .ref (a + 361), .null, .null, .null, .int 0]) :: R)) ok [] (n_X7_init _ D cy) rfl (by rw [List.length_cons, hR]) rfl ⟨List.mem_of_getElem? (i := 247) (by decide +kernel), rfl⟩ ⟨List.mem_of_getElem? (i := 68) (by decide +kernel), rfl⟩ rfl ⟨List.mem_of_getElem? (i := 246) (by decide +kernel), rfl⟩ (by decide +kernel) rfl ⟨by decide, by decide⟩ ⟨by decide, by decide⟩ (Or.inr ⟨"MeshRouter", ⟨List.mem_of_getElem? (i := 412) (by decide +kernel), rfl⟩⟩) rfl (Nat.le_of_ble_eq_true rfl) dX10_init_64 ?_
  show cAt D G a (.inr (9, [.ref (a + 1), .ref (a + 91), .ref (a + 181), .ref (a + 271), .ref (a + 361), .null, .null, .null, .int 0]) :: (R ++ cText cy (a + 367))) 368 3781 67 [(0, .ref a)] [.ref (a + 367), .ref a]
  refine c_putf (ci := 9) (q := 0) (j := 5) (v := .ref (a + 367)) (ty := tyX10 5) ok rfl rfl rfl (by decide) rfl (by decide +kernel) rfl rfl (Nat.le_of_ble_eq_true rfl) (Or.inl rfl) ⟨List.mem_of_getElem? (i := 437) (by decide +kernel), rfl⟩ (fun _ => ⟨hnm, rfl⟩) dX10_init_67 ?_
  exact kk
theorem x10_6 {G : zC} {a : Nat} (ok : cOK D cy a G RX10 cX10_init 1 { frames := 5, cells := 378, slots := 3893, locals := 102 }) (hnm : (zmt G).name = "<init>") {R : List va_E} (hR : R.length = 368) (kk : cAt D G a (.inr (9, [.ref (a + 1), .ref (a + 91), .ref (a + 181), .ref (a + 271), .ref (a + 361), .ref (a + 367), .ref (a + 369), .null, .int 0]) :: (R ++ cText cy (a + 369))) 370 3823 81 [(0, .ref a)] []) : cAt D G a (.inr (9, [.ref (a + 1), .ref (a + 91), .ref (a + 181), .ref (a + 271), .ref (a + 361), .ref (a + 367), .null, .null, .int 0]) :: R) 368 3781 70 [(0, .ref a)] [] := by
  refine c_aload_n ok 0 dX10_init_70 rfl ?_
  refine c_new (ci := 7) (fs := [.null, .int 0]) ok tyX7 tyX7_ok rfl ⟨List.mem_of_getElem? (i := 411) (by decide +kernel), rfl⟩ ⟨List.mem_of_getElem? (i := 244) (by decide +kernel), rfl⟩ ⟨List.mem_of_getElem? (i := 68) (by decide +kernel), rfl⟩ (fun j hj => by rcases (show j = 0 ∨ j = 1 by omega) with rfl | rfl <;> rfl) (by decide) (by decide) dX10_init_71 ?_
  rw [List.length_cons, hR]
  show cAt D G a (.inr (9, [.ref (a + 1), .ref (a + 91), .ref (a + 181), .ref (a + 271), .ref (a + 361), .ref (a + 367), .null, .null, .int 0]) :: (R ++ [.inr (7, [.null, .int 0])])) 369 3783 74 [(0, .ref a)] [.ref (a + 369), .ref a]
  refine c_dup ok dX10_init_74 rfl ?_
  refine c_init (q := 369) (np := 0) (y := yX7_init) (ds0 := (.inr (9, [.ref (a + 1), .ref (a + 91), .ref (a + 181), .ref (a + 271), .ref (a + 361), .ref (a + 367), .null, .null, .int 0]) :: R)) ok [] (n_X7_init _ D cy) rfl (by rw [List.length_cons, hR]) rfl ⟨List.mem_of_getElem? (i := 247) (by decide +kernel), rfl⟩ ⟨List.mem_of_getElem? (i := 68) (by decide +kernel), rfl⟩ rfl ⟨List.mem_of_getElem? (i := 246) (by decide +kernel), rfl⟩ (by decide +kernel) rfl ⟨by decide, by decide⟩ ⟨by decide, by decide⟩ (Or.inr ⟨"MeshRouter", ⟨List.mem_of_getElem? (i := 412) (by decide +kernel), rfl⟩⟩) rfl (Nat.le_of_ble_eq_true rfl) dX10_init_75 ?_
  show cAt D G a (.inr (9, [.ref (a + 1), .ref (a + 91), .ref (a + 181), .ref (a + 271), .ref (a + 361), .ref (a + 367), .null, .null, .int 0]) :: (R ++ cText cy (a + 369))) 370 3823 78 [(0, .ref a)] [.ref (a + 369), .ref a]
  refine c_putf (ci := 9) (q := 0) (j := 6) (v := .ref (a + 369)) (ty := tyX10 6) ok rfl rfl rfl (by decide) rfl (by decide +kernel) rfl rfl (Nat.le_of_ble_eq_true rfl) (Or.inl rfl) ⟨List.mem_of_getElem? (i := 438) (by decide +kernel), rfl⟩ (fun _ => ⟨hnm, rfl⟩) dX10_init_78 ?_
  exact kk
theorem x10_7 {G : zC} {a : Nat} (ok : cOK D cy a G RX10 cX10_init 1 { frames := 5, cells := 378, slots := 3893, locals := 102 }) (hnm : (zmt G).name = "<init>") {R : List va_E} (hR : R.length = 370) (kk : cAt D G a (.inr (9, [.ref (a + 1), .ref (a + 91), .ref (a + 181), .ref (a + 271), .ref (a + 361), .ref (a + 367), .ref (a + 369), .ref (a + 371), .int 0]) :: (R ++ cReader cy (a + 371) (a + 367))) 378 3893 96 [(0, .ref a)] []) : cAt D G a (.inr (9, [.ref (a + 1), .ref (a + 91), .ref (a + 181), .ref (a + 271), .ref (a + 361), .ref (a + 367), .ref (a + 369), .null, .int 0]) :: R) 370 3823 81 [(0, .ref a)] [] := by
  refine c_aload_n ok 0 dX10_init_81 rfl ?_
  refine c_new (ci := 4) (fs := [.null, .null, .int 0]) ok tyX4 tyX4_ok rfl ⟨List.mem_of_getElem? (i := 413) (by decide +kernel), rfl⟩ ⟨List.mem_of_getElem? (i := 414) (by decide +kernel), rfl⟩ ⟨List.mem_of_getElem? (i := 71) (by decide +kernel), rfl⟩ (fun j hj => by rcases (show j = 0 ∨ j = 1 ∨ j = 2 by omega) with rfl | rfl | rfl <;> rfl) (by decide) (by decide) dX10_init_82 ?_
  rw [List.length_cons, hR]
  show cAt D G a (.inr (9, [.ref (a + 1), .ref (a + 91), .ref (a + 181), .ref (a + 271), .ref (a + 361), .ref (a + 367), .ref (a + 369), .null, .int 0]) :: (R ++ [.inr (4, [.null, .null, .int 0])])) 371 3826 85 [(0, .ref a)] [.ref (a + 371), .ref a]
  refine c_dup ok dX10_init_85 rfl ?_
  refine c_aload_n ok 0 dX10_init_86 rfl ?_
  refine c_get (ci := 9) (q := 0) (j := 5) (v := .ref (a + 367)) ok rfl rfl rfl (by decide) rfl rfl (Or.inl rfl) ⟨List.mem_of_getElem? (i := 437) (by decide +kernel), rfl⟩ dX10_init_87 ?_
  show cAt D G a (.inr (9, [.ref (a + 1), .ref (a + 91), .ref (a + 181), .ref (a + 271), .ref (a + 361), .ref (a + 367), .ref (a + 369), .null, .int 0]) :: (R ++ [.inr (4, [.null, .null, .int 0])])) 371 3826 90 [(0, .ref a)] [.ref (a + 367), .ref (a + 371), .ref (a + 371), .ref a]
  refine c_init (q := 371) (np := 1) (y := yX4_init) (ds0 := (.inr (9, [.ref (a + 1), .ref (a + 91), .ref (a + 181), .ref (a + 271), .ref (a + 361), .ref (a + 367), .ref (a + 369), .null, .int 0]) :: R)) ok [.ref (a + 367)] (n_X4_init _ D cy) rfl (by rw [List.length_cons, hR]) rfl ⟨List.mem_of_getElem? (i := 417) (by decide +kernel), rfl⟩ ⟨List.mem_of_getElem? (i := 71) (by decide +kernel), rfl⟩ rfl ⟨List.mem_of_getElem? (i := 416) (by decide +kernel), rfl⟩ (by decide +kernel) rfl ⟨by decide, by decide⟩ ⟨by decide, by decide⟩ (Or.inl ⟨List.mem_of_getElem? (i := 415) (by decide +kernel), rfl⟩) rfl (Nat.le_of_ble_eq_true rfl) dX10_init_90 ?_
  show cAt D G a (.inr (9, [.ref (a + 1), .ref (a + 91), .ref (a + 181), .ref (a + 271), .ref (a + 361), .ref (a + 367), .ref (a + 369), .null, .int 0]) :: (R ++ cReader cy (a + 371) (a + 367))) 378 3893 93 [(0, .ref a)] [.ref (a + 371), .ref a]
  refine c_putf (ci := 9) (q := 0) (j := 7) (v := .ref (a + 371)) (ty := tyX10 7) ok rfl rfl rfl (by decide) rfl (by decide +kernel) rfl rfl (Nat.le_of_ble_eq_true rfl) (Or.inl rfl) ⟨List.mem_of_getElem? (i := 439) (by decide +kernel), rfl⟩ (fun _ => ⟨hnm, rfl⟩) dX10_init_93 ?_
  exact kk
theorem n_X10_init (l : Launch) (D : va_G) (cy : Nat → ClassId) {a : Nat} : cMet l D cy yX10_init cX10_init 1 5 102 378 3893 [] a [.inr (9, [.null, .null, .null, .null, .null, .null, .null, .null, .int 0])] (cRouter cy a) := by
  refine cMet.of (by decide +kernel) RX10 rfl [(0, .ref a)] (fun h => h) (Nat.le_of_ble_eq_true rfl) (fun G ok hnm hret hQ => ?_)
  refine c_aload_n ok 0 dX10_init_0 rfl ?_
  refine c_obj ok ⟨List.mem_of_getElem? (i := 79) (by decide +kernel), rfl⟩ ⟨List.mem_of_getElem? (i := 80) (by decide +kernel), rfl⟩ ⟨List.mem_of_getElem? (i := 81) (by decide +kernel), rfl⟩ (by decide) (by decide) (by decide) dX10_init_1 ?_
  refine x10_0 ok hnm ?_
  refine x10_1 ok hnm (by simp only [List.length_append, cMesh_n, cRecording_n, cText_n]) ?_
  refine x10_2 ok hnm (by simp only [List.length_append, cMesh_n, cRecording_n, cText_n]) ?_
  refine x10_3 ok hnm (by simp only [List.length_append, cMesh_n, cRecording_n, cText_n]) ?_
  refine x10_4 ok hnm (by simp only [List.length_append, cMesh_n, cRecording_n, cText_n]) ?_
  refine x10_5 ok hnm (by simp only [List.length_append, cMesh_n, cRecording_n, cText_n]) ?_
  refine x10_6 ok hnm (by simp only [List.length_append, cMesh_n, cRecording_n, cText_n]) ?_
  refine x10_7 ok hnm (by simp only [List.length_append, cMesh_n, cRecording_n, cText_n]) ?_
  exact c_vret ok hret hQ rfl dX10_init_96
end CI5

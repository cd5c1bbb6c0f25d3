/-! ===== the constructors, those that make others ===== -/
section CI4
variable {D : va_G} {cy : Nat → ClassId} {bs : Nat} {G : zC} {own : String} {cc : ByteArray} {nL : Nat} {rm : Room} {ds ds' : List va_E} {kc kc' nc nc' pc : Nat} {lv : List (Nat × Value)} {st : List Value}
theorem c_ch (kk : cAt D G bs ds' kc' nc' pc lv st) (h : ds = ds') (h1 : kc = kc') (h2 : nc = nc') : cAt D G bs ds kc nc pc lv st := by
  subst h
  subst h1
  subst h2
  exact kk
theorem rfF_s {b d k x : Nat} (h : x = b + d * k) : va_up (rfF b d k) k (some x) = rfF b d (k + 1) := by
  funext j
  unfold va_up rfF
  by_cases h1 : j = k
  · rw [if_pos h1, if_pos (by omega), h1, h]
  · rw [if_neg h1]
    by_cases h2 : j < k
    · rw [if_pos h2, if_pos (by omega)]
    · rw [if_neg h2, if_neg (by omega)]
theorem rfF_0 {b d : Nat} : rfF b d 0 = fun _ => none := by
  funext j
  unfold rfF
  rw [if_neg (by omega)]
theorem n_X7_clear (l : Launch) (D : va_G) (cy : Nat → ClassId) {a : Nat} {r : Value} {w : Int32} {es : List va_E} : cMet l D cy yX7_clear cX7_clear 1 0 0 0 0 [] a (.inr (7, [r, .int w]) :: es) (.inr (7, [r, .int 0]) :: es) := by
  refine cMet.of (by decide +kernel) RX7 rfl [(0, .ref a)] (fun h => h) (Nat.le_of_ble_eq_true rfl) (fun G ok hnm hret hQ => ?_)
  refine c_aload_n ok 0 dX7_clear_0 rfl ?_
  refine c_iconst ok (0) dX7_clear_1 rfl ?_
  refine c_putf (ci := 7) (q := 0) (j := 1) (v := .int 0) (ty := tyX7 1) ok rfl rfl rfl (by decide) rfl (by decide +kernel) rfl rfl (Nat.le_of_ble_eq_true rfl) (Or.inl rfl) ⟨List.mem_of_getElem? (i := 250) (by decide +kernel), rfl⟩ (fun h => by cases h) dX7_clear_2 ?_
  show cAt D G a (.inr (7, [r, .int 0]) :: es) 0 0 5 [(0, .ref a)] []
  exact c_vret ok hret hQ rfl dX7_clear_5
theorem n_X3_begin (l : Launch) (D : va_G) (cy : Nat → ClassId) {a : Nat} {es : List va_E} : cMet l D cy yX3_begin cX3_begin 1 1 20 0 0 [] a (.inr (3, [.ref (a + 1), .int 0, .int 0, .ref (a + 3), .int 0, .int 0, .int 0]) :: (.inr (7, [.ref (a + 2), .int 0]) :: es)) (.inr (3, [.ref (a + 1), .int 0, .int 9, .ref (a + 3), .int 0, .int 1, .int (-1)]) :: (.inr (7, [.ref (a + 2), .int 0]) :: es)) := by
  refine cMet.of (by decide +kernel) RX3 rfl [(0, .ref a)] (fun h => h) (Nat.le_of_ble_eq_true rfl) (fun G ok hnm hret hQ => ?_)
  refine c_aload_n ok 0 dX3_begin_0 rfl ?_
  refine c_get (ci := 3) (q := 0) (j := 0) (v := .ref (a + 1)) ok rfl rfl rfl (by decide) rfl rfl (Or.inl rfl) ⟨List.mem_of_getElem? (i := 287) (by decide +kernel), rfl⟩ dX3_begin_1 ?_
  show cAt D G a (.inr (3, [.ref (a + 1), .int 0, .int 0, .ref (a + 3), .int 0, .int 0, .int 0]) :: (.inr (7, [.ref (a + 2), .int 0]) :: es)) 0 0 4 [(0, .ref a)] [.ref (a + 1)]
  refine c_callv (q := 1) (ci := 7) (ds0 := [.inr (3, [.ref (a + 1), .int 0, .int 0, .ref (a + 3), .int 0, .int 0, .int 0])]) ok [] (n_X7_clear _ D cy) rfl rfl rfl rfl cv_X3_28 rfl ⟨by decide, by decide⟩ ⟨by decide, by decide⟩ rfl (Nat.le_of_ble_eq_true rfl) dX3_begin_4 ?_
  show cAt D G a (.inr (3, [.ref (a + 1), .int 0, .int 0, .ref (a + 3), .int 0, .int 0, .int 0]) :: (.inr (7, [.ref (a + 2), .int 0]) :: es)) 0 0 7 [(0, .ref a)] []
  refine c_aload_n ok 0 dX3_begin_7 rfl ?_
  refine c_iconst ok (0) dX3_begin_8 rfl ?_
  refine c_putf (ci := 3) (q := 0) (j := 1) (v := .int 0) (ty := tyX3 1) ok rfl rfl rfl (by decide) rfl (by decide +kernel) rfl rfl (Nat.le_of_ble_eq_true rfl) (Or.inl rfl) ⟨List.mem_of_getElem? (i := 289) (by decide +kernel), rfl⟩ (fun h => by cases h) dX3_begin_9 ?_
  show cAt D G a (.inr (3, [.ref (a + 1), .int 0, .int 0, .ref (a + 3), .int 0, .int 0, .int 0]) :: (.inr (7, [.ref (a + 2), .int 0]) :: es)) 0 0 12 [(0, .ref a)] []
  refine c_aload_n ok 0 dX3_begin_12 rfl ?_
  refine c_bipush ok (9) dX3_begin_13 rfl ?_
  refine c_putf (ci := 3) (q := 0) (j := 2) (v := .int 9) (ty := tyX3 2) ok rfl rfl rfl (by decide) rfl (by decide +kernel) rfl rfl (Nat.le_of_ble_eq_true rfl) (Or.inl rfl) ⟨List.mem_of_getElem? (i := 291) (by decide +kernel), rfl⟩ (fun h => by cases h) dX3_begin_15 ?_
  show cAt D G a (.inr (3, [.ref (a + 1), .int 0, .int 9, .ref (a + 3), .int 0, .int 0, .int 0]) :: (.inr (7, [.ref (a + 2), .int 0]) :: es)) 0 0 18 [(0, .ref a)] []
  refine c_aload_n ok 0 dX3_begin_18 rfl ?_
  refine c_iconst ok (0) dX3_begin_19 rfl ?_
  refine c_putf (ci := 3) (q := 0) (j := 4) (v := .int 0) (ty := tyX3 4) ok rfl rfl rfl (by decide) rfl (by decide +kernel) rfl rfl (Nat.le_of_ble_eq_true rfl) (Or.inl rfl) ⟨List.mem_of_getElem? (i := 296) (by decide +kernel), rfl⟩ (fun h => by cases h) dX3_begin_20 ?_
  show cAt D G a (.inr (3, [.ref (a + 1), .int 0, .int 9, .ref (a + 3), .int 0, .int 0, .int 0]) :: (.inr (7, [.ref (a + 2), .int 0]) :: es)) 0 0 23 [(0, .ref a)] []
  refine c_aload_n ok 0 dX3_begin_23 rfl ?_
  refine c_iconst ok (1) dX3_begin_24 rfl ?_
  refine c_putf (ci := 3) (q := 0) (j := 5) (v := .int 1) (ty := tyX3 5) ok rfl rfl rfl (by decide) rfl (by decide +kernel) rfl rfl (Nat.le_of_ble_eq_true rfl) (Or.inl rfl) ⟨List.mem_of_getElem? (i := 299) (by decide +kernel), rfl⟩ (fun h => by cases h) dX3_begin_25 ?_
  show cAt D G a (.inr (3, [.ref (a + 1), .int 0, .int 9, .ref (a + 3), .int 0, .int 1, .int 0]) :: (.inr (7, [.ref (a + 2), .int 0]) :: es)) 0 0 28 [(0, .ref a)] []
  refine c_aload_n ok 0 dX3_begin_28 rfl ?_
  refine c_iconst ok (-1) dX3_begin_29 rfl ?_
  refine c_putf (ci := 3) (q := 0) (j := 6) (v := .int (-1)) (ty := tyX3 6) ok rfl rfl rfl (by decide) rfl (by decide +kernel) rfl rfl (Nat.le_of_ble_eq_true rfl) (Or.inl rfl) ⟨List.mem_of_getElem? (i := 302) (by decide +kernel), rfl⟩ (fun h => by cases h) dX3_begin_30 ?_
  show cAt D G a (.inr (3, [.ref (a + 1), .int 0, .int 9, .ref (a + 3), .int 0, .int 1, .int (-1)]) :: (.inr (7, [.ref (a + 2), .int 0]) :: es)) 0 0 33 [(0, .ref a)] []
  exact c_vret ok hret hQ rfl dX3_begin_33
theorem n_X3_init (l : Launch) (D : va_G) (cy : Nat → ClassId) {a : Nat} : cMet l D cy yX3_init cX3_init 2 3 60 6 60 [] a [.inr (3, [.null, .int 0, .int 0, .null, .int 0, .int 0, .int 0])] (cRule cy a) := by
  refine cMet.of (by decide +kernel) RX3 rfl [(0, .ref a)] (fun h => h) (Nat.le_of_ble_eq_true rfl) (fun G ok hnm hret hQ => ?_)
  have loop : ∀ d j, j + d = 3 → cAt D G a (.inr (3, [.ref (a + 1), .int 0, .int 0, .ref (a + 3), .int 0, .int 0, .int 0]) :: (cText cy (a + 1) ++ (.inl (cy 16, 3, .inr (.inr (.inr (.inr (rfF (a + 4) 1 j))))) :: List.replicate j (.inr (6, [.int 0, .int 0, .int 0, .int 0, .int 0]))))) (3 + j) (45 + 5 * j) 25 [(1, .int (nI j)), (0, .ref a)] [] := by
    intro d
    induction d with
    | zero =>
      intro j hj
      have : j = 3 := by omega
      subst this
      refine c_iload_n ok 0 dX3_init_25 rfl ?_
      refine c_iconst ok 3 dX3_init_26 rfl ?_
      refine c_icmp_ge ok 49 dX3_init_27 rfl (fun _ => ?_) (fun h => absurd (by decide) h)
      refine c_aload_n ok 1 dX3_init_49 rfl ?_
      refine c_callv (q := 0) (ci := 3) (ds0 := []) ok [] (n_X3_begin _ D cy) rfl rfl rfl rfl ⟨⟨List.mem_of_getElem? (i := 282) (by decide +kernel), rfl⟩, ⟨List.mem_of_getElem? (i := 67) (by decide +kernel), rfl⟩, ⟨List.mem_of_getElem? (i := 279) (by decide +kernel), rfl⟩, ⟨List.mem_of_getElem? (i := 280) (by decide +kernel), rfl⟩, ⟨List.mem_of_getElem? (i := 281) (by decide +kernel), rfl⟩, by decide +kernel, _, _, rfl⟩ rfl ⟨by decide, by decide⟩ ⟨by decide, by decide⟩ rfl (Nat.le_of_ble_eq_true rfl) dX3_init_50 ?_
      exact c_vret ok hret hQ rfl dX3_init_53
    | succ d ih =>
      intro j hj
      have hlen : (.inr (3, [.ref (a + 1), .int 0, .int 0, .ref (a + 3), .int 0, .int 0, .int 0]) :: (cText cy (a + 1) ++ (.inl (cy 16, 3, .inr (.inr (.inr (.inr (rfF (a + 4) 1 j))))) :: List.replicate j (.inr (6, [.int 0, .int 0, .int 0, .int 0, .int 0]))))).length = j + 4 := by
        simp [cText]
      refine c_iload_n ok 0 dX3_init_25 rfl ?_
      refine c_iconst ok 3 dX3_init_26 rfl ?_
      refine c_icmp_ge ok 49 dX3_init_27 rfl (fun h => absurd ((n_le (a := 3) (by omega) (by omega)).mp h) (by omega)) (fun _ => ?_)
      refine c_aload_n ok 1 dX3_init_30 rfl ?_
      refine c_get (ci := 3) (q := 0) (j := 3) (v := .ref (a + 3)) ok rfl rfl rfl (by decide) rfl rfl (Or.inl rfl) ⟨List.mem_of_getElem? (i := 293) (by decide +kernel), rfl⟩ dX3_init_31 ?_
      refine c_iload_n ok 0 dX3_init_34 rfl ?_
      refine c_new (ci := 6) (fs := [.int 0, .int 0, .int 0, .int 0, .int 0]) ok tyX6 tyX6_ok rfl ⟨List.mem_of_getElem? (i := 259) (by decide +kernel), rfl⟩ ⟨List.mem_of_getElem? (i := 261) (by decide +kernel), rfl⟩ ⟨List.mem_of_getElem? (i := 69) (by decide +kernel), rfl⟩ (fun j hj => by rcases (show j = 0 ∨ j = 1 ∨ j = 2 ∨ j = 3 ∨ j = 4 by omega) with rfl | rfl | rfl | rfl | rfl <;> rfl) (show 3 + j + 1 ≤ 6 by omega) (show 45 + 5 * j + 5 ≤ 60 by omega) dX3_init_35 ?_
      rw [hlen]
      refine c_dup ok dX3_init_38 rfl ?_
      refine c_init (q := j + 4) (np := 0) (y := yX6_init) (ds0 := (.inr (3, [.ref (a + 1), .int 0, .int 0, .ref (a + 3), .int 0, .int 0, .int 0]) :: (cText cy (a + 1) ++ (.inl (cy 16, 3, .inr (.inr (.inr (.inr (rfF (a + 4) 1 j))))) :: List.replicate j (.inr (6, [.int 0, .int 0, .int 0, .int 0, .int 0])))))) ok [] (n_X6_init _ D cy) rfl hlen rfl ⟨List.mem_of_getElem? (i := 264) (by decide +kernel), rfl⟩ ⟨List.mem_of_getElem? (i := 69) (by decide +kernel), rfl⟩ rfl ⟨List.mem_of_getElem? (i := 263) (by decide +kernel), rfl⟩ (by decide +kernel) rfl ⟨by decide, by decide⟩ ⟨show 3 + j + 1 + 0 ≤ 6 by omega, show 45 + 5 * j + 5 + 0 ≤ 60 by omega⟩ (Or.inr ⟨"MeshRouter", ⟨List.mem_of_getElem? (i := 262) (by decide +kernel), rfl⟩⟩) rfl (Nat.le_of_ble_eq_true rfl) dX3_init_39 ?_
      refine c_aast (q := 3) (qk := j + 4) (i := j) (N := 3) (t0 := 5) (ci := 6) (vs := [.int 0, .int 0, .int 0, .int 0, .int 0]) ok rfl rfl ?_ rfl rfl rfl (by omega) (by omega) dX3_init_42 ?_
      · rw [List.getElem?_append_right (by rw [hlen]; exact Nat.le_refl _), hlen, Nat.sub_self]
        rfl
      refine c_iinc ok [(1, .int (nI (j + 1))), (0, .ref a)] 0 dX3_init_43 rfl (d := 1) rfl (by decide) (by rw [nI_1]; rfl) ?_
      refine c_goto ok 25 dX3_init_46 rfl ?_
      refine c_ch (ih (j + 1) (by omega)) ?_ (by omega) (by omega)
      rw [List.replicate_succ', ← rfF_s (k := j) (x := a + (j + 4)) (by omega)]
      rfl
  refine c_aload_n ok 0 dX3_init_0 rfl ?_
  refine c_obj ok ⟨List.mem_of_getElem? (i := 242) (by decide +kernel), rfl⟩ ⟨List.mem_of_getElem? (i := 80) (by decide +kernel), rfl⟩ ⟨List.mem_of_getElem? (i := 81) (by decide +kernel), rfl⟩ (by decide) (by decide) (by decide) dX3_init_1 ?_
  refine c_aload_n ok 0 dX3_init_4 rfl ?_
  refine c_new (ci := 7) (fs := [.null, .int 0]) ok tyX7 tyX7_ok rfl ⟨List.mem_of_getElem? (i := 243) (by decide +kernel), rfl⟩ ⟨List.mem_of_getElem? (i := 244) (by decide +kernel), rfl⟩ ⟨List.mem_of_getElem? (i := 68) (by decide +kernel), rfl⟩ (fun j hj => by rcases (show j = 0 ∨ j = 1 by omega) with rfl | rfl <;> rfl) (by decide) (by decide) dX3_init_5 ?_
  show cAt D G a (.inr (3, [.null, .int 0, .int 0, .null, .int 0, .int 0, .int 0]) :: [.inr (7, [.null, .int 0])]) 1 2 8 [(0, .ref a)] [.ref (a + 1), .ref a]
  refine c_dup ok dX3_init_8 rfl ?_
  refine c_init (q := 1) (np := 0) (y := yX7_init) (ds0 := (.inr (3, [.null, .int 0, .int 0, .null, .int 0, .int 0, .int 0]) :: [])) ok [] (n_X7_init _ D cy) rfl rfl rfl ⟨List.mem_of_getElem? (i := 247) (by decide +kernel), rfl⟩ ⟨List.mem_of_getElem? (i := 68) (by decide +kernel), rfl⟩ rfl ⟨List.mem_of_getElem? (i := 246) (by decide +kernel), rfl⟩ (by decide +kernel) rfl ⟨by decide, by decide⟩ ⟨by decide, by decide⟩ (Or.inr ⟨"MeshRouter", ⟨List.mem_of_getElem? (i := 245) (by decide +kernel), rfl⟩⟩) rfl (Nat.le_of_ble_eq_true rfl) dX3_init_9 ?_
  show cAt D G a (.inr (3, [.null, .int 0, .int 0, .null, .int 0, .int 0, .int 0]) :: cText cy (a + 1)) 2 42 12 [(0, .ref a)] [.ref (a + 1), .ref a]
  refine c_putf (ci := 3) (q := 0) (j := 0) (v := .ref (a + 1)) (ty := tyX3 0) ok rfl rfl rfl (by decide) rfl (by decide +kernel) rfl rfl (Nat.le_of_ble_eq_true rfl) (Or.inl rfl) ⟨List.mem_of_getElem? (i := 287) (by decide +kernel), rfl⟩ (fun _ => ⟨hnm, rfl⟩) dX3_init_12 ?_
  show cAt D G a (.inr (3, [.ref (a + 1), .int 0, .int 0, .null, .int 0, .int 0, .int 0]) :: cText cy (a + 1)) 2 42 15 [(0, .ref a)] []
  refine c_aload_n ok 0 dX3_init_15 rfl ?_
  refine c_iconst ok (3) dX3_init_16 rfl ?_
  refine c_newq (kd := 16) (t0 := 5) (N := 3) ok rfl ⟨List.mem_of_getElem? (i := 259) (by decide +kernel), rfl⟩ ⟨List.mem_of_getElem? (i := 260) (by decide +kernel), rfl⟩ (by decide) (by decide) (by decide) (by decide) (by decide) dX3_init_17 ?_
  show cAt D G a (.inr (3, [.ref (a + 1), .int 0, .int 0, .null, .int 0, .int 0, .int 0]) :: (cText cy (a + 1) ++ [.inl (cy 16, 3, .inr (.inr (.inr (.inr (fun _ => none)))))])) 3 45 20 [(0, .ref a)] [.ref (a + 3), .ref a]
  refine c_putf (ci := 3) (q := 0) (j := 3) (v := .ref (a + 3)) (ty := tyX3 3) ok rfl rfl rfl (by decide) rfl (by decide +kernel) rfl rfl (Nat.le_of_ble_eq_true rfl) (Or.inl rfl) ⟨List.mem_of_getElem? (i := 293) (by decide +kernel), rfl⟩ (fun _ => ⟨hnm, rfl⟩) dX3_init_20 ?_
  show cAt D G a (.inr (3, [.ref (a + 1), .int 0, .int 0, .ref (a + 3), .int 0, .int 0, .int 0]) :: (cText cy (a + 1) ++ [.inl (cy 16, 3, .inr (.inr (.inr (.inr (fun _ => none)))))])) 3 45 23 [(0, .ref a)] []
  refine c_iconst ok (0) dX3_init_23 rfl ?_
  refine c_istore_n ok [(1, .int 0), (0, .ref a)] dX3_init_24 (by decide) rfl ?_
  have h0 := loop 3 0 (by omega)
  rw [rfF_0] at h0
  exact h0
theorem n_X4_init (l : Launch) (D : va_G) (cy : Nat → ClassId) {a tx : Nat} : cMet l D cy yX4_init cX4_init 2 4 81 7 67 [.ref tx] a [.inr (4, [.null, .null, .int 0])] (cReader cy a tx) := by
  refine cMet.of (by decide +kernel) RX4 rfl [(0, .ref a), (1, .ref tx)] (fun h => h) (Nat.le_of_ble_eq_true rfl) (fun G ok hnm hret hQ => ?_)
  refine c_aload_n ok 0 dX4_init_0 rfl ?_
  refine c_obj ok ⟨List.mem_of_getElem? (i := 418) (by decide +kernel), rfl⟩ ⟨List.mem_of_getElem? (i := 80) (by decide +kernel), rfl⟩ ⟨List.mem_of_getElem? (i := 81) (by decide +kernel), rfl⟩ (by decide) (by decide) (by decide) dX4_init_1 ?_
  refine c_aload_n ok 0 dX4_init_4 rfl ?_
  refine c_new (ci := 3) (fs := [.null, .int 0, .int 0, .null, .int 0, .int 0, .int 0]) ok tyX3 tyX3_ok rfl ⟨List.mem_of_getElem? (i := 419) (by decide +kernel), rfl⟩ ⟨List.mem_of_getElem? (i := 238) (by decide +kernel), rfl⟩ ⟨List.mem_of_getElem? (i := 67) (by decide +kernel), rfl⟩ (fun j hj => by rcases (show j = 0 ∨ j = 1 ∨ j = 2 ∨ j = 3 ∨ j = 4 ∨ j = 5 ∨ j = 6 by omega) with rfl | rfl | rfl | rfl | rfl | rfl | rfl <;> rfl) (by decide) (by decide) dX4_init_5 ?_
  show cAt D G a (.inr (4, [.null, .null, .int 0]) :: [.inr (3, [.null, .int 0, .int 0, .null, .int 0, .int 0, .int 0])]) 1 7 8 [(0, .ref a), (1, .ref tx)] [.ref (a + 1), .ref a]
  refine c_dup ok dX4_init_8 rfl ?_
  refine c_init (q := 1) (np := 0) (y := yX3_init) (ds0 := (.inr (4, [.null, .null, .int 0]) :: [])) ok [] (n_X3_init _ D cy) rfl rfl rfl ⟨List.mem_of_getElem? (i := 241) (by decide +kernel), rfl⟩ ⟨List.mem_of_getElem? (i := 67) (by decide +kernel), rfl⟩ rfl ⟨List.mem_of_getElem? (i := 240) (by decide +kernel), rfl⟩ (by decide +kernel) rfl ⟨by decide, by decide⟩ ⟨by decide, by decide⟩ (Or.inl ⟨List.mem_of_getElem? (i := 420) (by decide +kernel), rfl⟩) rfl (Nat.le_of_ble_eq_true rfl) dX4_init_9 ?_
  show cAt D G a (.inr (4, [.null, .null, .int 0]) :: cRule cy (a + 1)) 7 67 12 [(0, .ref a), (1, .ref tx)] [.ref (a + 1), .ref a]
  refine c_putf (ci := 4) (q := 0) (j := 1) (v := .ref (a + 1)) (ty := tyX4 1) ok rfl rfl rfl (by decide) rfl (by decide +kernel) rfl rfl (Nat.le_of_ble_eq_true rfl) (Or.inl rfl) ⟨List.mem_of_getElem? (i := 422) (by decide +kernel), rfl⟩ (fun _ => ⟨hnm, rfl⟩) dX4_init_12 ?_
  show cAt D G a (.inr (4, [.null, .ref (a + 1), .int 0]) :: cRule cy (a + 1)) 7 67 15 [(0, .ref a), (1, .ref tx)] []
  refine c_aload_n ok 0 dX4_init_15 rfl ?_
  refine c_aload_n ok 1 dX4_init_16 rfl ?_
  refine c_putf (ci := 4) (q := 0) (j := 0) (v := .ref tx) (ty := tyX4 0) ok rfl rfl rfl (by decide) rfl (by decide +kernel) rfl rfl (Nat.le_of_ble_eq_true rfl) (Or.inl rfl) ⟨List.mem_of_getElem? (i := 421) (by decide +kernel), rfl⟩ (fun _ => ⟨hnm, rfl⟩) dX4_init_17 ?_
  show cAt D G a (.inr (4, [.ref tx, .ref (a + 1), .int 0]) :: cRule cy (a + 1)) 7 67 20 [(0, .ref a), (1, .ref tx)] []
  exact c_vret ok hret hQ rfl dX4_init_20
end CI4

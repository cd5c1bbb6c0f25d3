/-! ===== the law from its entry to its end ===== -/
theorem lw_cmp {L k : Nat} (hL : L ≤ 3584) (hk : k ≤ 3584) (h : ¬ nI L - 7 < nI k) : k + 7 ≤ L := by
  by_cases h7 : 7 ≤ L
  · rw [show (7 : Int32) = nI 7 from rfl, n_sub L 7 h7, n_lt (by omega) (by omega)] at h
    omega
  · have h1 : nI L - 7 < 0 := by
      rcases (show L = 0 ∨ L = 1 ∨ L = 2 ∨ L = 3 ∨ L = 4 ∨ L = 5 ∨ L = 6 by omega) with rfl | rfl | rfl | rfl | rfl | rfl | rfl <;> decide
    have h2 : (0 : Int32) ≤ nI k := Int32.not_lt.mp (nI_pos (by omega))
    exact absurd (Int32.lt_of_lt_of_le h1 h2) h
section LM
variable {own : Nat → Nat} {P : zSt} {G : zC} {x y b L : Nat} {xs : Nat → Int32}
theorem lw_loop (ok : lCx P G x b L xs) (h9 : zT P 9 x) (h10 : zT P 10 y) : ∀ (e j : Nat) (M : zM), L ≤ 7 * (j + e) → 7 * j ≤ 3584 → REL own P x y (5 * j) M → lAt P G x M 18 [(3, .int (nI (7 * j))), (2, .ref y), (1, .ref x), (0, .ref b)] [] := by
  intro e
  induction e with
  | zero =>
    intro j M he hj hR
    refine l_iload_n ok 0 dL_law_18 rfl ?_
    refine l_aload_n ok 3 dL_law_19 rfl ?_
    refine l_alen ok dL_law_20 ?_
    refine l_bipush ok 7 dL_law_21 rfl ?_
    refine l_isub ok dL_law_23 ?_
    refine l_icmp_gt ok 908 dL_law_24 rfl (fun _ => ?_) (fun h => ?_)
    · refine l_iconst ok 1 dL_law_908 rfl ?_
      exact l_end ok
    · have := lw_cmp ok.le hj h
      omega
  | succ e ih =>
    intro j M he hj hR
    refine l_iload_n ok 0 dL_law_18 rfl ?_
    refine l_aload_n ok 3 dL_law_19 rfl ?_
    refine l_alen ok dL_law_20 ?_
    refine l_bipush ok 7 dL_law_21 rfl ?_
    refine l_isub ok dL_law_23 ?_
    refine l_icmp_gt ok 908 dL_law_24 rfl (fun _ => ?_) (fun h => ?_)
    · refine l_iconst ok 1 dL_law_908 rfl ?_
      exact l_end ok
    · have hi := lw_cmp ok.le hj h
      have hL := ok.le
      have next : ∀ M, REL own P x y (5 * j + 5) M → lAt P G x M 902 [(3, .int (nI (7 * j))), (2, .ref y), (1, .ref x), (0, .ref b)] [] := by
        intro M' hR'
        refine l_iinc ok [(3, .int (nI (7 * (j + 1)))), (2, .ref y), (1, .ref x), (0, .ref b)] 0 dL_law_902 rfl (d := nI 7) rfl (by decide) (by rw [n_add]; rfl) ?_
        refine l_goto ok 18 dL_law_905 rfl ?_
        exact ih (j + 1) M' (by omega) (by omega) hR'
      refine l_aload_n ok 3 dL_law_27 rfl ?_
      refine l_iload_n ok 0 dL_law_28 rfl ?_
      refine l_ald ok (by omega) dL_law_29 ?_
      refine l_bipush ok 31 dL_law_30 rfl ?_
      refine l_iand ok dL_law_32 ?_
      exact l_tsw ok 902 armsT dL_law_33 (by decide) (by decide) rfl (arms ok h9 h10 hi (by omega) hR next) (next M hR.same)
end LM
section LN
variable {D : va_G} {cy : Nat → ClassId} {G : zC} {x b L : Nat} {xs : Nat → Int32}
theorem lw_main (ok : lCx (pP D cy x) G x b L xs) (okc : cOK D cy x G "MeshRouterLaw" cL_law 4 room_1) : cAt D G x [] 0 0 0 [(0, .ref b)] [] := by
  refine c_new (ci := 9) (fs := [.null, .null, .null, .null, .null, .null, .null, .null, .int 0]) okc tyX10 tyX10_ok rfl ⟨List.mem_of_getElem? (i := 74) (by decide +kernel), rfl⟩ ⟨List.mem_of_getElem? (i := 75) (by decide +kernel), rfl⟩ ⟨List.mem_of_getElem? (i := 61) (by decide +kernel), rfl⟩ (fun j hj => by rcases (show j = 0 ∨ j = 1 ∨ j = 2 ∨ j = 3 ∨ j = 4 ∨ j = 5 ∨ j = 6 ∨ j = 7 ∨ j = 8 by omega) with rfl | rfl | rfl | rfl | rfl | rfl | rfl | rfl | rfl <;> rfl) (by decide) (by decide) dL_law_0 ?_
  show cAt D G x [.inr (9, [.null, .null, .null, .null, .null, .null, .null, .null, .int 0])] 1 9 3 [(0, .ref b)] [.ref x]
  refine c_dup okc dL_law_3 rfl ?_
  refine c_init (q := 0) (np := 0) (y := yX10_init) (ds0 := []) okc [] (n_X10_init _ D cy) rfl rfl rfl ⟨List.mem_of_getElem? (i := 78) (by decide +kernel), rfl⟩ ⟨List.mem_of_getElem? (i := 61) (by decide +kernel), rfl⟩ rfl ⟨List.mem_of_getElem? (i := 77) (by decide +kernel), rfl⟩ (by decide +kernel) rfl ⟨by decide, by decide⟩ ⟨by decide, by decide⟩ (Or.inl ⟨List.mem_of_getElem? (i := 76) (by decide +kernel), rfl⟩) rfl (Nat.le_of_ble_eq_true rfl) dL_law_4 ?_
  show cAt D G x (cRouter cy x) 379 3902 7 [(0, .ref b)] [.ref x]
  refine c_astore_n okc [(1, .ref x), (0, .ref b)] dL_law_7 (by decide) rfl ?_
  refine c_new (ci := 10) (fs := [.null, .null, .null, .null, .int 0, .int 0, .null, .int 0, .null, .null, .int 0, .null, .int 0, .int 0, .int 0, .null, .int 0, .null]) okc tyX11 tyX11_ok rfl ⟨List.mem_of_getElem? (i := 891) (by decide +kernel), rfl⟩ ⟨List.mem_of_getElem? (i := 892) (by decide +kernel), rfl⟩ ⟨List.mem_of_getElem? (i := 72) (by decide +kernel), rfl⟩ (fun j hj => by rcases (show j = 0 ∨ j = 1 ∨ j = 2 ∨ j = 3 ∨ j = 4 ∨ j = 5 ∨ j = 6 ∨ j = 7 ∨ j = 8 ∨ j = 9 ∨ j = 10 ∨ j = 11 ∨ j = 12 ∨ j = 13 ∨ j = 14 ∨ j = 15 ∨ j = 16 ∨ j = 17 by omega) with rfl | rfl | rfl | rfl | rfl | rfl | rfl | rfl | rfl | rfl | rfl | rfl | rfl | rfl | rfl | rfl | rfl | rfl <;> rfl) (by decide) (by decide) dL_law_8 ?_
  rw [cRouter_n]
  refine c_dup okc dL_law_11 rfl ?_
  refine c_init (q := 379) (np := 0) (y := yX11_init) (ds0 := cRouter cy x) okc [] (n_X11_init _ D cy) rfl cRouter_n rfl ⟨List.mem_of_getElem? (i := 895) (by decide +kernel), rfl⟩ ⟨List.mem_of_getElem? (i := 72) (by decide +kernel), rfl⟩ rfl ⟨List.mem_of_getElem? (i := 894) (by decide +kernel), rfl⟩ (by decide +kernel) rfl ⟨by decide, by decide⟩ ⟨by decide, by decide⟩ (Or.inl ⟨List.mem_of_getElem? (i := 893) (by decide +kernel), rfl⟩) rfl (Nat.le_of_ble_eq_true rfl) dL_law_12 ?_
  show cAt D G x (cRouter cy x ++ cModel cy (x + 379)) 390 9670 15 [(1, .ref x), (0, .ref b)] [.ref (x + 379)]
  refine c_astore_n okc [(2, .ref (x + 379)), (1, .ref x), (0, .ref b)] dL_law_15 (by decide) rfl ?_
  refine c_iconst okc (nI (7 * 0)) dL_law_16 rfl ?_
  refine c_istore_n okc [(3, .int (nI (7 * 0))), (2, .ref (x + 379)), (1, .ref x), (0, .ref b)] dL_law_17 (by decide) rfl ?_
  have h9 : zT (pP D cy x) 9 x := by
    have h1 : zT (pP D cy x) 9 (x + 0) := ⟨p_in (by omega), by rw [p_K]; exact d_rest.2.2.2.2.2.2.2.2.1⟩
    exact h1
  have h10 : zT (pP D cy x) 10 (x + 379) := ⟨p_in (by omega), by rw [p_K]; exact d_rest.2.2.2.2.2.2.2.2.2.2.2⟩
  intro H locs ls hW hS hl
  exact lw_loop (own := pO x) ok h9 h10 L 0 (pM x) (by omega) (by omega) g_REL p_WM H locs ls (p_zW hW) hS hl
end LN

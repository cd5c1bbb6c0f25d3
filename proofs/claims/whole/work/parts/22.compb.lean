section CB
variable {own : Nat → Nat} {P : zSt} {m0 m : zM} {u N R T : Nat} {g : zGr} {c : Int32} {V : Nat → Int32}
theorem sCw_ru {ci wi : Nat → Nat} {cand : Nat → Bool} {n : Nat} (hL : RuL V R) (h : ∀ r i, r < R → i < n → 231 + 58 * r ≠ ci i ∧ 231 + 58 * r + 43 ≠ ci i) : RuL (sCw ci wi cand V n).2.2 R := hL.to (fun r hr => ⟨sCw_keep (fun i hi => (h r i hr hi).1), sCw_keep (fun i hi => (h r i hr hi).2)⟩)
theorem c_choose_l (hf : Mf own P u g N) (hL : RuL V R) {a : Nat} {q : Nat → Bool} : ∀ d k fu (m : zM), k + d = N → d < fu → Ms own P m0 m u g N R c (sCw bCi bWi a.testBit V k).2.2 T → Flg m g 2 N a.testBit → Flg m g 13 N q →
    ∃ m', f_X9_chooseByWeights_13_b7 P fu (zR P 20 u) (nI N) (oI (sCw bCi bWi a.testBit V k).1) (sCw bCi bWi a.testBit V k).2.1 (nI k) m = some (oI (sCw bCi bWi a.testBit V N).1, m') ∧ Ms own P m0 m' u g N R c (sCwE bCi bWi a.testBit V N).2 T ∧ Flg m' g 2 N a.testBit ∧ Flg m' g 13 N q := by
  have h12 := hf.2.2
  intro d
  induction d with
  | zero =>
    intro k fu m hk hfu hM h2 h13
    obtain ⟨fu, rfl⟩ : ∃ f, fu = f + 1 := ⟨fu - 1, by omega⟩
    have : k = N := by omega
    subst this
    unfold f_X9_chooseByWeights_13_b7 f_X9_chooseByWeights_13_b85 f_X9_chooseByWeights_13_b102
    rw [if_pos (Int32.le_refl _)]
    have hLk : RuL (sCw bCi bWi a.testBit V k).2.2 R := sCw_ru hL (fun r i hr hi => by unfold bCi; omega)
    unfold sCwE
    dsimp only
    cases hq : (sCw bCi bWi a.testBit V k).1 with
    | none =>
      rw [if_pos (show oI none = (-1 : Int32) from rfl)]
      exact ⟨m, rfl, hM, h2, h13⟩
    | some b =>
      have hb := (sCw_lt hq).1
      rw [show oI (some b) = nI b from rfl, if_neg (fun h => nI_pos (show b < 2 ^ 31 by omega) (by rw [h]; decide)), hf.1.1, zin_12 (by omega), zgd_t, n_nat (by omega), hM.1.1 b (by omega), zl_s, zl_s]
      have e : zf m 1 (gB g b) = (sCw bCi bWi a.testBit V k).2.2 (bCi b) := hM.2.1.2.1 b 4 hb (by omega)
      rw [e]
      exact ⟨_, rfl, hM.updB hLk hf (k := 4) hb (by omega), h2.ne (by decide), h13.ne (by decide)⟩
  | succ d ih =>
    intro k fu m hk hfu hM h2 h13
    obtain ⟨fu, rfl⟩ : ∃ f, fu = f + 1 := ⟨fu - 1, by omega⟩
    have hkN : k < N := by omega
    have hLk : RuL (sCw bCi bWi a.testBit V k).2.2 R := sCw_ru hL (fun r i hr hi => by unfold bCi; omega)
    have hg := ih (k + 1) fu
    rw [sCw_s] at hg
    unfold f_X9_chooseByWeights_13_b7 f_X9_chooseByWeights_13_b76 f_X9_chooseByWeights_13_b79
    rw [if_neg (by rw [n_le (by omega) (by omega)]; omega), hf.1.1, if_neg (by rw [show Int32.ofNat 12 = nI 12 from rfl, n_le (by omega) (by omega)]; omega), zin_12 (by omega), zgd_t, n_nat (by omega), hM.1.1 k (by omega), zl_s, h2 k hkN]
    cases hc : a.testBit k with
    | false =>
      rw [hc] at hg
      simp only [Bool.false_eq_true, if_false] at hg
      rw [if_pos bI_f, zl_s, nI_1]
      exact hg m (by omega) (by omega) hM h2 h13
    | true =>
      rw [hc] at hg
      simp only [if_true] at hg
      rw [if_neg (by decide), zl_s, zl_s]
      have e1 : zf m 1 (gB g k) = (sCw bCi bWi a.testBit V k).2.2 (bCi k) := hM.2.1.2.1 k 4 hkN (by omega)
      have e0 : zf m 0 (gB g k) = (sCw bCi bWi a.testBit V k).2.2 (bWi k) := hM.2.1.2.1 k 2 hkN (by omega)
      rw [e1, e0]
      have hM1 : Ms own P m0 (zfp m 1 (gB g k) ((sCw bCi bWi a.testBit V k).2.2 (bCi k) + (sCw bCi bWi a.testBit V k).2.2 (bWi k))) u g N R c (uV (sCw bCi bWi a.testBit V k).2.2 (bCi k) ((sCw bCi bWi a.testBit V k).2.2 (bCi k) + (sCw bCi bWi a.testBit V k).2.2 (bWi k))) T := hM.updB hLk hf (k := 4) hkN (by omega)
      have h21 : Flg (zfp m 1 (gB g k) ((sCw bCi bWi a.testBit V k).2.2 (bCi k) + (sCw bCi bWi a.testBit V k).2.2 (bWi k))) g 2 N a.testBit := h2.ne (by decide)
      have h131 : Flg (zfp m 1 (gB g k) ((sCw bCi bWi a.testBit V k).2.2 (bCi k) + (sCw bCi bWi a.testBit V k).2.2 (bWi k))) g 13 N q := h13.ne (by decide)
      have ew : zf (zfp m 1 (gB g k) ((sCw bCi bWi a.testBit V k).2.2 (bCi k) + (sCw bCi bWi a.testBit V k).2.2 (bWi k))) 0 (gB g k) = uV (sCw bCi bWi a.testBit V k).2.2 (bCi k) ((sCw bCi bWi a.testBit V k).2.2 (bCi k) + (sCw bCi bWi a.testBit V k).2.2 (bWi k)) (bWi k) := hM1.2.1.2.1 k 2 hkN (by omega)
      rw [ew]
      cases hq : (sCw bCi bWi a.testBit V k).1 with
      | none =>
        rw [hq] at hg
        rw [if_pos (show oI none = (-1 : Int32) from rfl), nI_1]
        exact hg _ (by omega) (by omega) hM1 h21 h131
      | some b =>
        have hb := (sCw_lt hq).1
        rw [hq] at hg
        dsimp only at hg
        rw [show oI (some b) = nI b from rfl, if_neg (fun h => nI_pos (show b < 2 ^ 31 by omega) (by rw [h]; decide)), zin_12 (by omega), zgd_t, n_nat (by omega), hM1.1.1 b (by omega), zl_s]
        have ek : zf (zfp m 1 (gB g k) ((sCw bCi bWi a.testBit V k).2.2 (bCi k) + (sCw bCi bWi a.testBit V k).2.2 (bWi k))) 1 (gB g k) = uV (sCw bCi bWi a.testBit V k).2.2 (bCi k) ((sCw bCi bWi a.testBit V k).2.2 (bCi k) + (sCw bCi bWi a.testBit V k).2.2 (bWi k)) (bCi k) := hM1.2.1.2.1 k 4 hkN (by omega)
        have eb : zf (zfp m 1 (gB g k) ((sCw bCi bWi a.testBit V k).2.2 (bCi k) + (sCw bCi bWi a.testBit V k).2.2 (bWi k))) 1 (gB g b) = uV (sCw bCi bWi a.testBit V k).2.2 (bCi k) ((sCw bCi bWi a.testBit V k).2.2 (bCi k) + (sCw bCi bWi a.testBit V k).2.2 (bWi k)) (bCi b) := hM1.2.1.2.1 b 4 (by omega) (by omega)
        rw [ek, eb, nI_1]
        by_cases h9 : uV (sCw bCi bWi a.testBit V k).2.2 (bCi k) ((sCw bCi bWi a.testBit V k).2.2 (bCi k) + (sCw bCi bWi a.testBit V k).2.2 (bWi k)) (bCi b) < uV (sCw bCi bWi a.testBit V k).2.2 (bCi k) ((sCw bCi bWi a.testBit V k).2.2 (bCi k) + (sCw bCi bWi a.testBit V k).2.2 (bWi k)) (bCi k)
        · rw [if_pos h9] at hg
          rw [if_neg (Int32.not_le.mpr h9)]
          exact hg _ (by omega) (by omega) hM1 h21 h131
        · rw [if_neg h9] at hg
          rw [if_pos (Int32.not_lt.mp h9)]
          exact hg _ (by omega) (by omega) hM1 h21 h131
theorem c_choose (hf : Mf own P u g N) (hL : RuL V R) {a : Nat} {q : Nat → Bool} (hM : Ms own P m0 m u g N R c V T) (h2 : Flg m g 2 N a.testBit) (h13 : Flg m g 13 N q) :
    ∃ m', f_X9_chooseByWeights_13 P (zR P 20 u) (nI N) m = some (oI (sCw bCi bWi a.testBit V N).1, m') ∧ Ms own P m0 m' u g N R c (sCwE bCi bWi a.testBit V N).2 T ∧ Flg m' g 2 N a.testBit ∧ Flg m' g 13 N q :=
  c_choose_l hf hL N 0 zfuel m (by omega) (by have := hf.2.2; unfold zfuel; omega) hM h2 h13
theorem c_least_l (hG : GM P m u g) (hf : Mf own P u g N) (hp : PicB m g N V) (hN : zf m 21 u = nI N) {a : Nat} (h2 : Flg m g 2 N a.testBit) : ∀ d k fu, k + d = N → d < fu → f_X1_pickLeastUsed_b4 P fu u (oI (sLu a.testBit V k)) (nI k) m = some (oI (sLu a.testBit V N), m) := by
  have h12 := hf.2.2
  intro d
  induction d with
  | zero =>
    intro k fu hk hfu
    obtain ⟨fu, rfl⟩ : ∃ f, fu = f + 1 := ⟨fu - 1, by omega⟩
    have : k = N := by omega
    subst this
    unfold f_X1_pickLeastUsed_b4
    rw [hN, if_pos (Int32.le_refl _)]
  | succ d ih =>
    intro k fu hk hfu
    obtain ⟨fu, rfl⟩ : ∃ f, fu = f + 1 := ⟨fu - 1, by omega⟩
    have hkN : k < N := by omega
    have hg := ih (k + 1) fu (by omega) (by omega)
    rw [sLu_s] at hg
    unfold f_X1_pickLeastUsed_b4 f_X1_pickLeastUsed_b47 f_X1_pickLeastUsed_b49
    rw [hN, if_neg (by rw [n_le (by omega) (by omega)]; omega), zl_s, hf.1.1, zin_12 (by omega), zgd_t, n_nat (by omega), hG.1 k (by omega), zl_s, h2 k hkN]
    cases hc : a.testBit k with
    | false =>
      rw [hc] at hg
      simp only [Bool.false_eq_true, if_false] at hg
      rw [if_pos bI_f, zl_s, nI_1]
      exact hg
    | true =>
      rw [hc] at hg
      simp only [if_true] at hg
      rw [if_neg (by decide)]
      cases hq : sLu a.testBit V k with
      | none =>
        rw [hq] at hg
        rw [if_pos (show oI none = (-1 : Int32) from rfl), zl_s, nI_1]
        exact hg
      | some b =>
        have hb := (sLu_lt hq).1
        rw [hq] at hg
        dsimp only at hg
        rw [show oI (some b) = nI b from rfl, if_neg (fun h => nI_pos (show b < 2 ^ 31 by omega) (by rw [h]; decide)), zl_s, hf.1.1, zin_12 (show k < 12 by omega), zgd_t, hG.1 k (by omega), zl_s, zl_s, hf.1.1, zin_12 (show b < 12 by omega), zgd_t, n_nat (show b < 2 ^ 31 by omega), hG.1 b (by omega), zl_s]
        unfold f_X0_isLessUsedThan
        have k6 : zf m 6 (gB g k) = V (12 * k + 5) := hp k 5 hkN (by omega)
        have k0 : zf m 0 (gB g k) = V (12 * k + 2) := hp k 2 hkN (by omega)
        have b6 : zf m 6 (gB g b) = V (12 * b + 5) := hp b 5 (by omega) (by omega)
        have b0 : zf m 0 (gB g b) = V (12 * b + 2) := hp b 2 (by omega) (by omega)
        rw [k6, k0, b6, b0]
        by_cases h9 : V (12 * k + 5) * V (12 * b + 2) < V (12 * b + 5) * V (12 * k + 2)
        · rw [if_pos h9] at hg
          rw [if_neg (Int32.not_le.mpr h9), zbo_1, zgd_t, zb_s]
          dsimp only
          rw [if_neg (by decide), zl_s, nI_1]
          exact hg
        · rw [if_neg h9] at hg
          rw [if_pos (Int32.not_lt.mp h9), zbo_0, zgd_t, zb_s]
          dsimp only
          rw [if_pos rfl, zl_s, nI_1]
          exact hg
theorem c_least (hG : GM P m u g) (hf : Mf own P u g N) (hp : PicB m g N V) (hN : zf m 21 u = nI N) {a : Nat} (h2 : Flg m g 2 N a.testBit) : f_X1_pickLeastUsed P u m = some (oI (sLu a.testBit V N), m) :=
  c_least_l hG hf hp hN h2 N 0 zfuel (by omega) (by have := hf.2.2; unfold zfuel; omega)
end CB

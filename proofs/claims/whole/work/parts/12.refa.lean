section RZ
variable {P : zSt} {y : Nat} {m : zM}
theorem z144 : (144 : Int32).toNatClampNeg = 144 := by decide
theorem zin144 : zin (144 : Int32) 723 = true := by decide
theorem r_isAvailable (ok : yOK P y) {i : Nat} {s : Int32} (hi : i < 12) : f_X11_isAvailable P y (nI i) s m = some (bI (sAv (za m (yv P y)) i s), m) := by
  unfold f_X11_isAvailable f_X11_isAvailable_b23
  rw [r_isMember ok hi, zb_s]
  dsimp only
  unfold sAv
  by_cases h1 : sMem (za m (yv P y)) i s = true
  · rw [h1, if_neg (by decide), show (9 : Int32) = nI 9 from rfl, r_of ok hi (by omega), zb_s]
    dsimp only
    by_cases h2 : za m (yv P y) (12 * i + 9) = 0
    · simp [h2, zgd, zbo, bI]
    · simp [h2, zgd, zbo, bI]
  · have h1 : sMem (za m (yv P y)) i s = false := by simpa using h1
    rw [h1, if_pos bI_f]
    rfl
theorem r_availables_l (ok : yOK P y) {s : Int32} {N : Nat} (hN : za m (yv P y) 144 = nI N) (h12 : N ≤ 12) : ∀ d k fu, k + d = N → d < fu → f_X11_availables_b4 P fu y s (nI (mAv (za m (yv P y)) s k)) (nI k) m = some (nI (mAv (za m (yv P y)) s N), m) := by
  intro d
  induction d with
  | zero =>
    intro k fu hk hf
    obtain ⟨fu, rfl⟩ : ∃ f, fu = f + 1 := ⟨fu - 1, by omega⟩
    have : k = N := by omega
    subst this
    unfold f_X11_availables_b4
    rw [zl_s, ok.1, zin144, z144, zgd_t, hN, if_pos (Int32.le_refl _)]
  | succ d ih =>
    intro k fu hk hf
    obtain ⟨fu, rfl⟩ : ∃ f, fu = f + 1 := ⟨fu - 1, by omega⟩
    have hkN : k < N := by omega
    unfold f_X11_availables_b4
    rw [zl_s, ok.1, zin144, z144, zgd_t, hN, if_neg (by rw [n_le (by omega) (by omega)]; omega), r_isAvailable ok (by omega), zb_s]
    dsimp only
    unfold f_X11_availables_b33
    simp only [zl_s]
    have hl : mAv (za m (yv P y)) s k < 2 ^ 31 := Nat.lt_of_lt_of_le mAv_lt (Nat.pow_le_pow_right (by decide) (by omega))
    have hg := ih (k + 1) fu (by omega) (by omega)
    rw [mAv_s] at hg
    by_cases h1 : sAv (za m (yv P y)) k s = true
    · rw [h1, if_neg (by decide), n_shl (by omega), n_or hl (Nat.lt_of_lt_of_le (Nat.pow_lt_pow_right (by decide) (show k < 12 by omega)) (by decide)), nI_1]
      rw [if_pos h1] at hg
      exact hg
    · have h1 : sAv (za m (yv P y)) k s = false := by simpa using h1
      rw [h1, if_pos bI_f, show (0 : Int32) = nI 0 from rfl, n_or hl (by decide), nI_1]
      rw [if_neg (by rw [h1]; decide)] at hg
      exact hg
theorem r_availables (ok : yOK P y) {s : Int32} {N : Nat} (hN : za m (yv P y) 144 = nI N) (h12 : N ≤ 12) : f_X11_availables P y s m = some (nI (mAv (za m (yv P y)) s N), m) := by
  have h := r_availables_l ok (s := s) hN h12 N 0 zfuel (by omega) (by unfold zfuel; omega)
  exact h
theorem r_weights_l (ok : yOK P y) {a N : Nat} (ha : a < 2 ^ 31) (hN : za m (yv P y) 144 = nI N) (h12 : N ≤ 12) : ∀ d k fu, k + d = N → d < fu → f_X11_weights_b4 P fu y (nI a) (sSw a.testBit (za m (yv P y)) k) (nI k) m = some (sSw a.testBit (za m (yv P y)) N, m) := by
  intro d
  induction d with
  | zero =>
    intro k fu hk hf
    obtain ⟨fu, rfl⟩ : ∃ f, fu = f + 1 := ⟨fu - 1, by omega⟩
    have : k = N := by omega
    subst this
    unfold f_X11_weights_b4
    rw [zl_s, ok.1, zin144, z144, zgd_t, hN, if_pos (Int32.le_refl _)]
  | succ d ih =>
    intro k fu hk hf
    obtain ⟨fu, rfl⟩ : ∃ f, fu = f + 1 := ⟨fu - 1, by omega⟩
    have hkN : k < N := by omega
    unfold f_X11_weights_b4
    rw [zl_s, ok.1, zin144, z144, zgd_t, hN, if_neg (by rw [n_le (by omega) (by omega)]; omega), n_bit ha (by omega)]
    unfold f_X11_weights_b36
    simp only [zl_s]
    have hg := ih (k + 1) fu (by omega) (by omega)
    rw [sSw_s] at hg
    by_cases h1 : a.testBit k = true
    · rw [h1, if_pos bI_t, show (2 : Int32) = nI 2 from rfl, r_of ok (by omega) (by omega), zb_s, nI_1]
      rw [if_pos h1] at hg
      exact hg
    · have h1 : a.testBit k = false := by simpa using h1
      rw [h1, if_neg (by decide), nI_1]
      rw [if_neg (by rw [h1]; decide)] at hg
      exact hg
theorem r_weights (ok : yOK P y) {a N : Nat} (ha : a < 2 ^ 31) (hN : za m (yv P y) 144 = nI N) (h12 : N ≤ 12) : f_X11_weights P y (nI a) m = some (sSw a.testBit (za m (yv P y)) N, m) := r_weights_l ok ha hN h12 N 0 zfuel (by omega) (by unfold zfuel; omega)
theorem oI_neg {o : Option Nat} {N : Nat} (h : ∀ b, o = some b → b < N) (hN : N ≤ 2 ^ 31) : (oI o < 0) ↔ o = none := by
  cases o with
  | none => exact ⟨fun _ => rfl, fun _ => by decide⟩
  | some b =>
    have hb := h b rfl
    constructor
    · intro h2
      exact absurd h2 (nI_pos (by omega))
    · intro h2
      cases h2
theorem sLu_lt {cand : Nat → Bool} {V : Nat → Int32} {n b : Nat} (h : sLu cand V n = some b) : b < n ∧ cand b = true := by
  induction n generalizing b with
  | zero => cases h
  | succ k ih =>
    unfold sLu at h
    by_cases hc : cand k = true
    · simp only [hc, if_true] at h
      cases hq : sLu cand V k with
      | none =>
        rw [hq] at h
        cases h
        exact ⟨by omega, hc⟩
      | some b' =>
        rw [hq] at h
        dsimp only at h
        split at h
        · cases h
          exact ⟨by omega, hc⟩
        · cases h
          have := ih hq
          exact ⟨by omega, this.2⟩
    · rw [if_neg hc] at h
      have := ih h
      exact ⟨by omega, this.2⟩
theorem r_leastUsed_l (ok : yOK P y) {a N : Nat} (ha : a < 2 ^ 31) (hN : za m (yv P y) 144 = nI N) (h12 : N ≤ 12) : ∀ d k fu, k + d = N → d < fu → f_X11_leastUsed_b4 P fu y (nI a) (oI (sLu a.testBit (za m (yv P y)) k)) (nI k) m = some (oI (sLu a.testBit (za m (yv P y)) N), m) := by
  intro d
  induction d with
  | zero =>
    intro k fu hk hf
    obtain ⟨fu, rfl⟩ : ∃ f, fu = f + 1 := ⟨fu - 1, by omega⟩
    have : k = N := by omega
    subst this
    unfold f_X11_leastUsed_b4
    rw [zl_s, ok.1, zin144, z144, zgd_t, hN, if_pos (Int32.le_refl _)]
  | succ d ih =>
    intro k fu hk hf
    obtain ⟨fu, rfl⟩ : ∃ f, fu = f + 1 := ⟨fu - 1, by omega⟩
    have hkN : k < N := by omega
    unfold f_X11_leastUsed_b4
    rw [zl_s, ok.1, zin144, z144, zgd_t, hN, if_neg (by rw [n_le (by omega) (by omega)]; omega), n_bit ha (by omega)]
    unfold f_X11_leastUsed_b58 f_X11_leastUsed_b60
    simp only [zl_s]
    have hg := ih (k + 1) fu (by omega) (by omega)
    rw [sLu_s] at hg
    by_cases h1 : a.testBit k = true
    · rw [h1, if_pos bI_t]
      simp only [h1, if_true] at hg
      cases hq : sLu a.testBit (za m (yv P y)) k with
      | none =>
        rw [hq] at hg
        rw [if_pos (by decide), nI_1]
        exact hg
      | some b =>
        have hb := (sLu_lt hq).1
        rw [hq] at hg
        rw [show oI (some b) = nI b from rfl, if_neg (nI_pos (by omega)), show (5 : Int32) = nI 5 from rfl, show (2 : Int32) = nI 2 from rfl, r_of ok (by omega) (by omega), zb_s]
        dsimp only
        rw [r_of ok (by omega) (by omega), zb_s]
        dsimp only
        rw [r_of ok (by omega) (by omega), zb_s]
        dsimp only
        rw [r_of ok (by omega) (by omega), zb_s, nI_1]
        dsimp only at hg ⊢
        by_cases h2 : za m (yv P y) (12 * k + 5) * za m (yv P y) (12 * b + 2) < za m (yv P y) (12 * b + 5) * za m (yv P y) (12 * k + 2)
        · rw [if_pos h2] at hg
          rw [if_neg (Int32.not_le.mpr h2)]
          exact hg
        · rw [if_neg h2] at hg
          rw [if_pos (Int32.not_lt.mp h2)]
          exact hg
    · have h1 : a.testBit k = false := by simpa using h1
      rw [h1, if_neg (by decide), nI_1]
      rw [if_neg (by rw [h1]; decide)] at hg
      exact hg
theorem r_leastUsed (ok : yOK P y) {a N : Nat} (ha : a < 2 ^ 31) (hN : za m (yv P y) 144 = nI N) (h12 : N ≤ 12) : f_X11_leastUsed P y (nI a) m = some (oI (sLu a.testBit (za m (yv P y)) N), m) := r_leastUsed_l ok ha hN h12 N 0 zfuel (by omega) (by unfold zfuel; omega)
theorem sCw_lt {ci wi : Nat → Nat} {cand : Nat → Bool} {V : Nat → Int32} {n b : Nat} (h : (sCw ci wi cand V n).1 = some b) : b < n ∧ cand b = true := by
  induction n generalizing b with
  | zero => cases h
  | succ k ih =>
    unfold sCw at h
    by_cases hc : cand k = true
    · simp only [hc, if_true] at h
      cases hq : (sCw ci wi cand V k).1 with
      | none =>
        rw [hq] at h
        cases h
        exact ⟨by omega, hc⟩
      | some b' =>
        rw [hq] at h
        dsimp only at h
        split at h
        · cases h
          exact ⟨by omega, hc⟩
        · cases h
          have := ih hq
          exact ⟨by omega, this.2⟩
    · rw [if_neg hc] at h
      have := ih h
      exact ⟨by omega, this.2⟩
theorem sCw_some {ci wi : Nat → Nat} {cand : Nat → Bool} {V : Nat → Int32} {n i : Nat} (hi : i < n) (hc : cand i = true) : ∃ b, (sCw ci wi cand V n).1 = some b := by
  induction n with
  | zero => omega
  | succ k ih =>
    unfold sCw
    by_cases h : cand k = true
    · simp only [h, if_true]
      cases hq : (sCw ci wi cand V k).1 with
      | none => exact ⟨_, rfl⟩
      | some b' =>
        dsimp only
        split
        · exact ⟨_, rfl⟩
        · exact ⟨_, rfl⟩
    · rw [if_neg h]
      refine ih ?_
      by_cases e : i = k
      · subst e
        exact absurd hc h
      · omega
/-- what isn't a credit stays -/
theorem sCw_keep {ci wi : Nat → Nat} {cand : Nat → Bool} {V : Nat → Int32} {n j : Nat} (h : ∀ i, i < n → j ≠ ci i) : (sCw ci wi cand V n).2.2 j = V j := by
  induction n with
  | zero => rfl
  | succ k ih =>
    unfold sCw
    have ih := ih (fun i hi => h i (by omega))
    by_cases hc : cand k = true
    · simp only [hc, if_true]
      rw [uV_n (h k (by omega)), ih]
    · rw [if_neg hc, ih]
theorem r_byWeights_l (ok : yOK P y) {V : Nat → Int32} {a N b : Nat} (ha : a < 2 ^ 31) (hN : V 144 = nI N) (h12 : N ≤ 12) (hs : (sCw bCi bWi a.testBit V N).1 = some b) : ∀ d k fu, k + d = N → d < fu → f_X11_byWeights_b7 P fu y (nI a) (oI (sCw bCi bWi a.testBit V k).1) (sCw bCi bWi a.testBit V k).2.1 (nI k) (wA m (yv P y) (sCw bCi bWi a.testBit V k).2.2) = some (nI b, wA m (yv P y) (sCwE bCi bWi a.testBit V N).2) := by
  intro d
  induction d with
  | zero =>
    intro k fu hk hf
    obtain ⟨fu, rfl⟩ : ∃ f, fu = f + 1 := ⟨fu - 1, by omega⟩
    have : k = N := by omega
    subst this
    have hb := (sCw_lt hs).1
    unfold f_X11_byWeights_b7
    rw [zl_s, ok.1, zin144, z144, zgd_t, za_wA, sCw_keep (by intro i hi; unfold bCi; omega), hN, if_pos (Int32.le_refl _), hs, show oI (some b) = nI b from rfl, show (4 : Int32) = nI 4 from rfl, r_of ok (by omega) (by omega), zb_s]
    dsimp only
    rw [r_sets ok (by omega) (by omega), zb_s]
    dsimp only
    rw [za_wA, wA_wA]
    unfold sCwE
    simp only [hs]
    rfl
  | succ d ih =>
    intro k fu hk hf
    obtain ⟨fu, rfl⟩ : ∃ f, fu = f + 1 := ⟨fu - 1, by omega⟩
    have hkN : k < N := by omega
    have hg := ih (k + 1) fu (by omega) (by omega)
    unfold f_X11_byWeights_b7
    rw [zl_s, ok.1, zin144, z144, zgd_t, za_wA, sCw_keep (by intro i hi; unfold bCi; omega), hN, if_neg (by rw [n_le (by omega) (by omega)]; omega), n_bit ha (by omega)]
    unfold f_X11_byWeights_b84 f_X11_byWeights_b87
    simp only [zl_s]
    rw [sCw_s] at hg
    by_cases h1 : a.testBit k = true
    · rw [h1, if_neg (by decide), show (4 : Int32) = nI 4 from rfl, show (2 : Int32) = nI 2 from rfl]
      simp only [h1, if_true] at hg
      rw [r_of ok (by omega) (by omega), zb_s]
      dsimp only
      rw [r_of ok (by omega) (by omega), zb_s]
      dsimp only
      rw [r_sets ok (by omega) (by omega), zb_s]
      dsimp only
      rw [r_of ok (by omega) (by omega), zb_s]
      dsimp only
      rw [za_wA, wA_wA, za_wA]
      have hci : bCi k = 12 * k + 4 := rfl
      have hwi : bWi k = 12 * k + 2 := rfl
      cases hq : (sCw bCi bWi a.testBit V k).1 with
      | none =>
        rw [hq] at hg
        rw [if_pos (by decide), nI_1]
        exact hg
      | some b' =>
        have hb' := (sCw_lt hq).1
        rw [hq] at hg
        rw [show oI (some b') = nI b' from rfl, if_neg (nI_pos (by omega)), r_of ok (by omega) (by omega), zb_s]
        dsimp only
        rw [r_of ok (by omega) (by omega), zb_s]
        dsimp only
        rw [za_wA, nI_1]
        dsimp only at hg
        rw [hci, hwi, show bCi b' = 12 * b' + 4 from rfl] at hg
        by_cases h2 : uV (sCw bCi bWi a.testBit V k).2.2 (12 * k + 4) ((sCw bCi bWi a.testBit V k).2.2 (12 * k + 4) + (sCw bCi bWi a.testBit V k).2.2 (12 * k + 2)) (12 * b' + 4) < uV (sCw bCi bWi a.testBit V k).2.2 (12 * k + 4) ((sCw bCi bWi a.testBit V k).2.2 (12 * k + 4) + (sCw bCi bWi a.testBit V k).2.2 (12 * k + 2)) (12 * k + 4)
        · rw [if_pos h2] at hg
          rw [if_neg (Int32.not_le.mpr h2)]
          exact hg
        · rw [if_neg h2] at hg
          rw [if_pos (Int32.not_lt.mp h2)]
          exact hg
    · have h1 : a.testBit k = false := by simpa using h1
      rw [h1, if_pos bI_f, nI_1]
      rw [if_neg (by rw [h1]; decide)] at hg
      exact hg
theorem r_byWeights (ok : yOK P y) {a N b : Nat} (ha : a < 2 ^ 31) (hN : za m (yv P y) 144 = nI N) (h12 : N ≤ 12) (hs : (sCw bCi bWi a.testBit (za m (yv P y)) N).1 = some b) : f_X11_byWeights P y (nI a) m = some (nI b, wA m (yv P y) (sCwE bCi bWi a.testBit (za m (yv P y)) N).2) := by
  have h := r_byWeights_l (m := m) ok ha hN h12 hs N 0 zfuel (by omega) (by unfold zfuel; omega)
  rw [show (sCw bCi bWi a.testBit (za m (yv P y)) 0).2.2 = za m (yv P y) from rfl, wA_self] at h
  exact h
end RZ

/-! ===== the reference reads ===== -/
section PB
variable {P : zSt} {y tn : Nat} {m0 m : zM} {o : Nat} {b : Bool} {W : Nat → Int32}
/-- how it stands at the end -/
def RG (P : zSt) (y : Nat) (m0 m : zM) (x : zW0) : Prop := ∃ W', YR P y m0 m x.2.1 (!x.1) W' ∧ (x.1 = true → W' = x.2.2)
theorem pH_in {T : Nat → Int32} {c : Int32} (h : pH tn T o = c) (hc : c ≠ -1) : o < tn := by
  by_cases q : o < tn
  · exact q
  · rw [pH_ge q] at h
    exact absurd h.symm hc
theorem pD_in {T : Nat → Int32} {lo hi : Int32} (h0 : 0 ≤ lo) (h : pD (pH tn T) lo hi o = true) : o < tn := by
  by_cases q : o < tn
  · exact q
  · unfold pD at h
    rw [pH_ge q, decide_eq_true_eq] at h
    exact absurd (Int32.le_trans h0 h.1) (by decide)
theorem r_bad391 (h : YR P y m0 m o true W) : ∃ m', f_X11_reads_b391 P y m = some (0, m') ∧ YR P y m0 m' o true W := by
  unfold f_X11_reads_b391 f_X11_reads_b412
  rw [h.2.1]
  split
  · exact ⟨_, rfl, h.fl (b' := true)⟩
  · exact ⟨_, rfl, h.fl (b' := true)⟩
theorem r_bad352 (h : YR P y m0 m o true W) : ∃ m', f_X11_reads_b352 P y m = some (0, m') ∧ YR P y m0 m' o true W := by
  unfold f_X11_reads_b352
  rw [h.2.1, if_neg (by decide)]
  exact r_bad391 h
theorem r_bad251 (h : YR P y m0 m o true W) {fu : Nat} : ∃ m', f_X11_reads_b251 P (fu + 1) y 0 m = some (0, m') ∧ YR P y m0 m' o true W := by
  unfold f_X11_reads_b251
  rw [if_pos rfl, h.2.1, if_neg (by decide)]
  exact r_bad352 h
theorem r_bad238 (h : YR P y m0 m o true W) : ∃ m', f_X11_reads_b238 P y m = some (0, m') ∧ YR P y m0 m' o true W := by
  unfold f_X11_reads_b238 f_X11_reads_b250
  rw [h.2.1, if_neg (by decide)]
  exact r_bad251 (fu := 999) h
theorem r_bad225 (h : YR P y m0 m o true W) : ∃ m', f_X11_reads_b225 P y m = some (0, m') ∧ YR P y m0 m' o true W := by
  unfold f_X11_reads_b225
  rw [h.2.1, if_neg (by decide)]
  exact r_bad238 h
theorem r_bad212 (h : YR P y m0 m o true W) : ∃ m', f_X11_reads_b212 P y m = some (0, m') ∧ YR P y m0 m' o true W := by
  unfold f_X11_reads_b212
  rw [h.2.1, if_neg (by decide)]
  exact r_bad225 h
theorem r_bad185 (h : YR P y m0 m o true W) : ∃ m', f_X11_reads_b185 P y m = some (0, m') ∧ YR P y m0 m' o true W := by
  unfold f_X11_reads_b185
  rw [h.2.1, if_neg (by decide)]
  exact r_bad212 h
theorem r_bad132 (h : YR P y m0 m o true W) : ∃ m', f_X11_reads_b132 P y m = some (0, m') ∧ YR P y m0 m' o true W := by
  unfold f_X11_reads_b132
  rw [h.2.1, if_neg (by decide)]
  exact r_bad225 h
theorem r_end (ok : yOK P y) (ht : YT P y m0 tn) (h : YR P y m0 m o false W) (ho : o ≤ tn) : ∃ m', f_X11_reads_b391 P y m = some (0, m') ∧ RG P y m0 m' (pEnd tn o W) := by
  have htn := ht.2.1
  have e : zf m 207 y = nI tn := by rw [h.2.2.2.2.1 _ _ (fun q => by omega), ht.1]
  unfold f_X11_reads_b391 f_X11_reads_b412 pEnd
  rw [e, h.1, h.2.1]
  by_cases h1 : o = tn
  · rw [if_pos (by rw [h1]; exact Int32.le_refl _), decide_eq_true h1]
    exact ⟨_, rfl, W, h.fl (b' := false), fun _ => rfl⟩
  · rw [if_neg (by rw [n_le (by omega) (by omega)]; omega), decide_eq_false h1]
    exact ⟨_, rfl, W, h.fl (b' := true), fun q => by cases q⟩
theorem r_most (ok : yOK P y) (ht : YT P y m0 tn) (h : YR P y m0 m o false W) (ho : o ≤ tn) : ∃ m', f_X11_reads_b352 P y m = some (0, m') ∧ RG P y m0 m' (pB (pOne (pH tn (za m0 (zR P 206 y))) 42 1 4 56 o W) fun o W => pEnd tn o W) := by
  have htn := ht.2.1
  obtain ⟨n1, -, -, l1, l2⟩ := ok_ne ok
  unfold f_X11_reads_b352
  rw [h.2.1, if_pos bI_f, r_here ok ht h (by omega), zb_s]
  dsimp only
  by_cases h1 : pH tn (za m0 (zR P 206 y)) o = 42
  · have hlt := pH_in h1 (by decide)
    rw [if_pos h1, h.1, nI_1, zl_s, zl_s]
    obtain ⟨m1, d1, d2⟩ := r_digit ok ht (h.at (o' := o + 1)) (by omega) (lo := 1) (hi := 4)
    rw [d1, zb_s, l2, show zin 56 58 = true by decide, zgd_t, show (56 : Int32).toNatClampNeg = 56 by decide, zl_s]
    by_cases h2 : pD (pH tn (za m0 (zR P 206 y))) 1 4 (o + 1) = true
    · have hlt2 := pD_in (by decide) h2
      have e : pOne (pH tn (za m0 (zR P 206 y))) 42 1 4 56 o W = (true, o + 2, uV W 56 (pH tn (za m0 (zR P 206 y)) (o + 1) - 48)) := by
        unfold pOne
        rw [if_pos h1, if_pos h2]
      rw [e, pB_t]
      rw [if_pos h2, h2] at d2
      dsimp only
      rw [if_pos h2]
      exact r_end ok ht (d2.pu) (by omega)
    · have e : pOne (pH tn (za m0 (zR P 206 y))) 42 1 4 56 o W = (false, o + 1, W) := by
        unfold pOne
        rw [if_pos h1, if_neg h2]
      rw [e, pB_f]
      rw [if_neg h2, Bool.eq_false_iff.mpr h2] at d2
      dsimp only
      obtain ⟨m2, e1, e2⟩ := r_bad391 (d2.pu (i := 56) (v := if pD (pH tn (za m0 (zR P 206 y))) 1 4 (o + 1) = true then pH tn (za m0 (zR P 206 y)) (o + 1) - 48 else 0))
      exact ⟨m2, e1, _, e2, fun q => by cases q⟩
  · have e : pOne (pH tn (za m0 (zR P 206 y))) 42 1 4 56 o W = (true, o, W) := by
      unfold pOne
      rw [if_neg h1]
    rw [if_neg h1, e, pB_t]
    exact r_end ok ht h ho
theorem r_shadow (ok : yOK P y) (ht : YT P y m0 tn) (h : YR P y m0 m o false W) (ho : o ≤ tn) {fu : Nat} : ∃ m', f_X11_reads_b251 P (fu + 1) y 0 m = some (0, m') ∧ RG P y m0 m' (pB (pOne (pH tn (za m0 (zR P 206 y))) 126 0 3 57 o W) fun o W => pB (pOne (pH tn (za m0 (zR P 206 y))) 42 1 4 56 o W) fun o W => pEnd tn o W) := by
  have htn := ht.2.1
  obtain ⟨n1, -, -, l1, l2⟩ := ok_ne ok
  unfold f_X11_reads_b251
  rw [if_pos rfl, h.2.1, if_pos bI_f, r_here ok ht h (by omega), zb_s]
  dsimp only
  by_cases h1 : pH tn (za m0 (zR P 206 y)) o = 126
  · have hlt := pH_in h1 (by decide)
    rw [if_pos h1, h.1, nI_1, zl_s, zl_s]
    obtain ⟨m1, d1, d2⟩ := r_digit ok ht (h.at (o' := o + 1)) (by omega) (lo := 0) (hi := 3)
    rw [d1, zb_s, l2, show zin 57 58 = true by decide, zgd_t, show (57 : Int32).toNatClampNeg = 57 by decide, zl_s]
    by_cases h2 : pD (pH tn (za m0 (zR P 206 y))) 0 3 (o + 1) = true
    · have hlt2 := pD_in (by decide) h2
      have e : pOne (pH tn (za m0 (zR P 206 y))) 126 0 3 57 o W = (true, o + 2, uV W 57 (pH tn (za m0 (zR P 206 y)) (o + 1) - 48)) := by
        unfold pOne
        rw [if_pos h1, if_pos h2]
      rw [e, pB_t]
      rw [if_pos h2, h2] at d2
      dsimp only
      rw [if_pos h2]
      exact r_most ok ht (d2.pu) (by omega)
    · have e : pOne (pH tn (za m0 (zR P 206 y))) 126 0 3 57 o W = (false, o + 1, W) := by
        unfold pOne
        rw [if_pos h1, if_neg h2]
      rw [e, pB_f]
      rw [if_neg h2, Bool.eq_false_iff.mpr h2] at d2
      dsimp only
      obtain ⟨m2, e1, e2⟩ := r_bad352 (d2.pu (i := 57) (v := if pD (pH tn (za m0 (zR P 206 y))) 0 3 (o + 1) = true then pH tn (za m0 (zR P 206 y)) (o + 1) - 48 else 0))
      exact ⟨m2, e1, _, e2, fun q => by cases q⟩
  · have e : pOne (pH tn (za m0 (zR P 206 y))) 126 0 3 57 o W = (true, o, W) := by
      unfold pOne
      rw [if_neg h1]
    rw [if_neg h1, e, pB_t]
    exact r_most ok ht h ho
/-- the targets' services so far -/
theorem r_tloop (ok : yOK P y) {n : Nat} {s : Int32} (hn3 : n ≤ 3) {f0 : Bool} {F : zM → Option (Int32 × zM)} (hF : ∀ fu m, f_X11_target_b41 P (fu + 1) y (nI n) s (nI n) m = F m) : ∀ d k fu (m : zM), k + d = n → d < fu → YR P y m0 m o (f0 || pHas W s k) W →
    ∃ m', f_X11_target_b41 P fu y (nI n) s (nI k) m = F m' ∧ YR P y m0 m' o (f0 || pHas W s n) W := by
  obtain ⟨n1, -, -, l1, l2⟩ := ok_ne ok
  intro d
  induction d with
  | zero =>
    intro k fu m hk hfu h
    obtain ⟨fu, rfl⟩ : ∃ f, fu = f + 1 := ⟨fu - 1, by omega⟩
    have : k = n := by omega
    subst this
    exact ⟨m, hF fu m, h⟩
  | succ d ih =>
    intro k fu m hk hfu h
    obtain ⟨fu, rfl⟩ : ∃ f, fu = f + 1 := ⟨fu - 1, by omega⟩
    have hkn : k < n := by omega
    have e4 : (44 : Int32) + 4 * nI k = nI (44 + 4 * k) := by rw [show (4 : Int32) = nI 4 from rfl, show (44 : Int32) = nI 44 from rfl, n_mul, n_add]
    have step : ∀ x : Bool, x = decide (W (44 + 4 * k) = s) → ∃ m', f_X11_target_b71 P (f_X11_target_b41 P fu) y (nI n) s (nI k) (bI x) (zf m 214 y) y m = F m' ∧ YR P y m0 m' o (f0 || pHas W s n) W := by
      intro x hx
      unfold f_X11_target_b71
      rw [h.2.1, or_bI, zbo_bI, zgd_t, zl_s, zl_s, nI_1]
      refine ih (k + 1) fu _ (by omega) (by omega) ?_
      have := h.fl (b' := (f0 || pHas W s k) || x)
      unfold pHas at this ⊢
      rw [anyB_s, ← hx, ← Bool.or_assoc]
      exact this
    unfold f_X11_target_b41
    rw [if_neg (by rw [n_le (by omega) (by omega)]; omega), zl_s, l2, e4, zin_n (by omega) (by omega), zgd_t, n_nat (by omega), h.2.2.1]
    by_cases h1 : W (44 + 4 * k) = s
    · rw [if_pos h1]
      exact step true (decide_eq_true h1).symm
    · rw [if_neg h1]
      exact step false (decide_eq_false h1).symm
theorem r_target (ok : yOK P y) (ht : YT P y m0 tn) (h : YR P y m0 m o false W) (ho : o ≤ tn) {n : Nat} (hn : W 43 = nI n) (hn3 : n < 3) : ∃ m', f_X11_target P y m = some (0, m') ∧ RG P y m0 m' (pTgt (pH tn (za m0 (zR P 206 y))) o W n) := by
  have htn := ht.2.1
  obtain ⟨n1, -, -, l1, l2⟩ := ok_ne ok
  have e4 : (44 : Int32) + 4 * nI n = nI (44 + 4 * n) := by rw [show (4 : Int32) = nI 4 from rfl, show (44 : Int32) = nI 44 from rfl, n_mul, n_add]
  have e5 : nI (44 + 4 * n) + 1 = nI (44 + 4 * n + 1) := by rw [show (1 : Int32) = nI 1 from rfl, n_add]
  have key : ∀ m1, YR P y m0 m1 o (!pD (pH tn (za m0 (zR P 206 y))) 0 3 o) W → ∃ m', f_X11_target_b41 P zfuel y (nI n) (pH tn (za m0 (zR P 206 y)) o - 48) 0 m1 = some (0, m') ∧ RG P y m0 m' (pTgt (pH tn (za m0 (zR P 206 y))) o W n) := by
    intro m1 h1
    obtain ⟨m2, a1, a2⟩ := r_tloop (P := P) (m0 := m0) (o := o) (W := W) (s := pH tn (za m0 (zR P 206 y)) o - 48) ok (n := n) (by omega) (f0 := !pD (pH tn (za m0 (zR P 206 y))) 0 3 o) (F := fun m2 => f_X11_target_b41 P 1 y (nI n) (pH tn (za m0 (zR P 206 y)) o - 48) (nI n) m2) (fun fu m => by
      unfold f_X11_target_b41
      rw [if_pos (Int32.le_refl _), if_pos (Int32.le_refl _)]) n 0 zfuel m1 (by omega) (by unfold zfuel; omega) (by
      have : pHas W (pH tn (za m0 (zR P 206 y)) o - 48) 0 = false := rfl
      rw [this, Bool.or_false]
      exact h1)
    have a1' : f_X11_target_b41 P zfuel y (nI n) (pH tn (za m0 (zR P 206 y)) o - 48) 0 m1 = f_X11_target_b41 P 1 y (nI n) (pH tn (za m0 (zR P 206 y)) o - 48) (nI n) m2 := a1
    rw [a1']
    unfold f_X11_target_b41
    rw [if_pos (Int32.le_refl _), a2.2.1]
    unfold pTgt
    by_cases hg : pD (pH tn (za m0 (zR P 206 y))) 0 3 o = true ∧ pHas W (pH tn (za m0 (zR P 206 y)) o - 48) n = false
    · have hlt := pD_in (by decide) hg.1
      rw [hg.1, hg.2, Bool.not_true, Bool.or_false] at a2
      rw [hg.1, hg.2, if_pos (show bI (!true || false) = 0 from rfl), if_pos ⟨rfl, rfl⟩, a2.1, nI_1, zl_s, zl_s, l2, e4, zin_n (by omega) (by omega), zgd_t, n_nat (by omega), zl_s, zl_s, e5, zin_n (by omega) (by omega), zgd_t, n_nat (by omega), zl_s]
      have y1 := ((a2.at (o' := o + 1)).pu (i := 44 + 4 * n) (v := pH tn (za m0 (zR P 206 y)) o - 48)).pu (i := 44 + 4 * n + 1) (v := 1)
      rw [r_here ok ht y1 (by omega), zb_s]
      dsimp only
      have fin : ∀ (m3 : zM) (o3 : Nat) (w : Int32), YR P y m0 m3 o3 false (uV (uV W (44 + 4 * n) (pH tn (za m0 (zR P 206 y)) o - 48)) (44 + 4 * n + 1) w) → ∃ m', f_X11_target_b164 P y m3 = some (0, m') ∧ YR P y m0 m' o3 false (pPut W n (pH tn (za m0 (zR P 206 y)) o - 48) w) := by
        intro m3 o3 w h3
        unfold f_X11_target_b164
        rw [zl_s, l2, show zin 43 58 = true by decide, zgd_t, zgd_t, show (43 : Int32).toNatClampNeg = 43 by decide, h3.2.2.1, uV_n (show 43 ≠ 44 + 4 * n + 1 by omega), uV_n (show 43 ≠ 44 + 4 * n by omega), hn, nI_1, zl_s]
        exact ⟨_, rfl, h3.pu⟩
      by_cases h58 : pH tn (za m0 (zR P 206 y)) (o + 1) = 58
      · have hlt1 := pH_in h58 (by decide)
        rw [if_pos h58, if_pos h58, y1.1, nI_1, zl_s, zl_s, show o + 1 + 1 = o + 2 from rfl]
        obtain ⟨m3, d1, d2⟩ := r_digit ok ht (y1.at (o' := o + 2)) (by omega) (lo := 1) (hi := 9)
        rw [d1, zb_s, zin_n (by omega) (by omega), zgd_t, zl_s]
        have d3 := d2.pu (i := 44 + 4 * n + 1) (v := if pD (pH tn (za m0 (zR P 206 y))) 1 9 (o + 2) = true then pH tn (za m0 (zR P 206 y)) (o + 2) - 48 else 0)
        rw [uV_uV] at d3
        dsimp only
        by_cases h2 : pD (pH tn (za m0 (zR P 206 y))) 1 9 (o + 2) = true
        · rw [if_pos h2, if_pos h2, h2] at d3
          rw [if_pos h2, if_pos h2]
          obtain ⟨m4, f1, f2⟩ := fin _ _ _ d3
          exact ⟨m4, f1, _, f2, fun _ => rfl⟩
        · rw [if_neg h2, if_neg h2, Bool.eq_false_iff.mpr h2] at d3
          rw [if_neg h2, if_neg h2]
          unfold f_X11_target_b164
          rw [zl_s, l2, show zin 43 58 = true by decide, zgd_t, zgd_t, zl_s]
          exact ⟨_, rfl, _, d3.pu, fun q => by cases q⟩
      · rw [if_neg h58, if_neg h58]
        obtain ⟨m4, f1, f2⟩ := fin _ _ _ y1
        exact ⟨m4, f1, _, f2, fun _ => rfl⟩
    · have hb : (!pD (pH tn (za m0 (zR P 206 y))) 0 3 o || pHas W (pH tn (za m0 (zR P 206 y)) o - 48) n) = true := by
        cases h3 : pD (pH tn (za m0 (zR P 206 y))) 0 3 o with
        | false => rfl
        | true =>
          cases h4 : pHas W (pH tn (za m0 (zR P 206 y)) o - 48) n with
          | false => exact absurd ⟨h3, h4⟩ hg
          | true => rfl
      rw [hb] at a2
      rw [hb, if_neg (by decide), if_neg hg]
      exact ⟨m2, rfl, W, a2, fun q => by cases q⟩
  unfold f_X11_target f_X11_target_b35
  rw [zl_s, l2, show zin 43 58 = true by decide, zgd_t, show (43 : Int32).toNatClampNeg = 43 by decide, h.2.2.1, hn, zl_s, r_here ok ht h (by omega), zb_s, zl_s, r_isIn, zb_s, h.2.1]
  dsimp only
  by_cases h3 : 0 ≤ pH tn (za m0 (zR P 206 y)) o - 48 ∧ pH tn (za m0 (zR P 206 y)) o - 48 ≤ 3
  · have h3' : pD (pH tn (za m0 (zR P 206 y))) 0 3 o = true := decide_eq_true h3
    rw [decide_eq_true h3, if_neg (by decide), show (bI false ||| 0 : Int32) = bI false from rfl, zbo_bI, zgd_t, zl_s]
    exact key _ (by rw [h3']; exact h.fl)
  · have h3' : pD (pH tn (za m0 (zR P 206 y))) 0 3 o = false := decide_eq_false h3
    rw [decide_eq_false h3, if_pos bI_f, show (bI false ||| 1 : Int32) = bI true from rfl, zbo_bI, zgd_t, zl_s]
    exact key _ (by rw [h3']; exact h.fl)
end PB

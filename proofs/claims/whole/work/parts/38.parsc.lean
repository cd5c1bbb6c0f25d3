section PC2
variable {P : zSt} {y tn : Nat} {m0 m : zM} {o : Nat} {b : Bool} {W : Nat → Int32}
def pT1 (tn : Nat) (H : Nat → Int32) (o : Nat) (W : Nat → Int32) : zW0 := pB (pOne H 126 0 3 57 o W) fun o W => pB (pOne H 42 1 4 56 o W) fun o W => pEnd tn o W
theorem pPut_43 {n : Nat} {s w : Int32} : pPut W n s w 43 = nI (n + 1) := uV_s
theorem pTgt_le {T : Nat → Int32} {n : Nat} (ho : o ≤ tn) (h : (pTgt (pH tn T) o W n).1 = true) : (pTgt (pH tn T) o W n).2.1 ≤ tn ∧ (pTgt (pH tn T) o W n).2.2 43 = nI (n + 1) := by
  unfold pTgt at h ⊢
  split at h
  · rename_i h1
    have hlt := pD_in (by decide) h1.1
    rw [if_pos h1]
    split at h
    · rename_i h2
      rw [if_pos h2]
      split at h
      · rename_i h3
        have hlt2 := pD_in (by decide) h3
        rw [if_pos h3]
        exact ⟨hlt2, pPut_43 (W := W) (s := pH tn T o - 48) (w := pH tn T (o + 2) - 48)⟩
      · cases h
    · rename_i h2
      rw [if_neg h2]
      exact ⟨hlt, pPut_43 (W := W) (s := pH tn T o - 48) (w := 1)⟩
  · cases h
theorem r_tgs (ok : yOK P y) (ht : YT P y m0 tn) : ∀ d n o (W : Nat → Int32) fu (m : zM), n + d + 1 = 3 → d + 1 < fu → YR P y m0 m o false W → o ≤ tn → W 43 = nI n →
    ∃ m', f_X11_reads_b251 P fu y 1 m = some (0, m') ∧ RG P y m0 m' (pB (pTgs (pH tn (za m0 (zR P 206 y))) (d + 1) o W n) (pT1 tn (pH tn (za m0 (zR P 206 y))))) := by
  have htn := ht.2.1
  obtain ⟨n1, -, -, l1, l2⟩ := ok_ne ok
  intro d
  induction d with
  | zero =>
    intro n o W fu m hnd hfu h ho h43
    obtain ⟨fu, rfl⟩ : ∃ f, fu = f + 2 := ⟨fu - 2, by omega⟩
    obtain ⟨m1, a1, W', a2, a3⟩ := r_target ok ht h ho h43 (by omega)
    unfold f_X11_reads_b251
    rw [if_neg (by decide), a1, zb_s]
    dsimp only
    unfold pTgs
    cases hg : (pTgt (pH tn (za m0 (zR P 206 y))) o W n).1 with
    | false =>
      rw [hg] at a2
      have e : pTgt (pH tn (za m0 (zR P 206 y))) o W n = (false, (pTgt (pH tn (za m0 (zR P 206 y))) o W n).2) := by rw [← hg]
      rw [e, pB_f, pB_f, a2.2.1, if_neg (by decide)]
      unfold f_X11_reads_b290 f_X11_reads_b291 f_X11_reads_b306
      rw [if_pos rfl, a2.1, show nI (pTgt (pH tn (za m0 (zR P 206 y))) o W n).2.1 + 0 = nI (pTgt (pH tn (za m0 (zR P 206 y))) o W n).2.1 from Int32.add_zero _, zl_s]
      obtain ⟨m2, b1, b2⟩ := r_bad251 (fu := fu) (YR.at (o' := (pTgt (pH tn (za m0 (zR P 206 y))) o W n).2.1) a2)
      exact ⟨m2, b1, _, b2, fun q => by cases q⟩
    | true =>
      obtain ⟨g1, g2⟩ := pTgt_le ho hg
      have a4 := a3 hg
      rw [hg] at a2
      have e : pTgt (pH tn (za m0 (zR P 206 y))) o W n = (true, (pTgt (pH tn (za m0 (zR P 206 y))) o W n).2) := by rw [← hg]
      have e2 : pB (pB (pTgt (pH tn (za m0 (zR P 206 y))) o W n) fun o' W' => if pH tn (za m0 (zR P 206 y)) o' = 44 ∧ 0 < 0 then pTgs (pH tn (za m0 (zR P 206 y))) 0 (o' + 1) W' (n + 1) else (true, o', W')) (pT1 tn (pH tn (za m0 (zR P 206 y)))) = pT1 tn (pH tn (za m0 (zR P 206 y))) (pTgt (pH tn (za m0 (zR P 206 y))) o W n).2.1 (pTgt (pH tn (za m0 (zR P 206 y))) o W n).2.2 := by
        rw [e, pB_t, if_neg (fun q => absurd q.2 (by omega)), pB_t]
      rw [e2]
      generalize pTgt (pH tn (za m0 (zR P 206 y))) o W n = x at *
      subst a4
      have fin : ∀ m2, YR P y m0 m2 x.2.1 false x.2.2 → ∃ m', f_X11_reads_b290 P (f_X11_reads_b251 P (fu + 1)) y m2 = some (0, m') ∧ RG P y m0 m' (pT1 tn (pH tn (za m0 (zR P 206 y))) x.2.1 x.2.2) := by
        intro m2 h2
        unfold f_X11_reads_b290 f_X11_reads_b291 f_X11_reads_b306
        rw [if_pos rfl, h2.1, show nI x.2.1 + 0 = nI x.2.1 from Int32.add_zero _, zl_s]
        exact r_shadow ok ht h2.at g1
      rw [a2.2.1, if_pos (show bI (!true) = 0 from rfl), r_here ok ht a2 (by omega), zb_s]
      dsimp only
      by_cases h44 : pH tn (za m0 (zR P 206 y)) x.2.1 = 44
      · rw [if_pos h44, zl_s, l2, show zin 43 58 = true by decide, zgd_t, show (43 : Int32).toNatClampNeg = 43 by decide, a2.2.2.1, g2, if_pos (by rw [show (3 : Int32) = nI 3 from rfl, n_le (by omega) (by omega)]; omega)]
        exact fin m1 a2
      · rw [if_neg h44]
        exact fin m1 a2
  | succ d ih =>
    intro n o W fu m hnd hfu h ho h43
    obtain ⟨fu, rfl⟩ : ∃ f, fu = f + 2 := ⟨fu - 2, by omega⟩
    obtain ⟨m1, a1, W', a2, a3⟩ := r_target ok ht h ho h43 (by omega)
    unfold f_X11_reads_b251
    rw [if_neg (by decide), a1, zb_s]
    dsimp only
    rw [pTgs]
    cases hg : (pTgt (pH tn (za m0 (zR P 206 y))) o W n).1 with
    | false =>
      rw [hg] at a2
      have e : pTgt (pH tn (za m0 (zR P 206 y))) o W n = (false, (pTgt (pH tn (za m0 (zR P 206 y))) o W n).2) := by rw [← hg]
      rw [e, pB_f, pB_f, a2.2.1, if_neg (by decide)]
      unfold f_X11_reads_b290 f_X11_reads_b291 f_X11_reads_b306
      rw [if_pos rfl, a2.1, show nI (pTgt (pH tn (za m0 (zR P 206 y))) o W n).2.1 + 0 = nI (pTgt (pH tn (za m0 (zR P 206 y))) o W n).2.1 from Int32.add_zero _, zl_s]
      obtain ⟨m2, b1, b2⟩ := r_bad251 (fu := fu) (YR.at (o' := (pTgt (pH tn (za m0 (zR P 206 y))) o W n).2.1) a2)
      exact ⟨m2, b1, _, b2, fun q => by cases q⟩
    | true =>
      obtain ⟨g1, g2⟩ := pTgt_le ho hg
      have a4 := a3 hg
      rw [hg] at a2
      have e : pTgt (pH tn (za m0 (zR P 206 y))) o W n = (true, (pTgt (pH tn (za m0 (zR P 206 y))) o W n).2) := by rw [← hg]
      rw [e, pB_t, a2.2.1, if_pos (show bI (!true) = 0 from rfl)]
      generalize pTgt (pH tn (za m0 (zR P 206 y))) o W n = x at *
      subst a4
      rw [r_here ok ht a2 (by omega), zb_s]
      dsimp only
      by_cases h44 : pH tn (za m0 (zR P 206 y)) x.2.1 = 44
      · have hlt := pH_in h44 (by decide)
        rw [if_pos h44, if_pos ⟨h44, by omega⟩, zl_s, l2, show zin 43 58 = true by decide, zgd_t, show (43 : Int32).toNatClampNeg = 43 by decide, a2.2.2.1, g2, if_neg (by rw [show (3 : Int32) = nI 3 from rfl, n_le (by omega) (by omega)]; omega)]
        unfold f_X11_reads_b291 f_X11_reads_b306
        rw [if_neg (by decide), a2.1, nI_1, zl_s]
        exact ih (n + 1) (x.2.1 + 1) x.2.2 (fu + 1) _ (by omega) (by omega) a2.at (by omega) g2
      · rw [if_neg h44, if_neg (fun q => h44 q.1), pB_t]
        unfold f_X11_reads_b290 f_X11_reads_b291 f_X11_reads_b306
        rw [if_pos rfl, a2.1, show nI x.2.1 + 0 = nI x.2.1 from Int32.add_zero _, zl_s]
        exact r_shadow ok ht a2.at g1
def pT2 (tn : Nat) (H : Nat → Int32) (o : Nat) (W : Nat → Int32) : zW0 := pB (pEq H o W) fun o W => pB (pTgs H 3 o W 0) (pT1 tn H)
theorem r_eq (ok : yOK P y) (ht : YT P y m0 tn) (h : YR P y m0 m o false W) (ho : o ≤ tn) (h43 : W 43 = nI 0) : ∃ m', f_X11_reads_b225 P y m = some (0, m') ∧ RG P y m0 m' (pT2 tn (pH tn (za m0 (zR P 206 y))) o W) := by
  have htn := ht.2.1
  obtain ⟨m1, a1, a2⟩ := r_sign ok ht h (by omega) (c := 61)
  unfold f_X11_reads_b225 pT2 pEq
  rw [h.2.1, if_pos bI_f, a1, zb_s]
  dsimp only
  by_cases h1 : pH tn (za m0 (zR P 206 y)) o = 61
  · have hlt := pH_in h1 (by decide)
    rw [if_pos h1, decide_eq_false (fun q => q h1)] at a2
    rw [if_pos h1, pB_t]
    unfold f_X11_reads_b238 f_X11_reads_b250
    rw [a2.2.1, if_pos bI_f]
    exact r_tgs ok ht 2 0 (o + 1) W zfuel m1 (by omega) (by unfold zfuel; omega) a2 (by omega) h43
  · rw [if_neg h1, decide_eq_true h1] at a2
    rw [if_neg h1, pB_f]
    obtain ⟨m2, b1, b2⟩ := r_bad238 a2
    exact ⟨m2, b1, _, b2, fun q => by cases q⟩
theorem r_range (ok : yOK P y) (ht : YT P y m0 tn) (h : YR P y m0 m o false W) (ho : o ≤ tn) (h43 : W 43 = nI 0) : ∃ m', f_X11_reads_b132 P y m = some (0, m') ∧ RG P y m0 m' (pB (pRange (pH tn (za m0 (zR P 206 y))) o W) (pT2 tn (pH tn (za m0 (zR P 206 y))))) := by
  have htn := ht.2.1
  obtain ⟨n1, -, -, l1, l2⟩ := ok_ne ok
  have z41 : zin 41 58 = true := by decide
  have z42 : zin 42 58 = true := by decide
  have t41 : (41 : Int32).toNatClampNeg = 41 := by decide
  have t42 : (42 : Int32).toNatClampNeg = 42 := by decide
  unfold f_X11_reads_b132 pRange
  rw [h.2.1, if_pos bI_f, r_here ok ht h (by omega), zb_s]
  dsimp only
  by_cases h91 : pH tn (za m0 (zR P 206 y)) o = 91
  · have hlt := pH_in h91 (by decide)
    rw [if_pos h91, if_pos h91, h.1, nI_1, zl_s, zl_s]
    obtain ⟨m1, d1, d2⟩ := r_digit ok ht (h.at (o' := o + 1)) (by omega) (lo := 0) (hi := 9)
    rw [d1, zb_s, l2, z41, zgd_t, t41, zl_s]
    dsimp only
    by_cases h1 : pD (pH tn (za m0 (zR P 206 y))) 0 9 (o + 1) = true
    · have hlt1 := pD_in (by decide) h1
      rw [if_pos h1, h1, show o + 1 + 1 = o + 2 from rfl] at d2
      rw [if_pos h1, if_pos h1]
      have d3 := d2.pu (i := 41) (v := pH tn (za m0 (zR P 206 y)) (o + 1) - 48)
      rw [d3.2.1, if_pos (show bI (!true) = 0 from rfl)]
      obtain ⟨m2, e1, e2⟩ := r_sign ok ht d3 (by omega) (c := 45)
      rw [e1, zb_s]
      dsimp only
      by_cases h45 : pH tn (za m0 (zR P 206 y)) (o + 2) = 45
      · have hlt2 := pH_in h45 (by decide)
        rw [if_pos h45, decide_eq_false (fun q => q h45), show o + 2 + 1 = o + 3 from rfl] at e2
        rw [if_pos h45]
        unfold f_X11_reads_b185
        rw [e2.2.1, if_pos bI_f, zl_s, zl_s, l2, z41, zgd_t, t41, e2.2.2.1, uV_s]
        obtain ⟨m3, g1, g2⟩ := r_digit ok ht e2 (by omega) (lo := pH tn (za m0 (zR P 206 y)) (o + 1) - 48) (hi := 9)
        rw [g1, zb_s, z42, zgd_t, t42, zl_s]
        dsimp only
        have hlo : (0 : Int32) ≤ pH tn (za m0 (zR P 206 y)) (o + 1) - 48 := by
          have := h1
          unfold pD at this
          exact (of_decide_eq_true this).1
        by_cases h3 : pD (pH tn (za m0 (zR P 206 y))) (pH tn (za m0 (zR P 206 y)) (o + 1) - 48) 9 (o + 3) = true
        · have hlt3 := pD_in hlo h3
          rw [if_pos h3, h3, show o + 3 + 1 = o + 4 from rfl] at g2
          rw [if_pos h3, if_pos h3]
          have g3 := g2.pu (i := 42) (v := pH tn (za m0 (zR P 206 y)) (o + 3) - 48)
          unfold f_X11_reads_b212
          rw [g3.2.1, if_pos (show bI (!true) = 0 from rfl)]
          obtain ⟨m4, k1, k2⟩ := r_sign ok ht g3 (by omega) (c := 93)
          rw [k1, zb_s]
          dsimp only
          by_cases h93 : pH tn (za m0 (zR P 206 y)) (o + 4) = 93
          · have hlt4 := pH_in h93 (by decide)
            rw [if_pos h93, decide_eq_false (fun q => q h93), show o + 4 + 1 = o + 5 from rfl] at k2
            rw [if_pos h93, pB_t]
            exact r_eq ok ht k2 (by omega) (by rw [uV_n (by omega), uV_n (by omega)]; exact h43)
          · rw [if_neg h93, decide_eq_true h93] at k2
            rw [if_neg h93, pB_f]
            obtain ⟨m5, b1, b2⟩ := r_bad225 k2
            exact ⟨m5, b1, _, b2, fun q => by cases q⟩
        · rw [if_neg h3, Bool.eq_false_iff.mpr h3] at g2
          rw [if_neg h3, if_neg h3, pB_f]
          obtain ⟨m5, b1, b2⟩ := r_bad212 (g2.pu (i := 42) (v := 0))
          exact ⟨m5, b1, _, b2, fun q => by cases q⟩
      · rw [if_neg h45, decide_eq_true h45] at e2
        rw [if_neg h45, pB_f]
        obtain ⟨m5, b1, b2⟩ := r_bad185 e2
        exact ⟨m5, b1, _, b2, fun q => by cases q⟩
    · rw [if_neg h1, Bool.eq_false_iff.mpr h1] at d2
      rw [if_neg h1, if_neg h1, pB_f]
      have d3 := d2.pu (i := 41) (v := 0)
      rw [d3.2.1, if_neg (by decide)]
      obtain ⟨m5, b1, b2⟩ := r_bad185 d3
      exact ⟨m5, b1, _, b2, fun q => by cases q⟩
  · rw [if_neg h91, if_neg h91, pB_t]
    exact r_eq ok ht h ho h43
theorem r_pre_l (ok : yOK P y) (ht : YT P y m0 tn) : ∀ d o (W : Nat → Int32) fu (m : zM), o + d = 40 → d < fu → YR P y m0 m o false W → o ≤ tn → W 0 = nI o →
    ∃ m', f_X11_reads_b64 P fu y m = f_X11_reads_b132 P y m' ∧ YR P y m0 m' (pPre tn (za m0 (zR P 206 y)) d o W).1 false (pPre tn (za m0 (zR P 206 y)) d o W).2 ∧ (pPre tn (za m0 (zR P 206 y)) d o W).1 ≤ tn := by
  have htn := ht.2.1
  obtain ⟨n1, -, -, l1, l2⟩ := ok_ne ok
  intro d
  induction d with
  | zero =>
    intro o W fu m hod hfu h ho h0
    obtain ⟨fu, rfl⟩ : ∃ f, fu = f + 1 := ⟨fu - 1, by omega⟩
    have e : zf m 207 y = nI tn := by rw [h.2.2.2.2.1 _ _ (fun q => by omega), ht.1]
    unfold f_X11_reads_b64
    rw [h.2.1, if_pos bI_f, e, h.1, if_pos (by rw [n_le (by omega) (by omega)]; omega)]
    exact ⟨m, rfl, h, ho⟩
  | succ d ih =>
    intro o W fu m hod hfu h ho h0
    obtain ⟨fu, rfl⟩ : ∃ f, fu = f + 1 := ⟨fu - 1, by omega⟩
    have e : zf m 207 y = nI tn := by rw [h.2.2.2.2.1 _ _ (fun q => by omega), ht.1]
    unfold f_X11_reads_b64
    rw [h.2.1, if_pos bI_f, e, h.1]
    unfold pPre
    by_cases h1 : o < tn
    · rw [if_neg (by rw [n_le (by omega) (by omega)]; omega), r_here ok ht h (by omega), zb_s]
      dsimp only
      rw [pH_lt h1, r_isOfPath, zb_s]
      dsimp only
      cases hc : sPs (za m0 (zR P 206 y) o) with
      | false =>
        rw [if_pos bI_f, if_neg (fun q => by cases q.2)]
        exact ⟨m, rfl, h, ho⟩
      | true =>
        have e1 : (1 : Int32) + nI o = nI (1 + o) := by rw [show (1 : Int32) = nI 1 from rfl, n_add]
        have z0 : zin 0 58 = true := by decide
        have t0 : (0 : Int32).toNatClampNeg = 0 := by decide
        rw [if_neg (by decide), if_pos ⟨h1, rfl⟩, zl_s, zl_s, l2, z0, zgd_t, t0, h.2.2.1, h0, e1, r_here ok ht h (by omega), zb_s]
        dsimp only
        have y1 := h.pu (i := 1 + o) (v := za m0 (zR P 206 y) o)
        rw [pH_lt h1, zin_n (by omega) (by omega), zgd_t, n_nat (by omega), zl_s, zl_s, l2, z0, zgd_t, zgd_t, y1.2.2.1, uV_n (show 0 ≠ 1 + o by omega), h0, nI_1, zl_s]
        have y2 := y1.pu (i := 0) (v := nI (o + 1))
        rw [y2.1, nI_1, zl_s]
        exact ih (o + 1) _ fu _ (by omega) (by omega) y2.at (by omega) uV_s
    · rw [if_pos (by rw [n_le (by omega) (by omega)]; omega), if_neg (fun q => h1 q.1)]
      exact ⟨m, rfl, h, ho⟩
theorem pPre_keep {T : Nat → Int32} {j : Nat} (hj : 40 < j) : ∀ d o (W : Nat → Int32), o + d = 40 → (pPre tn T d o W).2 j = W j := by
  intro d
  induction d with
  | zero => intro o W _; rfl
  | succ d ih =>
    intro o W h
    unfold pPre
    split
    · rw [ih (o + 1) _ (by omega), uV_n (by omega), uV_n (by omega)]
    · rfl
theorem r_zero_l (ok : yOK P y) {A : Nat → Int32} : ∀ d k fu (m : zM), k + d = 58 → d < fu → YR P y m0 m o b (pZero A k) → ∃ m', f_X11_reads_b2 P fu y (nI k) m = f_X11_reads_b2 P 1 y 58 m' ∧ YR P y m0 m' o b (pZero A 58) := by
  obtain ⟨n1, -, -, l1, l2⟩ := ok_ne ok
  intro d
  induction d with
  | zero =>
    intro k fu m hk hfu h
    obtain ⟨fu, rfl⟩ : ∃ f, fu = f + 1 := ⟨fu - 1, by omega⟩
    have : k = 58 := by omega
    subst this
    refine ⟨m, ?_, h⟩
    unfold f_X11_reads_b2
    rw [if_pos (by decide), if_pos (by decide)]
  | succ d ih =>
    intro k fu m hk hfu h
    obtain ⟨fu, rfl⟩ : ∃ f, fu = f + 1 := ⟨fu - 1, by omega⟩
    unfold f_X11_reads_b2
    rw [if_neg (by rw [show (58 : Int32) = nI 58 from rfl, n_le (by omega) (by omega)]; omega), zl_s, l2, zin_n (by omega) (by omega), zgd_t, n_nat (by omega), zl_s, zl_s, nI_1]
    exact ih (k + 1) fu _ (by omega) (by omega) h.pu
theorem r_reads (ok : yOK P y) (ht : YT P y m0 tn) (h : YR P y m0 m 0 b W) : ∃ m', f_X11_reads P y m = some (0, m') ∧ RG P y m0 m' (pRead tn (za m0 (zR P 206 y)) W) := by
  have htn := ht.2.1
  obtain ⟨n1, -, -, l1, l2⟩ := ok_ne ok
  obtain ⟨m1, a1, a2⟩ := r_zero_l (A := W) ok 58 0 zfuel m (by omega) (by unfold zfuel; omega) h
  have a1' : f_X11_reads_b2 P zfuel y 0 m = f_X11_reads_b2 P 1 y 58 m1 := a1
  have y3 := ((a2.pu (i := 42) (v := 9)).pu (i := 56) (v := 1)).pu (i := 57) (v := -1)
  have hW : uV (uV (uV (pZero W 58) 42 9) 56 1) 57 (-1) = pW0 W := rfl
  rw [hW] at y3
  unfold f_X11_reads
  rw [a1']
  unfold f_X11_reads_b2 pRead
  rw [if_pos (by decide), zl_s, l2, show zin 42 58 = true by decide, zgd_t, show (42 : Int32).toNatClampNeg = 42 by decide, zl_s, zl_s, l2, show zin 56 58 = true by decide, zgd_t, show (56 : Int32).toNatClampNeg = 56 by decide, zl_s, zl_s, l2, show zin 57 58 = true by decide, zgd_t, show (57 : Int32).toNatClampNeg = 57 by decide, zl_s, r_here ok ht y3 (by omega), zb_s]
  dsimp only
  unfold f_X11_reads_b61
  rw [zbo_0, zbo_1, zgd_t, zgd_t, zl_s, zl_s]
  by_cases h47 : pH tn (za m0 (zR P 206 y)) 0 = 47
  · rw [if_pos h47, if_pos h47]
    obtain ⟨m4, b1, b2, b3⟩ := r_pre_l ok ht 40 0 (pW0 W) zfuel _ (by omega) (by unfold zfuel; omega) (y3.fl (b' := false)) (by omega) (by
      unfold pW0
      rw [uV_n (by omega), uV_n (by omega), uV_n (by omega), pZero_at]
      rfl)
    have b1' : f_X11_reads_b64 P zfuel y (zfp (zap (zap (zap m1 (zR P 215 y) 42 9) (zR P 215 y) 56 1) (zR P 215 y) 57 (-1)) 214 y 0) = f_X11_reads_b132 P y m4 := b1
    rw [b1']
    exact r_range ok ht b2 b3 (by
      rw [pPre_keep (by omega) 40 0 _ (by omega)]
      unfold pW0
      rw [uV_n (by omega), uV_n (by omega), uV_n (by omega), pZero_at]
      rfl)
  · rw [if_neg h47, if_neg h47]
    have y4 := y3.fl (b' := true)
    obtain ⟨fu, hfu⟩ : ∃ f, zfuel = f + 1 := ⟨999, rfl⟩
    rw [hfu]
    unfold f_X11_reads_b64
    rw [show zf (zfp (zap (zap (zap m1 (zR P 215 y) 42 9) (zR P 215 y) 56 1) (zR P 215 y) 57 (-1)) 214 y 1) 214 y = 1 from y4.2.1, if_neg (by decide)]
    obtain ⟨m5, b1, b2⟩ := r_bad132 y4
    exact ⟨m5, b1, _, b2, fun q => by cases q⟩
end PC2

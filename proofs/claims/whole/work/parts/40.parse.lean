section PE
variable {P : zSt} {rd tn : Nat} {tt : Nat → Nat} {T : Nat → Int32} {m0 m : zM} {o : Nat} {W : Nat → Int32}
theorem FD.zrt (hd : DF P m0 rd tt) (f : FD P rd tt m0 m) {t : Nat} (ht : t < 3) : zr m (zR P 63 (dR P rd)) t = tt t := by
  have := hd.2.2.2.2.2.2 t ht
  unfold zr at this ⊢
  rw [f.1]
  exact this
theorem c_hasT_l (hd : DF P m0 rd tt) (h : CR P rd tt m0 m o W) {n : Nat} (h43 : W 43 = nI n) (hn3 : n ≤ 3) {s : Int32} : ∀ d k fu, k + d = n → d < fu → pHas W s k = false → f_X3_hasTarget_b2 P fu (dR P rd) s (nI k) m = some (bI (pHas W s n), m) := by
  intro d
  induction d with
  | zero =>
    intro k fu hk hfu hq
    obtain ⟨fu, rfl⟩ : ∃ f, fu = f + 1 := ⟨fu - 1, by omega⟩
    have : k = n := by omega
    subst this
    unfold f_X3_hasTarget_b2
    rw [h.2.1.2.2.1, h43, if_pos (Int32.le_refl _), zbo_0, zgd_t, hq]
    rfl
  | succ d ih =>
    intro k fu hk hfu hq
    obtain ⟨fu, rfl⟩ : ∃ f, fu = f + 1 := ⟨fu - 1, by omega⟩
    have hkn : k < n := by omega
    have e : zf m 123 (tt k) = W (44 + 4 * k) := h.2.1.2.2.2.2.2.2.2 k 0 (by rw [h43, n_nat (by omega)]; exact hkn) (by omega)
    unfold f_X3_hasTarget_b2
    rw [h.2.1.2.2.1, h43, if_neg (by rw [n_le (by omega) (by omega)]; omega), zl_s, hd.2.2.1, zin_3 (by omega), zgd_t, n_nat (by omega), FD.zrt hd h.2.2.1 (by omega), zl_s, e, zbo_1, zgd_t, zl_s, nI_1]
    by_cases h1 : W (44 + 4 * k) = s
    · rw [if_pos h1]
      have : pHas W s n = true := by
        unfold pHas
        exact anyB_iff.mpr ⟨k, hkn, decide_eq_true h1⟩
      rw [this]
      rfl
    · rw [if_neg h1]
      refine ih (k + 1) fu (by omega) (by omega) ?_
      unfold pHas at hq ⊢
      rw [anyB_s, hq, decide_eq_false h1]
      rfl
theorem CR.put (hd : DF P m0 rd tt) (h : CR P rd tt m0 m o W) {n : Nat} (h43 : W 43 = nI n) (hn3 : n < 3) {s w : Int32} : ∃ m', f_X3_takeTarget P (dR P rd) s w m = some (0, m') ∧ CR P rd tt m0 m' o (pPut W n s w) := by
  obtain ⟨hw1, -, hw3⟩ := h.2.2.2
  obtain ⟨l, l1, l2⟩ := hw1
  unfold f_X3_takeTarget f_X6_begin
  have h64 : zf m 64 (dR P rd) = nI n := by rw [h.2.1.2.2.1, h43]
  rw [h64, if_neg (by rw [show (3 : Int32) = nI 3 from rfl, n_le (by omega) (by omega)]; omega), zl_s, hd.2.2.1, zin_3 hn3, zgd_t, n_nat (by omega), FD.zrt hd h.2.2.1 hn3, zl_s, zl_s, zl_s, zl_s, zl_s, zb_s]
  dsimp only
  rw [zf_ne (Or.inl (by omega)), zf_ne (Or.inl (by omega)), zf_ne (Or.inl (by omega)), zf_ne (Or.inl (by omega)), h64, nI_1, zl_s]
  have f4 : FD P rd tt m (zfp (zfp (zfp (zfp (zfp m 123 (tt n) s) 120 (tt n) w) 121 (tt n) 0) 124 (tt n) 0) 64 (dR P rd) (nI (n + 1))) := by
    have tg : ∀ f, 120 ≤ f → f < 125 → cS P rd tt f (tt n) := fun f h1 h2 => Or.inr (Or.inr (Or.inr ⟨h1, h2, n, hn3, rfl⟩))
    exact ((((Fp.put (S := cS P rd tt) (A := fun a _ => a = dZ P rd) Fp.rfl' (tg 123 (by omega) (by omega))).put (tg 120 (by omega) (by omega))).put (tg 121 (by omega) (by omega))).put (tg 124 (by omega) (by omega))).put (Or.inr (Or.inl (And.intro (by omega) (And.intro (by omega) rfl))))
  have kk : ∀ f a, f ≠ 64 → (f < 120 ∨ 125 ≤ f) → zf (zfp (zfp (zfp (zfp (zfp m 123 (tt n) s) 120 (tt n) w) 121 (tt n) 0) 124 (tt n) 0) 64 (dR P rd) (nI (n + 1))) f a = zf m f a := fun f a h1 h2 => by
    rw [zf_ne (Or.inl h1), zf_ne (Or.inl (by omega)), zf_ne (Or.inl (by omega)), zf_ne (Or.inl (by omega)), zf_ne (Or.inl (by omega))]
  obtain ⟨a1, a2, a3, a4, a5, a6, a7, a8⟩ := h.2.1
  have pk : ∀ j, j ≠ 44 + 4 * n → j ≠ 44 + 4 * n + 1 → j ≠ 43 → pPut W n s w j = W j := fun j h1 h2 h3 => by
    unfold pPut
    rw [uV_n h3, uV_n h2, uV_n h1]
  have p43 : pPut W n s w 43 = nI (n + 1) := uV_s
  refine ⟨_, rfl, ?_, ⟨?_, ?_, ?_, ?_, ?_, ?_, fun k hk => ?_, fun t k ht hk => ?_⟩, h.2.2.1.trans f4, h.2.2.2.put hn3⟩
  · rw [kk _ _ (by omega) (by omega), h.1]
  · rw [kk _ _ (by omega) (by omega), a1, pk _ (by omega) (by omega) (by omega)]
  · rw [kk _ _ (by omega) (by omega), a2, pk _ (by omega) (by omega) (by omega)]
  · rw [zf_eq, p43]
  · rw [kk _ _ (by omega) (by omega), a4, pk _ (by omega) (by omega) (by omega)]
  · rw [kk _ _ (by omega) (by omega), a5, pk _ (by omega) (by omega) (by omega)]
  · rw [kk _ _ (by omega) (by omega), a6, pk _ (by omega) (by omega) (by omega)]
  · rw [pk _ (by omega) (by omega) (by omega), l2, n_nat (by omega)] at hk
    rw [pk _ (by omega) (by omega) (by omega)]
    exact a7 k (by rw [l2, n_nat (by omega)]; exact hk)
  · rw [p43, n_nat (by omega)] at ht
    have htl := tsl_lt k
    rw [zf_ne (Or.inl (by omega))]
    by_cases e : t = n
    · subst e
      obtain ⟨w1, w2⟩ := hw3 t hn3
      rcases (show k = 0 ∨ k = 1 ∨ k = 2 ∨ k = 3 by omega) with rfl | rfl | rfl | rfl
      · rw [show tsl 0 = 123 from rfl, zf_ne (Or.inl (by omega)), zf_ne (Or.inl (by omega)), zf_ne (Or.inl (by omega)), zf_eq]
        unfold pPut
        rw [uV_n (by omega), uV_n (by omega), Nat.add_zero, uV_s]
      · rw [show tsl 1 = 120 from rfl, zf_ne (Or.inl (by omega)), zf_ne (Or.inl (by omega)), zf_eq]
        unfold pPut
        rw [uV_n (by omega), uV_s]
      · rw [show tsl 2 = 121 from rfl, zf_ne (Or.inl (by omega)), zf_eq, pk _ (by omega) (by omega) (by omega), w1]
      · rw [show tsl 3 = 124 from rfl, zf_eq, pk _ (by omega) (by omega) (by omega), w2]
    · have hne : tt t ≠ tt n := fun q => e (hd.2.2.2.2.2.1 t n (by omega) hn3 q)
      rw [zf_ne (Or.inr hne), zf_ne (Or.inr hne), zf_ne (Or.inr hne), zf_ne (Or.inr hne), a8 t k (by rw [h43, n_nat (by omega)]; omega) hk, pk _ (by omega) (by omega) (by omega)]
theorem c_target (hd : DF P m0 rd tt) (ht : TxP P m0 (dT P rd) tn T) (hn : tn ≤ 40) (h : CR P rd tt m0 m o W) (ho : o < 900) {n : Nat} (h43 : W 43 = nI n) (hn3 : n < 3) :
    ∃ m', f_X4_readTarget P rd m = some (bI (pTgt (pH tn T) o W n).1, m') ∧ CG P rd tt m0 m' (pTgt (pH tn T) o W n) := by
  have hh := c_hasT_l hd h h43 (by omega) (s := pH tn T o - 48) n 0 zfuel (by omega) (by unfold zfuel; omega) rfl
  have hh' : f_X3_hasTarget P (dR P rd) (pH tn T o - 48) m = some (bI (pHas W (pH tn T o - 48) n), m) := hh
  obtain ⟨m1, a1, a2⟩ := c_readDigit hd ht hn h (by omega) (lo := 0) (hi := 3)
  unfold f_X4_readTarget f_X4_readTarget_b60 pTgt
  rw [zl_s, zl_s, h.1, c_at hd ht hn h.2.2.1 (by omega), zb_s]
  dsimp only
  rw [hh', zb_s]
  simp only [zbo_0, zbo_1, zgd_t]
  cases hc : pHas W (pH tn T o - 48) n with
  | true =>
    rw [if_neg (by decide), if_neg (fun q => by cases q.2)]
    exact ⟨m, rfl, h.b⟩
  | false =>
    rw [if_pos bI_f, a1, zb_s]
    dsimp only
    by_cases h1 : pD (pH tn T) 0 3 o = true
    · rw [if_pos h1] at a2
      rw [if_pos h1, if_neg (pD_ne (by decide) h1), if_pos ⟨h1, rfl⟩]
      obtain ⟨m2, b1, b2⟩ := c_readSign hd ht hn a2 (by omega) (c := 58)
      rw [b1, zb_s]
      dsimp only
      by_cases h58 : pH tn T (o + 1) = 58
      · rw [if_pos h58, show o + 1 + 1 = o + 2 from rfl] at b2
        rw [decide_eq_true h58, if_neg (by decide), if_pos h58]
        obtain ⟨m3, d1, d2⟩ := c_readDigit hd ht hn b2 (by omega) (lo := 1) (hi := 9)
        rw [d1, zb_s, zl_s]
        dsimp only
        obtain ⟨m4, e1, e2⟩ := CR.put hd d2 h43 hn3 (s := pH tn T o - 48) (w := if pD (pH tn T) 1 9 (o + 2) = true then pH tn T (o + 2) - 48 else -1)
        rw [e1, zb_s]
        dsimp only
        by_cases h2 : pD (pH tn T) 1 9 (o + 2) = true
        · rw [if_pos h2, if_pos h2, show o + 2 + 1 = o + 3 from rfl] at e2
          rw [if_pos h2, if_neg (pD_ne (by decide) h2), if_pos h2]
          exact ⟨_, rfl, e2.g⟩
        · rw [if_neg h2, if_neg h2] at e2
          rw [if_neg h2, if_pos rfl, if_neg h2]
          exact ⟨_, rfl, e2.b⟩
      · rw [if_neg h58] at b2
        rw [decide_eq_false h58, if_pos bI_f, if_neg h58, zl_s]
        obtain ⟨m4, e1, e2⟩ := CR.put hd b2 h43 hn3 (s := pH tn T o - 48) (w := 1)
        rw [e1, zb_s, if_neg (by decide)]
        exact ⟨_, rfl, e2.g⟩
    · rw [if_neg h1] at a2
      rw [if_neg h1, if_pos rfl, if_neg (fun q => h1 q.1)]
      exact ⟨_, rfl, a2.b⟩
theorem c_tgs (hd : DF P m0 rd tt) (ht : TxP P m0 (dT P rd) tn T) (hn : tn ≤ 40) : ∀ d n o (W : Nat → Int32) fu (m : zM), n + d + 1 = 3 → d + 1 < fu → CR P rd tt m0 m o W → o ≤ tn → W 43 = nI n →
    ∃ m', f_X4_readTargets_b22 P (f_X4_readTargets_b2 P fu) rd (nI n) m = some (bI (pTgs (pH tn T) (d + 1) o W n).1, m') ∧ CG P rd tt m0 m' (pTgs (pH tn T) (d + 1) o W n) := by
  intro d
  induction d with
  | zero =>
    intro n o W fu m hnd hfu h ho h43
    obtain ⟨fu, rfl⟩ : ∃ f, fu = f + 1 := ⟨fu - 1, by omega⟩
    obtain ⟨m1, a1, a2⟩ := c_target hd ht hn h (by omega) h43 (by omega)
    unfold f_X4_readTargets_b22 pTgs
    rw [a1, zb_s]
    simp only [zbo_0, zbo_1, zgd_t]
    generalize pTgt (pH tn T) o W n = x at *
    obtain ⟨g, o', W'⟩ := x
    cases g with
    | false =>
      rw [if_pos bI_f, pB_f]
      exact ⟨m1, rfl, a2⟩
    | true =>
      rw [if_neg (show ¬ bI true = 0 by decide), pB_t, if_neg (fun q => absurd q.2 (by omega)), zl_s, nI_1]
      unfold f_X4_readTargets_b2
      rw [if_pos (by rw [show (3 : Int32) = nI 3 from rfl, n_le (by omega) (by omega)]; omega), zbo_1, zgd_t]
      exact ⟨m1, rfl, a2⟩
  | succ d ih =>
    intro n o W fu m hnd hfu h ho h43
    obtain ⟨fu, rfl⟩ : ∃ f, fu = f + 1 := ⟨fu - 1, by omega⟩
    obtain ⟨m1, a1, a2⟩ := c_target hd ht hn h (by omega) h43 (by omega)
    have hle := pTgt_le (T := T) (W := W) (n := n) ho
    unfold f_X4_readTargets_b22
    rw [pTgs, a1, zb_s]
    simp only [zbo_0, zbo_1, zgd_t]
    generalize pTgt (pH tn T) o W n = x at *
    obtain ⟨g, o', W'⟩ := x
    cases g with
    | false =>
      rw [if_pos bI_f, pB_f]
      exact ⟨m1, rfl, a2⟩
    | true =>
      obtain ⟨c1, c2⟩ := hle rfl
      dsimp only at c1 c2
      have c3 : CR P rd tt m0 m1 o' W' := ⟨a2.1, (a2.2.2 rfl).1, a2.2.1, (a2.2.2 rfl).2⟩
      obtain ⟨m2, b1, b2⟩ := c_readSign hd ht hn c3 (by omega) (c := 44)
      rw [if_neg (show ¬ bI true = 0 by decide), pB_t, zl_s, nI_1]
      unfold f_X4_readTargets_b2
      rw [if_neg (by rw [show (3 : Int32) = nI 3 from rfl, n_le (by omega) (by omega)]; omega), if_neg (by rw [show (0 : Int32) = nI 0 from rfl, n_le (by omega) (by omega)]; omega), b1, zb_s]
      simp only [zbo_1, zgd_t]
      by_cases h44 : pH tn T o' = 44
      · have hlt := pH_in h44 (by decide)
        rw [if_pos h44] at b2
        rw [decide_eq_true h44, if_neg (by decide), if_pos ⟨h44, by omega⟩]
        exact ih (n + 1) (o' + 1) W' fu m2 (by omega) (by omega) b2 (by omega) c2
      · rw [if_neg h44] at b2
        rw [decide_eq_false h44, if_pos bI_f, if_neg (fun q => h44 q.1)]
        exact ⟨m2, rfl, b2.g⟩
theorem c_targets (hd : DF P m0 rd tt) (ht : TxP P m0 (dT P rd) tn T) (hn : tn ≤ 40) (h : CR P rd tt m0 m o W) (ho : o ≤ tn) (h43 : W 43 = nI 0) :
    ∃ m', f_X4_readTargets P rd m = some (bI (pTgs (pH tn T) 3 o W 0).1, m') ∧ CG P rd tt m0 m' (pTgs (pH tn T) 3 o W 0) := by
  obtain ⟨fu, hfu⟩ : ∃ f, zfuel = f + 1 := ⟨999, rfl⟩
  unfold f_X4_readTargets
  rw [hfu]
  unfold f_X4_readTargets_b2
  rw [if_neg (by decide), if_pos (by decide)]
  exact c_tgs hd ht hn 2 0 o W fu m (by omega) (by unfold zfuel at hfu; omega) h ho h43
/-- a sign put to the prefix -/
theorem CR.pre (hd : DF P m0 rd tt) (h : CR P rd tt m0 m o W) (h0 : W 0 = nI o) (ho : o < 40) (h43 : W 43 = nI 0) {c : Nat} (hc : c < 128) : ∃ m', f_X7_put P (dP P rd) (nI c) m = some (0, m') ∧ CR P rd tt m0 (zfp m' 82 rd (nI (o + 1))) (o + 1) (uV (uV W (1 + o) (nI c)) 0 (nI (o + 1))) ∧ zf m' 82 rd = nI o := by
  obtain ⟨a1, a2, a3, a4, a5, a6, a7, a8⟩ := h.2.1
  rw [h0, n_nat (by omega)] at a7
  have tx : TxP P m (dP P rd) o (fun k => W (1 + k)) := ⟨by rw [a6, h0], a7⟩
  obtain ⟨m1, p1, p2, p3⟩ := c_putT tx ho hd.2.1 hc
  have k1 : ∀ f a, f ≠ 141 → zf m1 f a = zf m f a := fun f a h => p3.2.1 f a (fun q => h q.1)
  have fd : FD P rd tt m m1 := p3.mono (fun f a q => Or.inr (Or.inr (Or.inl q))) (fun _ _ q => q)
  obtain ⟨hw1, hw2, hw3⟩ := h.2.2.2
  have pk : ∀ j, j ≠ 1 + o → j ≠ 0 → uV (uV W (1 + o) (nI c)) 0 (nI (o + 1)) j = W j := fun j h1 h2 => by rw [uV_n h2, uV_n h1]
  have e43 : uV (uV W (1 + o) (nI c)) 0 (nI (o + 1)) 43 = nI 0 := by rw [pk _ (by omega) (by omega), h43]
  refine ⟨m1, p1, ⟨zf_eq, ⟨?_, ?_, ?_, ?_, ?_, ?_, fun k hk => ?_, fun t k ht hk => ?_⟩, (h.2.2.1.trans fd).put (Or.inl (And.intro rfl rfl)), ⟨o + 1, by omega, uV_s⟩, ⟨0, by omega, e43⟩, fun t ht => ?_⟩, by rw [k1 _ _ (by omega), h.1]⟩
  · rw [zf_ne (Or.inl (by omega)), k1 _ _ (by omega), a1, pk _ (by omega) (by omega)]
  · rw [zf_ne (Or.inl (by omega)), k1 _ _ (by omega), a2, pk _ (by omega) (by omega)]
  · rw [zf_ne (Or.inl (by omega)), k1 _ _ (by omega), a3, pk _ (by omega) (by omega)]
  · rw [zf_ne (Or.inl (by omega)), k1 _ _ (by omega), a4, pk _ (by omega) (by omega)]
  · rw [zf_ne (Or.inl (by omega)), k1 _ _ (by omega), a5, pk _ (by omega) (by omega)]
  · rw [zf_ne (Or.inl (by omega)), p2.1, uV_s]
  · rw [uV_s, n_nat (by omega)] at hk
    show za m1 _ k = _
    rw [p2.2 k hk, uV_n (show 1 + k ≠ 0 by omega)]
    by_cases e : k = o
    · subst e
      rw [uV_s, uV_s]
    · rw [uV_n e, uV_n (show 1 + k ≠ 1 + o by omega)]
  · rw [e43, n_nat (by omega)] at ht
    omega
  · rw [pk _ (by omega) (by omega), pk _ (by omega) (by omega)]
    exact hw3 t ht
theorem c_pre_l (hd : DF P m0 rd tt) (ht : TxP P m0 (dT P rd) tn T) (hn : tn ≤ 40) (hT : ∀ k, k < tn → ∃ c, c < 128 ∧ T k = nI c) : ∀ d o (W : Nat → Int32) fu (m : zM), o + d = 40 → d < fu → CR P rd tt m0 m o W → o ≤ tn → W 0 = nI o → W 43 = nI 0 →
    ∃ m', f_X4_readPrefix_b15 P fu rd m = some (1, m') ∧ CR P rd tt m0 m' (pPre tn T d o W).1 (pPre tn T d o W).2 := by
  intro d
  induction d with
  | zero =>
    intro o W fu m hod hfu h ho h0 h43
    obtain ⟨fu, rfl⟩ : ∃ f, fu = f + 1 := ⟨fu - 1, by omega⟩
    unfold f_X4_readPrefix_b15 f_X4_readPrefix_b80
    rw [zl_s, (FD.tx hd ht h.2.2.1).1, h.1, if_pos (by rw [n_le (by omega) (by omega)]; omega), zbo_1, zgd_t]
    exact ⟨m, rfl, h⟩
  | succ d ih =>
    intro o W fu m hod hfu h ho h0 h43
    obtain ⟨fu, rfl⟩ : ∃ f, fu = f + 1 := ⟨fu - 1, by omega⟩
    unfold f_X4_readPrefix_b15 f_X4_readPrefix_b80 pPre
    rw [zl_s, (FD.tx hd ht h.2.2.1).1, h.1]
    simp only [zbo_1, zgd_t]
    by_cases h1 : o < tn
    · rw [if_neg (by rw [n_le (by omega) (by omega)]; omega), zl_s, c_at hd ht hn h.2.2.1 (by omega), zb_s, pH_lt h1, c_isPathSign, zb_s]
      dsimp only
      cases hc : sPs (T o) with
      | false =>
        rw [if_pos bI_f, if_neg (fun q => by cases q.2)]
        exact ⟨m, rfl, h⟩
      | true =>
        obtain ⟨c, c1, c2⟩ := hT o h1
        obtain ⟨m1, p1, p2, p3⟩ := CR.pre hd h h0 (by omega) h43 c1
        rw [if_neg (by decide), if_pos ⟨h1, rfl⟩, zl_s, zl_s, zl_s, h.1, c_at hd ht hn h.2.2.1 (by omega), zb_s, pH_lt h1, c2]
        dsimp only
        rw [p1, zb_s]
        dsimp only
        rw [p3, nI_1, zl_s]
        exact ih (o + 1) _ fu _ (by omega) (by omega) p2 (by omega) uV_s (by rw [uV_n (by omega), uV_n (by omega)]; exact h43)
    · rw [if_pos (by rw [n_le (by omega) (by omega)]; omega), if_neg (fun q => h1 q.1)]
      exact ⟨m, rfl, h⟩
theorem c_rbegin (A : Nat → Int32) : ∃ m', f_X3_begin P (dR P rd) m = some (0, m') ∧ RuP P m' (dR P rd) tt (pW0 A) ∧ FD P rd tt m m' := by
  have w0 : ∀ j, j < 58 → j ≠ 42 → j ≠ 56 → j ≠ 57 → pW0 A j = 0 := fun j h1 h2 h3 h4 => by
    unfold pW0
    rw [uV_n h4, uV_n h3, uV_n h2, pZero_at, if_pos h1]
  have w42 : pW0 A 42 = 9 := by
    unfold pW0
    rw [uV_n (by omega), uV_n (by omega), uV_s]
  have w56 : pW0 A 56 = 1 := by
    unfold pW0
    rw [uV_n (by omega), uV_s]
  have w57 : pW0 A 57 = -1 := uV_s
  have pl : ∀ f, 60 ≤ f → f < 67 → cS P rd tt f (dR P rd) := fun f h1 h2 => Or.inr (Or.inl ⟨h1, h2, rfl⟩)
  unfold f_X3_begin f_X7_clear
  simp only [zl_s, zb_s]
  refine ⟨_, rfl, ⟨?_, ?_, ?_, ?_, ?_, ?_, fun k hk => ?_, fun t k ht hk => ?_⟩, ?_⟩
  · rw [zf_ne (Or.inl (by omega)), zf_ne (Or.inl (by omega)), zf_ne (Or.inl (by omega)), zf_ne (Or.inl (by omega)), zf_eq, w0 41 (by omega) (by omega) (by omega) (by omega)]
  · rw [zf_ne (Or.inl (by omega)), zf_ne (Or.inl (by omega)), zf_ne (Or.inl (by omega)), zf_eq, w42]
  · rw [zf_ne (Or.inl (by omega)), zf_ne (Or.inl (by omega)), zf_eq, w0 43 (by omega) (by omega) (by omega) (by omega)]
  · rw [zf_ne (Or.inl (by omega)), zf_eq, w56]
  · rw [zf_eq, w57]
  · rw [zf_ne (Or.inl (by omega)), zf_ne (Or.inl (by omega)), zf_ne (Or.inl (by omega)), zf_ne (Or.inl (by omega)), zf_ne (Or.inl (by omega)), zf_eq, w0 0 (by omega) (by omega) (by omega) (by omega)]
  · rw [w0 0 (by omega) (by omega) (by omega) (by omega)] at hk
    exact absurd hk (by rw [show (0 : Int32).toNatClampNeg = 0 by decide]; omega)
  · rw [w0 43 (by omega) (by omega) (by omega) (by omega)] at ht
    exact absurd ht (by rw [show (0 : Int32).toNatClampNeg = 0 by decide]; omega)
  · exact (((((Fp.put (S := cS P rd tt) (A := fun a _ => a = dZ P rd) Fp.rfl' (Or.inr (Or.inr (Or.inl (And.intro rfl rfl))))).put (pl 61 (by omega) (by omega))).put (pl 62 (by omega) (by omega))).put (pl 64 (by omega) (by omega))).put (pl 65 (by omega) (by omega))).put (pl 66 (by omega) (by omega))
end PE

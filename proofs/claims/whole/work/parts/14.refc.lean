def sCnt (p : Nat → Bool) : Nat → Int32
  | 0 => 0
  | k + 1 => sCnt p k + bI (p k)
theorem sCnt_s {p : Nat → Bool} {k : Nat} : sCnt p (k + 1) = sCnt p k + bI (p k) := rfl
theorem sCnt_0 {p : Nat → Bool} : sCnt p 0 = nI 0 := rfl
def sOut (V : Nat → Int32) (i : Nat) (s : Int32) : Bool := sMem V i s && decide (0 < V (12 * i + 9))
theorem bI_tn : bI true = nI 1 := rfl
theorem bI_fn : bI false = nI 0 := rfl
def sEject (c : Int32) (V : Nat → Int32) (N b s : Nat) : Nat → Int32 :=
  if c = 2 then V
  else if V (12 * b + 7) < V (145 + 21 * s + 1) then V
  else if (sCnt (fun i => sOut V i (nI s)) N + 1) * 100 ≤ V (145 + 21 * s + 3) * sCnt (fun i => sMem V i (nI s)) N then
    let V1 := uV V (12 * b + 8) (V (12 * b + 8) + 1)
    let V2 := uV V1 (12 * b + 7) 0
    let V3 := uV V2 (12 * b + 9) (V2 (145 + 21 * s + 2) * V2 (12 * b + 8))
    uV V3 704 (V3 704 + 1)
  else V
def sGood (V : Nat → Int32) (b : Nat) : Bool := decide (sBit (V (12 * b + 3)) (V (12 * b + 5)) = 1)
def sTry1 (V : Nat → Int32) (b : Nat) : Nat → Int32 :=
  let V1 := uV V (12 * b + 5) (V (12 * b + 5) + 1)
  let V2 := uV V1 (12 * b + 6) (V1 (12 * b + 6) + bI (sGood V b))
  let V3 := uV V2 (12 * b + 7) (if sGood V b = true then 0 else V2 (12 * b + 7) + 1)
  uV V3 702 (V3 702 + 1)
def sTrace (V : Nat → Int32) (b : Nat) (g : Bool) (z : Int32) (T : Nat) : Nat → Int32 :=
  let V6 := uV V (707 + 4 * T) (nI b)
  let V7 := uV V6 (707 + 4 * T + 1) (bI g)
  let V8 := uV V7 (707 + 4 * T + 2) (bI (decide (V7 (12 * b + 1) = z)))
  let V9 := uV V8 (707 + 4 * T + 3) (bI (decide (0 < V8 (12 * b + 9))))
  uV V9 706 (V9 706 + 1)
def sTry (c : Int32) (V : Nat → Int32) (N b s : Nat) (z : Int32) (T : Nat) : Nat → Int32 :=
  sTrace (if sGood V b = true then sTry1 V b else sEject c (sTry1 V b) N b s) b (sGood V b) z T
section RC
variable {P : zSt} {y : Nat} {m : zM}
theorem r_members_l (ok : yOK P y) {s : Int32} {o : Bool} {N : Nat} (hN : za m (yv P y) 144 = nI N) (h12 : N ≤ 12) : ∀ d k fu, k + d = N → d < fu → f_X11_members_b5 P fu y s (bI o) (sCnt (fun i => if o = true then sOut (za m (yv P y)) i s else sMem (za m (yv P y)) i s) k) (nI k) m = some (sCnt (fun i => if o = true then sOut (za m (yv P y)) i s else sMem (za m (yv P y)) i s) N, m) := by
  intro d
  induction d with
  | zero =>
    intro k fu hk hf
    obtain ⟨fu, rfl⟩ : ∃ f, fu = f + 1 := ⟨fu - 1, by omega⟩
    have : k = N := by omega
    subst this
    unfold f_X11_members_b5
    simp only [nlit, n_mul, n_add, zl_s, zb_s, zgd_t, zin_v, nat_v, za_wA, wA_wA, zf_wA, zap_eq, ok.1, hN, n_le_eq, Nat.le_refl, show k < 723 by omega, bIt0, bIf0, bIt1, bIf1, if_true, if_false, reduceIte, Nat.reduceLT]
  | succ d ih =>
    intro k fu hk hf
    obtain ⟨fu, rfl⟩ : ∃ f, fu = f + 1 := ⟨fu - 1, by omega⟩
    have hkN : k < 12 := by omega
    have hg := ih (k + 1) fu (by omega) (by omega)
    rw [sCnt_s] at hg
    unfold f_X11_members_b5 f_X11_members_b44 f_X11_members_b48 f_X11_members_b49
    simp only [nlit, n_mul, n_add, zl_s, zb_s, zgd_t, zin_v, nat_v, za_wA, wA_wA, zf_wA, zap_eq, ok.1, hN, n_le_eq, show k < 723 by omega, show N < 723 by omega, show ¬ N ≤ k by omega, bIt0, bIf0, bIt1, bIf1, if_true, if_false, reduceIte, Nat.reduceLT, r_isMember ok hkN]
    cases hc : sMem (za m (yv P y)) k s with
    | false =>
      have e : (if o = true then sOut (za m (yv P y)) k s else sMem (za m (yv P y)) k s) = false := by
        unfold sOut
        rw [hc]
        cases o <;> rfl
      rw [e, bI_fn] at hg
      simp only [bIt0, bIf0, bIt1, bIf1, if_true, if_false, reduceIte]
      exact hg
    | true =>
      simp only [bIt0, bIf0, bIt1, bIf1, if_true, if_false, reduceIte]
      cases o with
      | false =>
        simp only [bIt0, bIf0, bIt1, bIf1, if_true, if_false, reduceIte]
        have e : (if (false : Bool) = true then sOut (za m (yv P y)) k s else sMem (za m (yv P y)) k s) = true := hc
        rw [e, bI_tn] at hg
        exact hg
      | true =>
        simp only [bIt0, bIf0, bIt1, bIf1, if_true, if_false, reduceIte, r_of ok hkN, Nat.reduceLT, zb_s]
        have e : (if (true : Bool) = true then sOut (za m (yv P y)) k s else sMem (za m (yv P y)) k s) = decide (0 < za m (yv P y) (12 * k + 9)) := by
          show sOut _ _ _ = _
          unfold sOut
          rw [hc]
          rfl
        rw [e] at hg
        by_cases h2 : za m (yv P y) (12 * k + 9) ≤ nI 0
        · rw [if_pos h2]
          rw [decide_eq_false (p := (0 : Int32) < za m (yv P y) (12 * k + 9)) (Int32.not_lt.mpr h2), bI_fn] at hg
          exact hg
        · rw [if_neg h2]
          rw [decide_eq_true (p := (0 : Int32) < za m (yv P y) (12 * k + 9)) (Int32.not_le.mp h2), bI_tn] at hg
          exact hg
theorem r_members (ok : yOK P y) {s : Int32} {o : Bool} {N : Nat} (hN : za m (yv P y) 144 = nI N) (h12 : N ≤ 12) : f_X11_members P y s (bI o) m = some (sCnt (fun i => if o = true then sOut (za m (yv P y)) i s else sMem (za m (yv P y)) i s) N, m) := r_members_l ok hN h12 N 0 zfuel (by omega) (by unfold zfuel; omega)
theorem r_ejects_l (ok : yOK P y) {c : Int32} {N b s : Nat} (hc0 : zf m 216 y = c) (hb : b < 12) (hs : s < 4) (hN : za m (yv P y) 144 = nI N) (h12 : N ≤ 12) : ∀ d k fu, k + d = N → d < fu → f_X11_ejects_b8 P fu y (nI b) (nI s) (sCnt (fun i => sMem (za m (yv P y)) i (nI s)) k) (sCnt (fun i => sOut (za m (yv P y)) i (nI s)) k) (nI k) m = some (0, wA m (yv P y) (sEject c (za m (yv P y)) N b s)) := by
  have hs1 : ∀ j, j < 21 → 145 + 21 * s + j < 723 := by omega
  intro d
  induction d with
  | zero =>
    intro k fu hk hf
    obtain ⟨fu, rfl⟩ : ∃ f, fu = f + 1 := ⟨fu - 1, by omega⟩
    have : k = N := by omega
    subst this
    unfold f_X11_ejects_b8 sEject
    simp only [nlit, n_mul, n_add, zl_s, zb_s, zgd_t, zin_v, nat_v, za_wA, wA_wA, zf_wA, zap_eq, ok.1, hN, n_le_eq, Nat.le_refl, show k < 723 by omega, bIt0, bIf0, bIt1, bIf1, if_true, if_false, reduceIte, Nat.reduceLT, hc0, hs1, r_of ok hb, r_sets ok hb]
    by_cases h1 : c = nI 2
    · simp only [h1, if_true, wA_self]
    · simp only [h1, if_false]
      by_cases h2 : za m (yv P y) (12 * b + 7) < za m (yv P y) (145 + 21 * s + 1)
      · simp only [h2, if_true, wA_self]
      · simp only [h2, if_false]
        by_cases h3 : (sCnt (fun i => sOut (za m (yv P y)) i (nI s)) k + nI 1) * nI 100 ≤ za m (yv P y) (145 + 21 * s + 3) * sCnt (fun i => sMem (za m (yv P y)) i (nI s)) k
        · simp only [h3, if_true]
        · simp only [h3, if_false, wA_self]
  | succ d ih =>
    intro k fu hk hf
    obtain ⟨fu, rfl⟩ : ∃ f, fu = f + 1 := ⟨fu - 1, by omega⟩
    have hkN : k < 12 := by omega
    have hg := ih (k + 1) fu (by omega) (by omega)
    rw [sCnt_s, sCnt_s] at hg
    unfold f_X11_ejects_b8 f_X11_ejects_b37 f_X11_ejects_b66 f_X11_ejects_b67
    simp only [nlit, n_mul, n_add, zl_s, zb_s, zgd_t, zin_v, nat_v, za_wA, wA_wA, zf_wA, zap_eq, ok.1, hN, n_le_eq, show k < 723 by omega, show N < 723 by omega, show ¬ N ≤ k by omega, bIt0, bIf0, bIt1, bIf1, if_true, if_false, reduceIte, Nat.reduceLT, r_isMember ok hkN]
    unfold sOut at hg ⊢
    cases hc : sMem (za m (yv P y)) k (nI s) with
    | false =>
      rw [hc] at hg
      simp only [bIt0, bIf0, bIt1, bIf1, if_true, if_false, reduceIte, Bool.false_and] at hg ⊢
      exact hg
    | true =>
      rw [hc] at hg
      simp only [bIt0, bIf0, bIt1, bIf1, if_true, if_false, reduceIte, Bool.true_and, r_of ok hkN, Nat.reduceLT, zb_s] at hg ⊢
      by_cases h2 : za m (yv P y) (12 * k + 9) ≤ nI 0
      · rw [if_pos h2]
        rw [decide_eq_false (p := (0 : Int32) < za m (yv P y) (12 * k + 9)) (Int32.not_lt.mpr h2), bI_fn] at hg
        exact hg
      · rw [if_neg h2]
        rw [decide_eq_true (p := (0 : Int32) < za m (yv P y) (12 * k + 9)) (Int32.not_le.mp h2), bI_tn] at hg
        exact hg
theorem r_ejects (ok : yOK P y) {c : Int32} {N b s : Nat} (hc0 : zf m 216 y = c) (hb : b < 12) (hs : s < 4) (hN : za m (yv P y) 144 = nI N) (h12 : N ≤ 12) : f_X11_ejects P y (nI b) (nI s) m = some (0, wA m (yv P y) (sEject c (za m (yv P y)) N b s)) := r_ejects_l ok hc0 hb hs hN h12 N 0 zfuel (by omega) (by unfold zfuel; omega)
theorem sEject_keep {c : Int32} {V : Nat → Int32} {N b s j : Nat} (h : j ≠ 12 * b + 8 ∧ j ≠ 12 * b + 7 ∧ j ≠ 12 * b + 9 ∧ j ≠ 704) : sEject c V N b s j = V j := by
  unfold sEject
  split
  · rfl
  · split
    · rfl
    · split
      · dsimp only
        rw [uV_n h.2.2.2, uV_n h.2.2.1, uV_n h.2.1, uV_n h.1]
      · rfl
theorem sTry1_keep {V : Nat → Int32} {b j : Nat} (h : j ≠ 12 * b + 5 ∧ j ≠ 12 * b + 6 ∧ j ≠ 12 * b + 7 ∧ j ≠ 702) : sTry1 V b j = V j := by
  unfold sTry1
  rw [uV_n h.2.2.2, uV_n h.2.2.1, uV_n h.2.1, uV_n h.1]
/-- the trace's part of an attempt -/
theorem r_trace (ok : yOK P y) {b T : Nat} {z : Int32} {g : Bool} {s : Int32} (hb : b < 12) (hT : za m (yv P y) 706 = nI T) (hT4 : T < 4) : f_X11_tries_b116 P y (nI b) z (bI g) m = some (bI g, wA m (yv P y) (sTrace (za m (yv P y)) b g z T)) := by
  have hs1 : ∀ j, j < 4 → 707 + 4 * T + j < 723 := by omega
  have hs2 : 707 + 4 * T < 723 := by omega
  unfold f_X11_tries_b116 f_X11_tries_b158 f_X11_tries_b182 f_X11_tries_b206 sTrace
  have h706 : ∀ (V : Nat → Int32) (x : Int32) (j : Nat), j < 4 → uV V (707 + 4 * T + j) x 706 = V 706 := fun V x j _ => uV_n (by omega)
  have h7062 : ∀ (V : Nat → Int32) (x : Int32), uV V (707 + 4 * T) x 706 = V 706 := fun V x => uV_n (by omega)
  cases g
  · simp only [nlit, n_mul, n_add, zl_s, zb_s, zgd_t, zin_v, nat_v, za_wA, wA_wA, zf_wA, zap_eq, ok.1, hT, hs1, hs2, bIt0, bIf0, bIt1, bIf1, if_true, if_false, reduceIte, Nat.reduceLT, r_of ok hb, zbo_bI, h706, h7062]
    split <;> (rename_i h1; split <;> (rename_i h2; simp only [nlit, n_mul, n_add, zl_s, zb_s, zgd_t, zin_v, nat_v, za_wA, wA_wA, zf_wA, zap_eq, ok.1, hT, hs1, hs2, bIt0, bIf0, bIt1, bIf1, if_true, if_false, reduceIte, Nat.reduceLT, r_of ok hb, zbo_bI, h706, h7062, h1, h2, bI_tn, bI_fn, decide_true, decide_false, ← Int32.not_le, not_true, not_false_eq_true]))
  · simp only [nlit, n_mul, n_add, zl_s, zb_s, zgd_t, zin_v, nat_v, za_wA, wA_wA, zf_wA, zap_eq, ok.1, hT, hs1, hs2, bIt0, bIf0, bIt1, bIf1, if_true, if_false, reduceIte, Nat.reduceLT, r_of ok hb, zbo_bI, h706, h7062]
    split <;> (rename_i h1; split <;> (rename_i h2; simp only [nlit, n_mul, n_add, zl_s, zb_s, zgd_t, zin_v, nat_v, za_wA, wA_wA, zf_wA, zap_eq, ok.1, hT, hs1, hs2, bIt0, bIf0, bIt1, bIf1, if_true, if_false, reduceIte, Nat.reduceLT, r_of ok hb, zbo_bI, h706, h7062, h1, h2, bI_tn, bI_fn, decide_true, decide_false, ← Int32.not_le, not_true, not_false_eq_true]))
end RC

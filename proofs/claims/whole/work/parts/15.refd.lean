def mNr (V : Nat → Int32) (z : Int32) (a : Nat) : Nat → Nat
  | 0 => 0
  | k + 1 => mNr V z a k ||| (if V (12 * k + 1) = z then a &&& 2 ^ k else 0)
theorem mNr_s {V : Nat → Int32} {z : Int32} {a k : Nat} : mNr V z a (k + 1) = mNr V z a k ||| (if V (12 * k + 1) = z then a &&& 2 ^ k else 0) := rfl
def mWh (V : Nat → Int32) (s z : Int32) : Nat → Nat
  | 0 => 0
  | k + 1 => mWh V s z k ||| (if V (12 * k + 1) = z then (if sMem V k s = true then 2 ^ k else 0) else 0)
theorem mWh_s {V : Nat → Int32} {s z : Int32} {k : Nat} : mWh V s z (k + 1) = mWh V s z k ||| (if V (12 * k + 1) = z then (if sMem V k s = true then 2 ^ k else 0) else 0) := rfl
theorem mNr_lt {V : Nat → Int32} {z : Int32} {a n : Nat} : mNr V z a n < 2 ^ n := by
  induction n with
  | zero => exact Nat.one_pos
  | succ k ih =>
    rw [mNr_s]
    refine Nat.or_lt_two_pow (Nat.lt_of_lt_of_le ih (Nat.pow_le_pow_right (by decide) (by omega))) ?_
    split
    · exact Nat.lt_of_le_of_lt Nat.and_le_right (Nat.pow_lt_pow_right (by decide) (by omega))
    · exact Nat.two_pow_pos _
theorem mWh_lt {V : Nat → Int32} {s z : Int32} {n : Nat} : mWh V s z n < 2 ^ n := by
  induction n with
  | zero => exact Nat.one_pos
  | succ k ih =>
    rw [mWh_s]
    refine Nat.or_lt_two_pow (Nat.lt_of_lt_of_le ih (Nat.pow_le_pow_right (by decide) (by omega))) ?_
    split
    · split
      · exact Nat.pow_lt_pow_right (by decide) (by omega)
      · exact Nat.two_pow_pos _
    · exact Nat.two_pow_pos _
theorem mNr_bit {V : Nat → Int32} {z : Int32} {a n i : Nat} : (mNr V z a n).testBit i = (decide (i < n) && (a.testBit i && decide (V (12 * i + 1) = z))) := by
  induction n with
  | zero => simp [mNr]
  | succ k ih =>
    rw [mNr_s, Nat.testBit_or, ih]
    by_cases h2 : k = i
    · subst h2
      by_cases h : V (12 * k + 1) = z
      · simp [h, Nat.testBit_and, Nat.testBit_two_pow]
      · simp [h]
    · have e : (decide (i < k + 1)) = decide (i < k) := by
        apply decide_eq_decide.mpr
        omega
      rw [e]
      by_cases h : V (12 * k + 1) = z
      · simp [h, Nat.testBit_and, Nat.testBit_two_pow, h2]
      · simp [h]
theorem mWh_bit {V : Nat → Int32} {s z : Int32} {n i : Nat} : (mWh V s z n).testBit i = (decide (i < n) && (sMem V i s && decide (V (12 * i + 1) = z))) := by
  induction n with
  | zero => simp [mWh]
  | succ k ih =>
    rw [mWh_s, Nat.testBit_or, ih]
    by_cases h2 : k = i
    · subst h2
      by_cases h : V (12 * k + 1) = z
      · cases hm : sMem V k s <;> simp [h, Nat.testBit_two_pow]
      · simp [h]
    · have e : (decide (i < k + 1)) = decide (i < k) := by
        apply decide_eq_decide.mpr
        omega
      rw [e]
      by_cases h : V (12 * k + 1) = z
      · cases hm : sMem V k s <;> simp [h, Nat.testBit_two_pow, h2]
      · simp [h]
def sLm (c : Int32) (V : Nat → Int32) : Int32 := if c = 4 then 1 else V 229
/-- the zones: which are left, and the row -/
def sNarrow (c : Int32) (V : Nat → Int32) (N s : Nat) (z : Nat) (a : Nat) : Nat × (Nat → Int32) :=
  let nr := mNr V (nI z) a N
  if nr = 0 then (a, V)
  else if nr = a then (a, V)
  else
    let n := sSw nr.testBit V N
    let w := sSw (mWh V (nI s) (nI z) N).testBit V N
    let lm := sLm c V
    if 100 * n < lm * w then
      let V1 := uV V (145 + 21 * s + 8 + z) (V (145 + 21 * s + 8 + z) + 10000 * n / (lm * w))
      if 100 ≤ V1 (145 + 21 * s + 8 + z) then (nr, uV V1 (145 + 21 * s + 8 + z) (V1 (145 + 21 * s + 8 + z) - 100))
      else (mWo a nr, V1)
    else (nr, V)
section RD
variable {P : zSt} {y : Nat} {m : zM}
theorem n_wo' {a b : Nat} (ha : a < 2 ^ 31) (hb : b < 2 ^ 31) : nI a &&& (nI b ^^^ (-nI 1)) = nI (mWo a b) := n_wo ha hb
theorem n10 : (nI 1 = nI 0) = False := eq_false (by decide)
theorem p2lt {k : Nat} (h : k < 12) : 2 ^ k < 2 ^ 31 := Nat.pow_lt_pow_right (by decide) (by omega)
theorem lt31 {a N : Nat} (h : a < 2 ^ N) (h12 : N ≤ 12) : a < 2 ^ 31 := Nat.lt_of_lt_of_le h (Nat.pow_le_pow_right (by decide) (by omega))
theorem r_narrowed_l (ok : yOK P y) {c : Int32} {N s z a : Nat} (hc0 : zf m 216 y = c) (hs : s < 4) (hz : z < 3) (ha : a < 2 ^ 31) (hN : za m (yv P y) 144 = nI N) (h12 : N ≤ 12)
    (hdiv : mNr (za m (yv P y)) (nI z) a N ≠ 0 → mNr (za m (yv P y)) (nI z) a N ≠ a → sLm c (za m (yv P y)) * sSw (mWh (za m (yv P y)) (nI s) (nI z) N).testBit (za m (yv P y)) N ≠ 0) :
    ∀ d k fu, k + d = N → d < fu → f_X11_narrowed_b9 P fu y (nI a) (nI s) (nI z) (nI (mNr (za m (yv P y)) (nI z) a k)) (nI (mWh (za m (yv P y)) (nI s) (nI z) k)) (nI k) m = some (nI (sNarrow c (za m (yv P y)) N s z a).1, wA m (yv P y) (sNarrow c (za m (yv P y)) N s z a).2) := by
  have hs1 : ∀ j, j < 21 → 145 + 21 * s + j < 723 := by omega
  have hs2 : 145 + 21 * s + 8 + z < 723 := by omega
  have eL : sLm c (za m (yv P y)) = if c = 4 then 1 else za m (yv P y) 229 := rfl
  rw [eL] at hdiv
  intro d
  induction d with
  | zero =>
    intro k fu hk hf
    obtain ⟨fu, rfl⟩ : ∃ f, fu = f + 1 := ⟨fu - 1, by omega⟩
    have : k = N := by omega
    subst this
    have hnr : mNr (za m (yv P y)) (nI z) a k < 2 ^ 31 := lt31 mNr_lt h12
    have hwh : mWh (za m (yv P y)) (nI s) (nI z) k < 2 ^ 31 := lt31 mWh_lt h12
    unfold f_X11_narrowed_b9 f_X11_narrowed_b87 sNarrow
    rw [zl_s, ok.1, zin144, z144, zgd_t, hN, if_pos (Int32.le_refl _)]
    by_cases h1 : mNr (za m (yv P y)) (nI z) a k = 0
    · rw [h1]
      simp only [if_true, wA_self]
      rfl
    · rw [if_neg (by rw [show (0 : Int32) = nI 0 from rfl, n_inj hnr (by decide)]; exact h1)]
      simp only [h1, if_false]
      by_cases h2 : mNr (za m (yv P y)) (nI z) a k = a
      · rw [h2]
        simp only [if_true, wA_self]
      · rw [if_neg (by rw [n_inj hnr ha]; exact h2)]
        have hd := hdiv h1 h2
        simp only [h2, if_false]
        rw [r_weights ok hnr hN h12, zb_s]
        dsimp only
        rw [r_weights ok hwh hN h12, zb_s]
        dsimp only
        rw [hc0]
        generalize hn : sSw (mNr (za m (yv P y)) (nI z) a k).testBit (za m (yv P y)) k = n
        generalize hw : sSw (mWh (za m (yv P y)) (nI s) (nI z) k).testBit (za m (yv P y)) k = w at hd
        generalize hnr' : mNr (za m (yv P y)) (nI z) a k = nr at hnr
        unfold f_X11_narrowed_b125
        rw [eL]
        by_cases h3 : c = 4
        · simp only [h3, if_true] at hd ⊢
          simp only [nlit, n_mul, n_add, zl_s, zb_s, zgd_t, zin_v, nat_v, za_wA, wA_wA, zf_wA, zap_eq, zdv, ok.1, hs2, eq_self_iff_true, if_true, n_wo' ha hnr, Nat.reduceLT] at hd ⊢
          by_cases h5 : nI 100 * n < nI 1 * w
          · by_cases h6 : nI 100 ≤ uV (za m (yv P y)) (145 + 21 * s + 8 + z) (za m (yv P y) (145 + 21 * s + 8 + z) + nI 10000 * n / (nI 1 * w)) (145 + 21 * s + 8 + z)
            · simp only [h5, h6, hd, if_true, if_false, nlit, n_mul, n_add, zl_s, zb_s, zgd_t, zin_v, nat_v, za_wA, wA_wA, zf_wA, zap_eq]
            · simp only [h5, h6, hd, if_true, if_false, n_wo' ha hnr]
          · simp only [h5, if_false, wA_self]
        · simp only [h3, if_false] at hd ⊢
          have h4 : ¬ c = nI 4 := h3
          simp only [nlit, n_mul, n_add, zl_s, zb_s, zgd_t, zin_v, nat_v, za_wA, wA_wA, zf_wA, zap_eq, zdv, ok.1, hs2, h4, if_false, n_wo' ha hnr, Nat.reduceLT] at hd ⊢
          by_cases h5 : nI 100 * n < za m (yv P y) 229 * w
          · by_cases h6 : nI 100 ≤ uV (za m (yv P y)) (145 + 21 * s + 8 + z) (za m (yv P y) (145 + 21 * s + 8 + z) + nI 10000 * n / (za m (yv P y) 229 * w)) (145 + 21 * s + 8 + z)
            · simp only [h5, h6, hd, if_true, if_false, nlit, n_mul, n_add, zl_s, zb_s, zgd_t, zin_v, nat_v, za_wA, wA_wA, zf_wA, zap_eq]
            · simp only [h5, h6, hd, if_true, if_false, n_wo' ha hnr]
          · simp only [h5, if_false, wA_self]
  | succ d ih =>
    intro k fu hk hf
    obtain ⟨fu, rfl⟩ : ∃ f, fu = f + 1 := ⟨fu - 1, by omega⟩
    have hkN : k < 12 := by omega
    have hg := ih (k + 1) fu (by omega) (by omega)
    rw [mNr_s, mWh_s] at hg
    have hnr : mNr (za m (yv P y)) (nI z) a k < 2 ^ 31 := lt31 mNr_lt (show k ≤ 12 by omega)
    have hwh : mWh (za m (yv P y)) (nI s) (nI z) k < 2 ^ 31 := lt31 mWh_lt (show k ≤ 12 by omega)
    have hak : a &&& 2 ^ k < 2 ^ 31 := Nat.lt_of_le_of_lt Nat.and_le_left ha
    unfold f_X11_narrowed_b9 f_X11_narrowed_b67 f_X11_narrowed_b70
    rw [zl_s, ok.1, zin144, z144, zgd_t, hN, if_neg (by rw [n_le (by omega) (by omega)]; omega), show (1 : Int32) = nI 1 from rfl, r_of ok hkN (by omega), zb_s]
    dsimp only
    by_cases h1 : za m (yv P y) (12 * k + 1) = nI z
    · rw [if_pos h1, zl_s, r_isMember ok hkN, zb_s, show nI 1 <<< (nI k &&& 31) = nI (2 ^ k) from n_shl (by omega), n_and ha (p2lt hkN), n_or hnr hak]
      simp only [h1, if_true] at hg
      dsimp only
      cases hc : sMem (za m (yv P y)) k (nI s) with
      | false =>
        rw [hc] at hg
        rw [if_pos bI_f, zl_s, zl_s, show (0 : Int32) = nI 0 from rfl, n_or hwh (by decide), n_add]
        exact hg
      | true =>
        rw [hc] at hg
        rw [if_neg (by decide), zl_s, zl_s, n_or hwh (p2lt hkN), n_add]
        exact hg
    · rw [if_neg h1, zl_s, n_add]
      simp only [h1, if_false, Nat.or_zero] at hg
      exact hg
theorem r_narrowed (ok : yOK P y) {c : Int32} {N s z a : Nat} (hc0 : zf m 216 y = c) (hs : s < 4) (hz : z < 3) (ha : a < 2 ^ 31) (hN : za m (yv P y) 144 = nI N) (h12 : N ≤ 12)
    (hdiv : mNr (za m (yv P y)) (nI z) a N ≠ 0 → mNr (za m (yv P y)) (nI z) a N ≠ a → sLm c (za m (yv P y)) * sSw (mWh (za m (yv P y)) (nI s) (nI z) N).testBit (za m (yv P y)) N ≠ 0) :
    f_X11_narrowed P y (nI a) (nI s) (nI z) m = some (nI (sNarrow c (za m (yv P y)) N s z a).1, wA m (yv P y) (sNarrow c (za m (yv P y)) N s z a).2) := r_narrowed_l ok hc0 hs hz ha hN h12 hdiv N 0 zfuel (by omega) (by unfold zfuel; omega)
theorem r_tries (ok : yOK P y) {c : Int32} {N b s T : Nat} {z : Int32} (hc0 : zf m 216 y = c) (hb : b < 12) (hs : s < 4) (hN : za m (yv P y) 144 = nI N) (h12 : N ≤ 12) (hT : za m (yv P y) 706 = nI T) (hT4 : T < 4) :
    f_X11_tries P y (nI b) (nI s) z m = some (bI (sGood (za m (yv P y)) b), wA m (yv P y) (sTry c (za m (yv P y)) N b s z T)) := by
  have key : ∀ g : Bool, g = sGood (za m (yv P y)) b → f_X11_tries_b27 P y (nI b) (nI s) z (bI g) m = some (bI (sGood (za m (yv P y)) b), wA m (yv P y) (sTry c (za m (yv P y)) N b s z T)) := by
    intro g hg
    unfold f_X11_tries_b27 f_X11_tries_b64 f_X11_tries_b90 sTry
    have e1 : sTry1 (za m (yv P y)) b 144 = nI N := by rw [sTry1_keep (by omega), hN]
    have e2 : sTry1 (za m (yv P y)) b 706 = nI T := by rw [sTry1_keep (by omega), hT]
    cases g with
    | true =>
      rw [← hg]
      have ht := r_trace (m := wA m (yv P y) (sTry1 (za m (yv P y)) b)) ok (z := z) (g := true) (s := z) hb (by rw [za_wA]; exact e2) hT4
      rw [za_wA, wA_wA] at ht
      simp only [if_true]
      rw [← ht]
      unfold sTry1
      rw [← hg]
      simp only [nlit, n_mul, n_add, zl_s, zb_s, zgd_t, zin_v, nat_v, za_wA, wA_wA, zf_wA, zap_eq, ok.1, bIt0, bIf0, bIt1, bIf1, if_true, if_false, reduceIte, Nat.reduceLT, r_of ok hb, r_sets ok hb, bI_tn, n10]
    | false =>
      rw [← hg]
      have hj := r_ejects (m := wA m (yv P y) (sTry1 (za m (yv P y)) b)) ok (c := c) (N := N) (s := s) hc0 hb hs (by rw [za_wA]; exact e1) h12
      rw [za_wA, wA_wA] at hj
      have ht := r_trace (m := wA m (yv P y) (sEject c (sTry1 (za m (yv P y)) b) N b s)) ok (z := z) (g := false) (s := z) hb (by rw [za_wA, sEject_keep (by omega)]; exact e2) hT4
      rw [za_wA, wA_wA] at ht
      simp only [Bool.false_eq_true, if_false]
      rw [← ht]
      unfold sTry1 at hj ⊢
      rw [← hg] at hj ⊢
      simp only [nlit, n_mul, n_add, zl_s, zb_s, zgd_t, zin_v, nat_v, za_wA, wA_wA, zf_wA, zap_eq, ok.1, bIt0, bIf0, bIt1, bIf1, if_true, if_false, reduceIte, Nat.reduceLT, r_of ok hb, r_sets ok hb, bI_fn, Bool.false_eq_true] at hj ⊢
      rw [hj, zb_s]
  unfold f_X11_tries
  rw [show (3 : Int32) = nI 3 from rfl, r_of ok hb (by omega), zb_s]
  dsimp only
  rw [show (5 : Int32) = nI 5 from rfl, r_of ok hb (by omega), zb_s]
  dsimp only
  rw [zdv, if_neg (by decide)]
  by_cases h : sBit (za m (yv P y) (12 * b + 3)) (za m (yv P y) (12 * b + 5)) = 1
  · have h' := h
    unfold sBit at h'
    rw [if_pos h']
    exact key true (decide_eq_true h).symm
  · have h' := h
    unfold sBit at h'
    rw [if_neg h']
    exact key false (decide_eq_false h).symm
end RD

/-! ===== what a read rule is like ===== -/
def pL (W : Nat → Int32) : Nat → Nat
  | 0 => 0
  | t + 1 => pL W t + if W (44 + 4 * t + 1) = 1 then 2 else 4
def pLn (W : Nat → Int32) : Nat := (W 0).toNatClampNeg + (if W 41 = 0 ∧ W 42 = 9 then 0 else 5) + pL W (W 43).toNatClampNeg + (if W 57 < 0 then 0 else 2) + if W 56 = 1 then 0 else 2
def PJ (tn o : Nat) (W : Nat → Int32) (n : Nat) : Prop := o ≤ tn ∧ (∃ l, l ≤ 40 ∧ W 0 = nI l) ∧ (∃ lo, lo ≤ 9 ∧ W 41 = nI lo) ∧ (∃ hi, hi ≤ 9 ∧ W 42 = nI hi) ∧ (∀ k, k < 40 → ∃ ch, ch < 128 ∧ W (1 + k) = nI ch) ∧ (∃ mo, 1 ≤ mo ∧ mo ≤ 4 ∧ W 56 = nI mo) ∧ (W 57 = -1 ∨ ∃ s, s < 4 ∧ W 57 = nI s) ∧ n ≤ 3 ∧ W 43 = nI n ∧ ∀ t, t < n → (∃ s, s < 4 ∧ W (44 + 4 * t) = nI s) ∧ ∃ w, 1 ≤ w ∧ w ≤ 9 ∧ W (44 + 4 * t + 1) = nI w
theorem pL_to {W W' : Nat → Int32} : ∀ n, (∀ t, t < n → W' (44 + 4 * t + 1) = W (44 + 4 * t + 1)) → pL W' n = pL W n := by
  intro n
  induction n with
  | zero => intro _; rfl
  | succ n ih =>
    intro h
    unfold pL
    rw [ih (fun t ht => h t (by omega)), h n (by omega)]
theorem pD_num {H : Nat → Int32} {lo hi o : Nat} (hh : hi < 100) (h : pD H (nI lo) (nI hi) o = true) (hl : lo < 100) : ∃ d, lo ≤ d ∧ d ≤ hi ∧ H o - 48 = nI d := by
  unfold pD at h
  rw [decide_eq_true_eq] at h
  obtain ⟨h1, h2⟩ := h
  have h0 : (0 : Int32) ≤ H o - 48 := Int32.le_trans (nI_pos' (show lo < 2 ^ 31 by omega)) h1
  have h3 : H o - 48 < nI (hi + 1) := Int32.lt_of_le_of_lt h2 ((n_lt (by omega) (by omega)).mpr (by omega))
  obtain ⟨d, d1, d2⟩ := i_lt_of h0 h3 (by omega)
  rw [d2] at h1 h2
  rw [n_le (by omega) (by omega)] at h1 h2
  exact ⟨d, h1, h2, d2⟩
section PF
variable {tn o n : Nat} {T W : Nat → Int32}
theorem pL_le {W : Nat → Int32} (k : Nat) : pL W k ≤ 4 * k := by
  induction k with
  | zero => exact Nat.le_refl _
  | succ k ih =>
    unfold pL
    split <;> omega
theorem J_range (h : PJ tn o W n) (hl : pLn W ≤ o) (hg : (pRange (pH tn T) o W).1 = true) : PJ tn (pRange (pH tn T) o W).2.1 (pRange (pH tn T) o W).2.2 n ∧ pLn (pRange (pH tn T) o W).2.2 ≤ (pRange (pH tn T) o W).2.1 := by
  unfold pRange at hg ⊢
  split at hg
  · rename_i h91
    split at hg
    · rename_i h1
      split at hg
      · rename_i h45
        split at hg
        · rename_i h3
          split at hg
          · rename_i h93
            have hlt := pH_in h93 (by decide)
            rw [if_pos h91, if_pos h1, if_pos h45, if_pos h3, if_pos h93]
            obtain ⟨d1, x1, x2, x3⟩ := pD_num (lo := 0) (hi := 9) (by omega) h1 (by omega)
            rw [x3] at h3
            obtain ⟨d2, y1, y2, y3⟩ := pD_num (lo := d1) (hi := 9) (by omega) h3 (by omega)
            obtain ⟨j1, j2, j3, j4, j5, j6, j7, j8, j9, j10⟩ := h
            dsimp only
            have kk : ∀ j, j ≠ 41 → j ≠ 42 → uV (uV W 41 (pH tn T (o + 1) - 48)) 42 (pH tn T (o + 3) - 48) j = W j := fun j a b => by rw [uV_n b, uV_n a]
            refine ⟨⟨by omega, by rw [kk _ (by omega) (by omega)]; exact j2, ⟨d1, x2, by rw [uV_n (by omega), uV_s, x3]⟩, ⟨d2, y2, by rw [uV_s, y3]⟩, fun k hk => by rw [kk _ (by omega) (by omega)]; exact j5 k hk, by rw [kk _ (by omega) (by omega)]; exact j6, by rw [kk _ (by omega) (by omega)]; exact j7, j8, by rw [kk _ (by omega) (by omega)]; exact j9, fun t ht => by rw [kk _ (by omega) (by omega), kk _ (by omega) (by omega)]; exact j10 t ht⟩, ?_⟩
            unfold pLn at hl ⊢
            rw [kk 0 (by omega) (by omega), kk 43 (by omega) (by omega), kk 57 (by omega) (by omega), kk 56 (by omega) (by omega), pL_to (W := W) _ (fun t _ => kk _ (by omega) (by omega))]
            have e1 : (if uV (uV W 41 (pH tn T (o + 1) - 48)) 42 (pH tn T (o + 3) - 48) 41 = 0 ∧ uV (uV W 41 (pH tn T (o + 1) - 48)) 42 (pH tn T (o + 3) - 48) 42 = 9 then 0 else 5) ≤ 5 := by
              split <;> omega
            omega
          · cases hg
        · cases hg
      · cases hg
    · cases hg
  · rename_i h91
    rw [if_neg h91]
    exact ⟨h, hl⟩
theorem J_eq (h : PJ tn o W n) (hl : pLn W ≤ o) (hg : (pEq (pH tn T) o W).1 = true) : PJ tn (pEq (pH tn T) o W).2.1 (pEq (pH tn T) o W).2.2 n ∧ pLn (pEq (pH tn T) o W).2.2 + 1 ≤ (pEq (pH tn T) o W).2.1 := by
  unfold pEq at hg ⊢
  split at hg
  · rename_i h1
    have hlt := pH_in h1 (by decide)
    rw [if_pos h1]
    exact ⟨⟨hlt, h.2⟩, Nat.succ_le_succ hl⟩
  · cases hg
theorem J_put (h : PJ tn o W n) (hn3 : n < 3) {s w o' : Nat} (hs : s < 4) (hw : 1 ≤ w ∧ w ≤ 9) (ho : o' ≤ tn) : PJ tn o' (pPut W n (nI s) (nI w)) (n + 1) ∧ pLn (pPut W n (nI s) (nI w)) = pLn W + if w = 1 then 2 else 4 := by
  obtain ⟨j1, j2, j3, j4, j5, j6, j7, j8, j9, j10⟩ := h
  have kk : ∀ j, j ≠ 44 + 4 * n → j ≠ 44 + 4 * n + 1 → j ≠ 43 → pPut W n (nI s) (nI w) j = W j := fun j a b c => by
    unfold pPut
    rw [uV_n c, uV_n b, uV_n a]
  have e1 : pPut W n (nI s) (nI w) (44 + 4 * n) = nI s := by
    unfold pPut
    rw [uV_n (by omega), uV_n (by omega), uV_s]
  have e2 : pPut W n (nI s) (nI w) (44 + 4 * n + 1) = nI w := by
    unfold pPut
    rw [uV_n (by omega), uV_s]
  have e3 : pPut W n (nI s) (nI w) 43 = nI (n + 1) := uV_s
  refine ⟨⟨ho, by rw [kk _ (by omega) (by omega) (by omega)]; exact j2, by rw [kk _ (by omega) (by omega) (by omega)]; exact j3, by rw [kk _ (by omega) (by omega) (by omega)]; exact j4, fun k hk => by rw [kk _ (by omega) (by omega) (by omega)]; exact j5 k hk, by rw [kk _ (by omega) (by omega) (by omega)]; exact j6, by rw [kk _ (by omega) (by omega) (by omega)]; exact j7, by omega, e3, fun t ht => ?_⟩, ?_⟩
  · by_cases e : t = n
    · subst e
      rw [e1, e2]
      exact ⟨⟨s, hs, rfl⟩, w, hw.1, hw.2, rfl⟩
    · rw [kk _ (by omega) (by omega) (by omega), kk _ (by omega) (by omega) (by omega)]
      exact j10 t (by omega)
  · unfold pLn
    rw [kk 0 (by omega) (by omega) (by omega), kk 41 (by omega) (by omega) (by omega), kk 42 (by omega) (by omega) (by omega), kk 57 (by omega) (by omega) (by omega), kk 56 (by omega) (by omega) (by omega), e3, n_nat (by omega), j9, n_nat (by omega), pL, pL_to (W := W) _ (fun t _ => kk _ (by omega) (by omega) (by omega)), e2]
    by_cases hw1 : w = 1
    · subst hw1
      rw [if_pos (show nI 1 = 1 from rfl), if_pos rfl]
      omega
    · rw [if_neg (show ¬ nI w = 1 by rw [show (1 : Int32) = nI 1 from rfl, n_inj (by omega) (by omega)]; exact hw1), if_neg hw1]
      omega
theorem J_tgt (h : PJ tn o W n) (hn3 : n < 3) (hl : pLn W + 1 ≤ o) (hg : (pTgt (pH tn T) o W n).1 = true) : PJ tn (pTgt (pH tn T) o W n).2.1 (pTgt (pH tn T) o W n).2.2 (n + 1) ∧ pLn (pTgt (pH tn T) o W n).2.2 ≤ (pTgt (pH tn T) o W n).2.1 := by
  unfold pTgt at hg ⊢
  split at hg
  · rename_i h1
    have hlt := pD_in (by decide) h1.1
    obtain ⟨s, s1, s2, s3⟩ := pD_num (lo := 0) (hi := 3) (by omega) h1.1 (by omega)
    rw [if_pos h1]
    split at hg
    · rename_i h58
      rw [if_pos h58]
      split at hg
      · rename_i h2
        have hlt2 := pD_in (by decide) h2
        obtain ⟨w, w1, w2, w3⟩ := pD_num (lo := 1) (hi := 9) (by omega) h2 (by omega)
        rw [if_pos h2, s3, w3]
        obtain ⟨q1, q2⟩ := J_put h hn3 (s := s) (w := w) (o' := o + 3) (by omega) ⟨w1, w2⟩ hlt2
        refine ⟨q1, ?_⟩
        show pLn (pPut W n (nI s) (nI w)) ≤ o + 3
        rw [q2]
        split <;> omega
      · cases hg
    · rename_i h58
      rw [if_neg h58, s3]
      obtain ⟨q1, q2⟩ := J_put h hn3 (s := s) (w := 1) (o' := o + 1) (by omega) (by omega) hlt
      refine ⟨q1, ?_⟩
      show pLn (pPut W n (nI s) (nI 1)) ≤ o + 1
      rw [q2, if_pos rfl]
      omega
  · cases hg
theorem J_tgs : ∀ d n o (W : Nat → Int32), n + d + 1 = 3 → PJ tn o W n → pLn W + 1 ≤ o → (pTgs (pH tn T) (d + 1) o W n).1 = true → ∃ n', 1 ≤ n' ∧ PJ tn (pTgs (pH tn T) (d + 1) o W n).2.1 (pTgs (pH tn T) (d + 1) o W n).2.2 n' ∧ pLn (pTgs (pH tn T) (d + 1) o W n).2.2 ≤ (pTgs (pH tn T) (d + 1) o W n).2.1 := by
  intro d
  induction d with
  | zero =>
    intro n o W hnd h hl hg
    have hj := J_tgt (T := T) h (by omega) hl
    unfold pTgs at hg ⊢
    generalize pTgt (pH tn T) o W n = x at *
    obtain ⟨g, o', W'⟩ := x
    cases g with
    | false => cases hg
    | true =>
      rw [pB_t, if_neg (show ¬ (pH tn T o' = 44 ∧ 0 < 0) from fun q => Nat.lt_irrefl 0 q.2)] at hg ⊢
      exact ⟨n + 1, by omega, hj rfl⟩
  | succ d ih =>
    intro n o W hnd h hl hg
    have hj := J_tgt (T := T) h (by omega) hl
    rw [pTgs] at hg ⊢
    generalize pTgt (pH tn T) o W n = x at *
    obtain ⟨g, o', W'⟩ := x
    cases g with
    | false => cases hg
    | true =>
      obtain ⟨j1, j2⟩ := hj rfl
      dsimp only at j1 j2
      rw [pB_t] at hg ⊢
      by_cases h44 : pH tn T o' = 44
      · have hlt := pH_in h44 (by decide)
        rw [if_pos ⟨h44, by omega⟩] at hg ⊢
        exact ih (n + 1) (o' + 1) W' (by omega) ⟨hlt, j1.2⟩ (by omega) hg
      · rw [if_neg (fun q => h44 q.1)] at hg ⊢
        exact ⟨n + 1, by omega, j1, j2⟩
theorem J_sh (h : PJ tn o W n) (hl : pLn W ≤ o) (hg : (pOne (pH tn T) 126 0 3 57 o W).1 = true) : PJ tn (pOne (pH tn T) 126 0 3 57 o W).2.1 (pOne (pH tn T) 126 0 3 57 o W).2.2 n ∧ pLn (pOne (pH tn T) 126 0 3 57 o W).2.2 ≤ (pOne (pH tn T) 126 0 3 57 o W).2.1 := by
  unfold pOne at hg ⊢
  split at hg
  · rename_i h1
    split at hg
    · rename_i h2
      have hlt := pD_in (by decide) h2
      obtain ⟨s, s1, s2, s3⟩ := pD_num (lo := 0) (hi := 3) (by omega) h2 (by omega)
      rw [if_pos h1, if_pos h2]
      obtain ⟨j1, j2, j3, j4, j5, j6, j7, j8, j9, j10⟩ := h
      dsimp only
      have kk : ∀ j, j ≠ 57 → uV W 57 (pH tn T (o + 1) - 48) j = W j := fun j a => uV_n a
      refine ⟨⟨by omega, by rw [kk _ (by omega)]; exact j2, by rw [kk _ (by omega)]; exact j3, by rw [kk _ (by omega)]; exact j4, fun k hk => by rw [kk _ (by omega)]; exact j5 k hk, by rw [kk _ (by omega)]; exact j6, Or.inr ⟨s, by omega, by rw [uV_s, s3]⟩, j8, by rw [kk _ (by omega)]; exact j9, fun t ht => by rw [kk _ (by omega), kk _ (by omega)]; exact j10 t ht⟩, ?_⟩
      unfold pLn at hl ⊢
      rw [kk 0 (by omega), kk 41 (by omega), kk 42 (by omega), kk 43 (by omega), kk 56 (by omega), pL_to (W := W) _ (fun t ht => kk _ (by
        rw [j9, n_nat (by omega)] at ht
        omega))]
      have e1 : (if uV W 57 (pH tn T (o + 1) - 48) 57 < 0 then 0 else 2) ≤ 2 := by
        split <;> omega
      omega
    · cases hg
  · rename_i h1
    rw [if_neg h1]
    exact ⟨h, hl⟩
theorem J_mo (h : PJ tn o W n) (hl : pLn W ≤ o) (hg : (pOne (pH tn T) 42 1 4 56 o W).1 = true) : PJ tn (pOne (pH tn T) 42 1 4 56 o W).2.1 (pOne (pH tn T) 42 1 4 56 o W).2.2 n ∧ pLn (pOne (pH tn T) 42 1 4 56 o W).2.2 ≤ (pOne (pH tn T) 42 1 4 56 o W).2.1 := by
  unfold pOne at hg ⊢
  split at hg
  · rename_i h1
    split at hg
    · rename_i h2
      have hlt := pD_in (by decide) h2
      obtain ⟨s, s1, s2, s3⟩ := pD_num (lo := 1) (hi := 4) (by omega) h2 (by omega)
      rw [if_pos h1, if_pos h2]
      obtain ⟨j1, j2, j3, j4, j5, j6, j7, j8, j9, j10⟩ := h
      dsimp only
      have kk : ∀ j, j ≠ 56 → uV W 56 (pH tn T (o + 1) - 48) j = W j := fun j a => uV_n a
      refine ⟨⟨by omega, by rw [kk _ (by omega)]; exact j2, by rw [kk _ (by omega)]; exact j3, by rw [kk _ (by omega)]; exact j4, fun k hk => by rw [kk _ (by omega)]; exact j5 k hk, ⟨s, s1, s2, by rw [uV_s, s3]⟩, by rw [kk _ (by omega)]; exact j7, j8, by rw [kk _ (by omega)]; exact j9, fun t ht => by rw [kk _ (by omega), kk _ (by omega)]; exact j10 t ht⟩, ?_⟩
      unfold pLn at hl ⊢
      rw [kk 0 (by omega), kk 41 (by omega), kk 42 (by omega), kk 43 (by omega), kk 57 (by omega), pL_to (W := W) _ (fun t ht => kk _ (by
        rw [j9, n_nat (by omega)] at ht
        omega))]
      have e1 : (if uV W 56 (pH tn T (o + 1) - 48) 56 = 1 then 0 else 2) ≤ 2 := by
        split <;> omega
      omega
    · cases hg
  · rename_i h1
    rw [if_neg h1]
    exact ⟨h, hl⟩
theorem J_pre (htn : tn ≤ 40) (hT : ∀ k, k < tn → ∃ c, c < 128 ∧ T k = nI c) : ∀ d o (W : Nat → Int32), o + d = 40 → PJ tn o W 0 → W 0 = nI o → PJ tn (pPre tn T d o W).1 (pPre tn T d o W).2 0 ∧ (pPre tn T d o W).2 0 = nI (pPre tn T d o W).1 ∧ ∀ j, 40 < j → (pPre tn T d o W).2 j = W j := by
  intro d
  induction d with
  | zero => intro o W _ h h0; exact ⟨h, h0, fun _ _ => rfl⟩
  | succ d ih =>
    intro o W hod h h0
    unfold pPre
    split
    · rename_i h1
      obtain ⟨c, c1, c2⟩ := hT o h1.1
      obtain ⟨j1, j2, j3, j4, j5, j6, j7, j8, j9, j10⟩ := h
      have kk : ∀ j, j ≠ 1 + o → j ≠ 0 → uV (uV W (1 + o) (T o)) 0 (nI (o + 1)) j = W j := fun j a b => by rw [uV_n b, uV_n a]
      obtain ⟨q1, q2, q3⟩ := ih (o + 1) (uV (uV W (1 + o) (T o)) 0 (nI (o + 1))) (by omega) ⟨by omega, ⟨o + 1, by omega, uV_s⟩, by rw [kk _ (by omega) (by omega)]; exact j3, by rw [kk _ (by omega) (by omega)]; exact j4, fun k hk => by
        by_cases e : k = o
        · subst e
          rw [uV_n (by omega), uV_s]
          exact ⟨c, c1, c2⟩
        · rw [kk _ (by omega) (by omega)]
          exact j5 k hk, by rw [kk _ (by omega) (by omega)]; exact j6, by rw [kk _ (by omega) (by omega)]; exact j7, by omega, by rw [kk _ (by omega) (by omega)]; exact j9, by intro t ht; omega⟩ uV_s
      exact ⟨q1, q2, fun j hj => by rw [q3 j hj, kk _ (by omega) (by omega)]⟩
    · exact ⟨h, h0, fun _ _ => rfl⟩
theorem pB_fin {x : zW0} {k : Nat → (Nat → Int32) → zW0} (h : (pB x k).1 = true) : x.1 = true ∧ pB x k = k x.2.1 x.2.2 := by
  unfold pB at h ⊢
  by_cases hx : x.1 = true
  · rw [if_pos hx]
    exact ⟨hx, rfl⟩
  · rw [if_neg hx] at h
    exact absurd h hx
theorem pW0_at {A : Nat → Int32} {j : Nat} (h : j < 58) : pW0 A j = if j = 42 then 9 else if j = 56 then 1 else if j = 57 then -1 else 0 := by
  unfold pW0
  by_cases h42 : j = 42
  · subst h42
    rw [if_pos rfl, uV_n (by omega), uV_n (by omega), uV_s]
  · by_cases h56 : j = 56
    · subst h56
      rw [if_neg h42, if_pos rfl, uV_n (by omega), uV_s]
    · by_cases h57 : j = 57
      · subst h57
        rw [if_neg h42, if_neg h56, if_pos rfl, uV_s]
      · rw [if_neg h42, if_neg h56, if_neg h57, uV_n h57, uV_n h56, uV_n h42, pZero_at, if_pos h]
theorem J_zero {A : Nat → Int32} : PJ tn 0 (pW0 A) 0 ∧ pW0 A 0 = nI 0 := by
  have e : ∀ j, j < 58 → j ≠ 42 → j ≠ 56 → j ≠ 57 → pW0 A j = 0 := fun j h h1 h2 h3 => by rw [pW0_at h, if_neg h1, if_neg h2, if_neg h3]
  exact ⟨⟨by omega, ⟨0, by omega, e 0 (by omega) (by omega) (by omega) (by omega)⟩, ⟨0, by omega, e 41 (by omega) (by omega) (by omega) (by omega)⟩, ⟨9, by omega, by rw [pW0_at (by omega)]; rfl⟩, fun k hk => ⟨0, by omega, e _ (by omega) (by omega) (by omega) (by omega)⟩, ⟨1, by omega, by omega, by rw [pW0_at (by omega)]; rfl⟩, Or.inl (by rw [pW0_at (by omega)]; rfl), by omega, e 43 (by omega) (by omega) (by omega) (by omega), by intro t ht; omega⟩, e 0 (by omega) (by omega) (by omega) (by omega)⟩
/-- a rule well read -/
theorem J_read (htn : tn ≤ 40) (hT : ∀ k, k < tn → ∃ c, c < 128 ∧ T k = nI c) {A : Nat → Int32} (hg : (pRead tn T A).1 = true) : ∃ n, 1 ≤ n ∧ PJ tn tn (pRead tn T A).2.2 n ∧ pLn (pRead tn T A).2.2 ≤ 40 := by
  unfold pRead at hg ⊢
  split at hg
  · rename_i h47
    rw [if_pos h47]
    obtain ⟨z1, z2⟩ := J_zero (tn := tn) (A := A)
    obtain ⟨q1, q2, q3⟩ := J_pre htn hT 40 0 (pW0 A) (by omega) z1 z2
    have q4 : pLn (pPre tn T 40 0 (pW0 A)).2 ≤ (pPre tn T 40 0 (pW0 A)).1 := by
      have hle := q1.1
      unfold pLn
      rw [q2, n_nat (by omega), q3 41 (by omega), q3 42 (by omega), q3 43 (by omega), q3 56 (by omega), q3 57 (by omega), pW0_at (j := 41) (by omega), pW0_at (j := 42) (by omega), pW0_at (j := 43) (by omega), pW0_at (j := 56) (by omega), pW0_at (j := 57) (by omega)]
      have e : (if (42 : Nat) = 42 then (9 : Int32) else if (42 : Nat) = 56 then 1 else if (42 : Nat) = 57 then -1 else 0) = 9 := rfl
      simp only [Nat.reduceEqDiff, if_true, if_false, reduceIte, and_self, show (0 : Int32).toNatClampNeg = 0 by decide, show (-1 : Int32) < 0 by decide, pL]
      omega
    generalize pPre tn T 40 0 (pW0 A) = x at *
    unfold pTail at hg ⊢
    obtain ⟨g1, e1⟩ := pB_fin hg
    obtain ⟨a1, a2⟩ := J_range q1 q4 g1
    rw [e1] at hg ⊢
    generalize pRange (pH tn T) x.1 x.2 = x1 at *
    obtain ⟨g2, e2⟩ := pB_fin hg
    obtain ⟨b1, b2⟩ := J_eq a1 a2 g2
    rw [e2] at hg ⊢
    generalize pEq (pH tn T) x1.2.1 x1.2.2 = x2 at *
    obtain ⟨g3, e3⟩ := pB_fin hg
    obtain ⟨n, n1, c1, c2⟩ := J_tgs 2 0 _ _ (by omega) b1 b2 g3
    rw [e3] at hg ⊢
    generalize pTgs (pH tn T) 3 x2.2.1 x2.2.2 0 = x3 at *
    obtain ⟨g4, e4⟩ := pB_fin hg
    obtain ⟨d1, d2⟩ := J_sh c1 c2 g4
    rw [e4] at hg ⊢
    generalize pOne (pH tn T) 126 0 3 57 x3.2.1 x3.2.2 = x4 at *
    obtain ⟨g5, e5⟩ := pB_fin hg
    obtain ⟨f1, f2⟩ := J_mo d1 d2 g5
    rw [e5] at hg ⊢
    generalize pOne (pH tn T) 42 1 4 56 x4.2.1 x4.2.2 = x5 at *
    unfold pEnd at hg ⊢
    have hend := of_decide_eq_true hg
    refine ⟨n, n1, ⟨Nat.le_refl _, f1.2⟩, ?_⟩
    dsimp only
    have := f1.1
    omega
  · cases hg
end PF

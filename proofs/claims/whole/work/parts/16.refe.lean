theorem ex_bit {a N : Nat} (ha : a < 2 ^ N) (h : a ≠ 0) : ∃ i, i < N ∧ a.testBit i = true := by
  refine Classical.byContradiction (fun hn => h ?_)
  apply Nat.eq_of_testBit_eq
  intro i
  rw [Nat.zero_testBit]
  by_cases hi : i < N
  · cases hb : a.testBit i with
    | false => rfl
    | true => exact absurd ⟨i, hi, hb⟩ hn
  · exact Nat.testBit_lt_two_pow (Nat.lt_of_lt_of_le ha (Nat.pow_le_pow_right (by decide) (by omega)))
theorem bit_lt {a N i : Nat} (ha : a < 2 ^ N) (h : a.testBit i = true) : i < N := by
  refine Classical.byContradiction (fun hn => ?_)
  rw [Nat.testBit_lt_two_pow (Nat.lt_of_lt_of_le ha (Nat.pow_le_pow_right (by decide) (by omega)))] at h
  cases h
theorem mWo_lt {a b N : Nat} (ha : a < 2 ^ N) : mWo a b < 2 ^ N := Nat.lt_of_le_of_lt Nat.and_le_left ha
def sByW (V : Nat → Int32) (N a : Nat) : Nat × (Nat → Int32) := ((sCw bCi bWi a.testBit V N).1.getD 0, (sCwE bCi bWi a.testBit V N).2)
def sPol (c : Int32) (V : Nat → Int32) (s : Nat) : Int32 := if c = 3 then 0 else V (145 + 21 * s)
/-- a pick -/
def sPick (c : Int32) (V : Nat → Int32) (N s h z a : Nat) : Nat × (Nat → Int32) :=
  let q := sNarrow c V N s z a
  let pol := sPol c q.2 s
  if 2 ≤ pol then
    if 0 ≤ q.2 (145 + 21 * s + 11 + h) ∧ q.1.testBit (q.2 (145 + 21 * s + 11 + h)).toNatClampNeg = true then ((q.2 (145 + 21 * s + 11 + h)).toNatClampNeg, q.2)
    else
      let w := sByW q.2 N q.1
      (w.1, uV w.2 (145 + 21 * s + 11 + h) (nI w.1))
  else if pol = 0 then sByW q.2 N q.1
  else ((sLu q.1.testBit q.2 N).getD 0, q.2)
/-- what stays while requests are answered -/
def StV (V : Nat → Int32) (N : Nat) : Prop := V 144 = nI N ∧ N ≤ 12 ∧ (∃ zl, 1 ≤ zl ∧ zl ≤ 100 ∧ V 229 = nI zl) ∧ (∀ i, i < N → ∃ w, w ≤ 9 ∧ V (12 * i + 2) = nI w) ∧ ∀ s h, s < 4 → h < 10 → ∃ o : Option Nat, V (145 + 21 * s + 11 + h) = oI o ∧ ∀ b, o = some b → b < 12
theorem StV.to {V V' : Nat → Int32} {N : Nat} (h : StV V N) (h1 : V' 144 = V 144) (h2 : V' 229 = V 229) (h3 : ∀ i, i < N → V' (12 * i + 2) = V (12 * i + 2)) (h4 : ∀ s h, s < 4 → h < 10 → V' (145 + 21 * s + 11 + h) = V (145 + 21 * s + 11 + h) ∨ ∃ b, b < 12 ∧ V' (145 + 21 * s + 11 + h) = nI b) : StV V' N := by
  obtain ⟨a1, a2, a3, a4, a5⟩ := h
  refine ⟨by rw [h1, a1], a2, by rw [h2]; exact a3, fun i hi => by rw [h3 i hi]; exact a4 i hi, fun s h hs hh => ?_⟩
  rcases h4 s h hs hh with e | ⟨b, hb, e⟩
  · rw [e]
    exact a5 s h hs hh
  · exact ⟨some b, e, fun b' hb' => by cases hb'; exact hb⟩
theorem sSw_n {p : Nat → Bool} {V : Nat → Int32} {n : Nat} (h : ∀ i, i < n → ∃ w, w ≤ 9 ∧ V (12 * i + 2) = nI w) : ∃ W, W ≤ 9 * n ∧ sSw p V n = nI W ∧ ∀ i w, i < n → p i = true → w ≤ 9 → V (12 * i + 2) = nI w → w ≤ W := by
  induction n with
  | zero => exact ⟨0, Nat.le_refl _, rfl, fun i w hi => by omega⟩
  | succ k ih =>
    obtain ⟨W, h1, h2, h3⟩ := ih (fun i hi => h i (by omega))
    obtain ⟨w0, hw0, hv0⟩ := h k (by omega)
    rw [sSw_s, h2]
    by_cases hp : p k = true
    · rw [if_pos hp, hv0, n_add]
      refine ⟨W + w0, by omega, rfl, fun i w hi hpi hw hv => ?_⟩
      by_cases e : i = k
      · subst e
        have : w = w0 := (n_inj (by omega) (by omega)).mp (hv.symm.trans hv0)
        omega
      · have := h3 i w (by omega) hpi hw hv
        omega
    · rw [if_neg hp, show (0 : Int32) = nI 0 from rfl, n_add]
      refine ⟨W + 0, by omega, rfl, fun i w hi hpi hw hv => ?_⟩
      by_cases e : i = k
      · subst e
        exact absurd hpi hp
      · have := h3 i w (by omega) hpi hw hv
        omega
/-- the candidates are available members -/
def CandOf (V : Nat → Int32) (N s a : Nat) : Prop := a < 2 ^ N ∧ ∀ i, a.testBit i = true → sMem V i (nI s) = true
theorem mem_pos {V : Nat → Int32} {i : Nat} {s : Int32} (h : sMem V i s = true) : 0 < V (12 * i + 2) := (of_decide_eq_true h).2
theorem narrow_div {c : Int32} {V : Nat → Int32} {N s z a : Nat} (hV : StV V N) (ha : CandOf V N s a) (h1 : mNr V (nI z) a N ≠ 0) : sLm c V * sSw (mWh V (nI s) (nI z) N).testBit V N ≠ 0 := by
  obtain ⟨i, hi, hb⟩ := ex_bit mNr_lt h1
  obtain ⟨-, h12, ⟨zl, hz1, hz2, hz3⟩, hw, -⟩ := hV
  rw [mNr_bit] at hb
  simp only [Bool.and_eq_true, decide_eq_true_eq] at hb
  have hm := ha.2 i hb.2.1
  obtain ⟨w, hw9, hwv⟩ := hw i hi
  obtain ⟨W, hW1, hW2, hW3⟩ := sSw_n (p := (mWh V (nI s) (nI z) N).testBit) hw
  have hp := mem_pos hm
  rw [hwv, show (0 : Int32) = nI 0 from rfl, n_lt (by decide) (by omega)] at hp
  have hle := hW3 i w hi (by rw [mWh_bit]; simp [hi, hm, hb.2.2]) hw9 hwv
  rw [hW2]
  unfold sLm
  have hWb : W ≤ 108 := by omega
  by_cases h4 : c = 4
  · rw [if_pos h4, show (1 : Int32) = nI 1 from rfl, n_mul, show (0 : Int32) = nI 0 from rfl, Ne, n_inj (by omega) (by decide)]
    omega
  · rw [if_neg h4, hz3, n_mul, show (0 : Int32) = nI 0 from rfl]
    have h5 : zl * W ≤ 100 * 108 := Nat.mul_le_mul hz2 hWb
    have h6 : 0 < zl * W := Nat.mul_pos (by omega) (by omega)
    rw [Ne, n_inj (by omega) (by decide)]
    omega
theorem sNarrow_keep {c : Int32} {V : Nat → Int32} {N s z a j : Nat} (h : j ≠ 145 + 21 * s + 8 + z) : (sNarrow c V N s z a).2 j = V j := by
  unfold sNarrow
  dsimp only
  split
  · rfl
  · split
    · rfl
    · split
      · split
        · dsimp only
          rw [uV_n h, uV_n h]
        · dsimp only
          rw [uV_n h]
      · rfl
theorem sNarrow_cand {c : Int32} {V : Nat → Int32} {N s z a : Nat} (ha : a < 2 ^ N) (h0 : a ≠ 0) (h12 : N ≤ 12) : (sNarrow c V N s z a).1 < 2 ^ N ∧ (sNarrow c V N s z a).1 ≠ 0 ∧ ∀ i, (sNarrow c V N s z a).1.testBit i = true → a.testBit i = true := by
  have hsub : ∀ i, (mNr V (nI z) a N).testBit i = true → a.testBit i = true := by
    intro i hi
    rw [mNr_bit] at hi
    simp only [Bool.and_eq_true] at hi
    exact hi.2.1
  unfold sNarrow
  dsimp only
  split
  · exact ⟨ha, h0, fun i h => h⟩
  · rename_i h1
    split
    · exact ⟨ha, h0, fun i h => h⟩
    · rename_i h2
      split
      · split
        · exact ⟨mNr_lt, h1, hsub⟩
        · refine ⟨mWo_lt ha, fun h3 => h2 ?_, fun i hi => ?_⟩
          · apply Nat.eq_of_testBit_eq
            intro i
            have h4 : (mWo a (mNr V (nI z) a N)).testBit i = false := by
              rw [show mWo a (mNr V (nI z) a N) = 0 from h3]
              exact Nat.zero_testBit i
            rw [mWo_bit (lt31 ha h12)] at h4
            cases ha9 : a.testBit i with
            | false =>
              cases hb9 : (mNr V (nI z) a N).testBit i with
              | false => rfl
              | true =>
                rw [hsub i hb9] at ha9
                cases ha9
            | true =>
              rw [ha9] at h4
              simpa using h4
          · rw [mWo_bit (lt31 ha h12)] at hi
            simp only [Bool.and_eq_true] at hi
            exact hi.1
      · exact ⟨mNr_lt, h1, hsub⟩
theorem sCwE_keep {ci wi : Nat → Nat} {cand : Nat → Bool} {V : Nat → Int32} {n j : Nat} (h : ∀ i, i < n → j ≠ ci i) : (sCwE ci wi cand V n).2 j = V j := by
  unfold sCwE
  dsimp only
  cases hq : (sCw ci wi cand V n).1 with
  | none => exact sCw_keep h
  | some b =>
    dsimp only
    rw [uV_n (h b (sCw_lt hq).1)]
    exact sCw_keep h
theorem sPick_lt {c : Int32} {V : Nat → Int32} {N s h z a : Nat} (ha : a < 2 ^ N) (h0 : a ≠ 0) (h12 : N ≤ 12) : (sPick c V N s h z a).1 < N ∧ a.testBit (sPick c V N s h z a).1 = true := by
  obtain ⟨q1, q2, q3⟩ := sNarrow_cand (c := c) (V := V) (s := s) (z := z) ha h0 h12
  obtain ⟨i, hi, hb⟩ := ex_bit q1 q2
  have key : ∀ b, (sNarrow c V N s z a).1.testBit b = true → b < N ∧ a.testBit b = true := fun b hb => ⟨bit_lt q1 hb, q3 b hb⟩
  have hw : (sNarrow c V N s z a).1.testBit (sByW (sNarrow c V N s z a).2 N (sNarrow c V N s z a).1).1 = true := by
    unfold sByW
    obtain ⟨b, hb2⟩ := sCw_some (ci := bCi) (wi := bWi) (V := (sNarrow c V N s z a).2) hi hb
    rw [hb2]
    exact (sCw_lt hb2).2
  unfold sPick
  dsimp only
  split
  · split
    · rename_i h5
      exact key _ h5.2
    · exact key _ hw
  · split
    · exact key _ hw
    · have hl : ∃ b, sLu (sNarrow c V N s z a).1.testBit (sNarrow c V N s z a).2 N = some b := by
        have : ∀ n, i < n → ∃ b, sLu (sNarrow c V N s z a).1.testBit (sNarrow c V N s z a).2 n = some b := by
          intro n
          induction n with
          | zero => intro h; omega
          | succ k ih =>
            intro hk
            rw [sLu_s]
            by_cases hc : (sNarrow c V N s z a).1.testBit k = true
            · rw [if_pos hc]
              cases hq : sLu (sNarrow c V N s z a).1.testBit (sNarrow c V N s z a).2 k with
              | none => exact ⟨_, rfl⟩
              | some b' =>
                dsimp only
                split
                · exact ⟨_, rfl⟩
                · exact ⟨_, rfl⟩
            · rw [if_neg hc]
              refine ih ?_
              by_cases e : i = k
              · subst e
                exact absurd hb hc
              · omega
        exact this N hi
      obtain ⟨b, hl⟩ := hl
      rw [hl]
      exact key b (sLu_lt hl).2
theorem sPick_keep {c : Int32} {V : Nat → Int32} {N s h z a j : Nat} (h1 : ∀ i, i < N → j ≠ 12 * i + 4) (h2 : j ≠ 145 + 21 * s + 8 + z) (h3 : j ≠ 145 + 21 * s + 11 + h) : (sPick c V N s h z a).2 j = V j := by
  have hq : (sNarrow c V N s z a).2 j = V j := sNarrow_keep h2
  have hw : (sByW (sNarrow c V N s z a).2 N (sNarrow c V N s z a).1).2 j = V j := by
    unfold sByW
    dsimp only
    rw [sCwE_keep (ci := bCi) h1, hq]
  unfold sPick
  dsimp only
  split
  · split
    · exact hq
    · dsimp only
      rw [uV_n h3, hw]
  · split
    · exact hw
    · exact hq
theorem sPick_st {c : Int32} {V : Nat → Int32} {N s h z a : Nat} (hV : StV V N) (hs : s < 4) (hh : h < 10) (hz : z < 3) (ha : a < 2 ^ N) (h0 : a ≠ 0) : StV (sPick c V N s h z a).2 N := by
  have h12 := hV.2.1
  refine hV.to (sPick_keep (by omega) (by omega) (by omega)) (sPick_keep (by omega) (by omega) (by omega)) (fun i hi => sPick_keep (by omega) (by omega) (by omega)) (fun s' h' hs' hh' => ?_)
  by_cases e : 145 + 21 * s' + 11 + h' = 145 + 21 * s + 11 + h
  · rw [e]
    obtain ⟨q1, q2, q3⟩ := sNarrow_cand (c := c) (V := V) (s := s) (z := z) ha h0 h12
    obtain ⟨i, hi, hb⟩ := ex_bit q1 q2
    have hq : (sNarrow c V N s z a).2 (145 + 21 * s + 11 + h) = V (145 + 21 * s + 11 + h) := sNarrow_keep (by omega)
    unfold sPick
    dsimp only
    split
    · split
      · exact Or.inl hq
      · refine Or.inr ⟨_, ?_, uV_s⟩
        unfold sByW
        obtain ⟨b, hb2⟩ := sCw_some (ci := bCi) (wi := bWi) (V := (sNarrow c V N s z a).2) hi hb
        rw [hb2]
        have := (sCw_lt hb2).1
        show b < 12
        omega
    · split
      · refine Or.inl ?_
        unfold sByW
        rw [sCwE_keep (by intro i hi; unfold bCi; omega), hq]
      · exact Or.inl hq
  · exact Or.inl (sPick_keep (by omega) (by omega) e)
section RE
variable {P : zSt} {y : Nat} {m : zM}
theorem r_picks (ok : yOK P y) {c : Int32} {N s h z a : Nat} (hc0 : zf m 216 y = c) (hs : s < 4) (hh : h < 10) (hz : z < 3) (hV : StV (za m (yv P y)) N) (ha : CandOf (za m (yv P y)) N s a) (h0 : a ≠ 0) :
    f_X11_picks P y (nI a) (nI s) (nI h) (nI z) m = some (nI (sPick c (za m (yv P y)) N s h z a).1, wA m (yv P y) (sPick c (za m (yv P y)) N s h z a).2) := by
  have h12 := hV.2.1
  have ha31 := lt31 ha.1 h12
  have hs1 : ∀ j, j < 21 → 145 + 21 * s + j < 723 := by omega
  have hs0 : 145 + 21 * s < 723 := by omega
  have hs2 : 145 + 21 * s + 11 + h < 723 := by omega
  obtain ⟨q1, q2, q3⟩ := sNarrow_cand (c := c) (V := za m (yv P y)) (s := s) (z := z) ha.1 h0 h12
  have q31 := lt31 q1 h12
  obtain ⟨i, hi, hb⟩ := ex_bit q1 q2
  have hst : (sNarrow c (za m (yv P y)) N s z a).2 144 = nI N := by rw [sNarrow_keep (by omega), hV.1]
  obtain ⟨b, hb2⟩ := sCw_some (ci := bCi) (wi := bWi) (V := (sNarrow c (za m (yv P y)) N s z a).2) hi hb
  have hw := r_byWeights (m := wA m (yv P y) (sNarrow c (za m (yv P y)) N s z a).2) ok q31 (by rw [za_wA]; exact hst) h12 (by rw [za_wA]; exact hb2)
  have hl := r_leastUsed (m := wA m (yv P y) (sNarrow c (za m (yv P y)) N s z a).2) ok q31 (by rw [za_wA]; exact hst) h12
  rw [za_wA] at hl
  rw [za_wA, wA_wA] at hw
  obtain ⟨o, ho1, ho2⟩ := hV.2.2.2.2 s h hs hh
  have hold : (sNarrow c (za m (yv P y)) N s z a).2 (145 + 21 * s + 11 + h) = oI o := by rw [sNarrow_keep (by omega), ho1]
  unfold f_X11_picks
  rw [r_narrowed ok hc0 hs hz ha31 hV.1 h12 (fun h1 _ => narrow_div hV ha h1), zb_s]
  dsimp only
  unfold sPick sByW sPol
  have ho : ∀ {o : Option Nat}, o = sLu (sNarrow c (za m (yv P y)) N s z a).1.testBit (sNarrow c (za m (yv P y)) N s z a).2 N → o ≠ none → oI o = nI (o.getD 0) := by
    intro o _ h
    cases o with
    | none => exact absurd rfl h
    | some b => rfl
  have hlne : sLu (sNarrow c (za m (yv P y)) N s z a).1.testBit (sNarrow c (za m (yv P y)) N s z a).2 N ≠ none := by
    have : ∀ n, i < n → sLu (sNarrow c (za m (yv P y)) N s z a).1.testBit (sNarrow c (za m (yv P y)) N s z a).2 n ≠ none := by
      intro n
      induction n with
      | zero => intro h; omega
      | succ k ih =>
        intro hk
        rw [sLu_s]
        by_cases hc : (sNarrow c (za m (yv P y)) N s z a).1.testBit k = true
        · rw [if_pos hc]
          split
          · simp
          · split <;> simp
        · rw [if_neg hc]
          refine ih ?_
          by_cases e : i = k
          · subst e
            exact absurd hb hc
          · omega
    exact this N hi
  generalize sNarrow c (za m (yv P y)) N s z a = q at *
  have b39 : ∀ pol : Int32, f_X11_picks_b39 P y (nI h) (nI q.1) (nI (145 + 21 * s)) pol (wA m (yv P y) q.2) = some (nI (if 2 ≤ pol then
      if 0 ≤ q.2 (145 + 21 * s + 11 + h) ∧ q.1.testBit (q.2 (145 + 21 * s + 11 + h)).toNatClampNeg = true then ((q.2 (145 + 21 * s + 11 + h)).toNatClampNeg, q.2)
      else
        (((sCw bCi bWi q.1.testBit q.2 N).1.getD 0), uV (sCwE bCi bWi q.1.testBit q.2 N).2 (145 + 21 * s + 11 + h) (nI ((sCw bCi bWi q.1.testBit q.2 N).1.getD 0)))
    else if pol = 0 then ((sCw bCi bWi q.1.testBit q.2 N).1.getD 0, (sCwE bCi bWi q.1.testBit q.2 N).2)
    else ((sLu q.1.testBit q.2 N).getD 0, q.2)).1, wA m (yv P y) (if 2 ≤ pol then
      if 0 ≤ q.2 (145 + 21 * s + 11 + h) ∧ q.1.testBit (q.2 (145 + 21 * s + 11 + h)).toNatClampNeg = true then ((q.2 (145 + 21 * s + 11 + h)).toNatClampNeg, q.2)
      else
        (((sCw bCi bWi q.1.testBit q.2 N).1.getD 0), uV (sCwE bCi bWi q.1.testBit q.2 N).2 (145 + 21 * s + 11 + h) (nI ((sCw bCi bWi q.1.testBit q.2 N).1.getD 0)))
    else if pol = 0 then ((sCw bCi bWi q.1.testBit q.2 N).1.getD 0, (sCwE bCi bWi q.1.testBit q.2 N).2)
    else ((sLu q.1.testBit q.2 N).getD 0, q.2)).2) := by
    intro pol
    unfold f_X11_picks_b39 f_X11_picks_b101
    have e1 : ((nI (145 + 21 * s) + (11 : Int32)) + nI h) = nI (145 + 21 * s + 11 + h) := by
      rw [show (11 : Int32) = nI 11 from rfl, n_add, n_add]
    rw [e1, hw, hl, hb2]
    simp only [zl_s, zb_s, ok.1, zin_v hs2, zgd_t, nat_v hs2, za_wA, zap_wA, Option.getD_some]
    by_cases h1 : 2 ≤ pol
    · simp only [h1, if_true]
      rw [hold]
      cases o with
      | none =>
        have e2 : ¬ ((0 : Int32) ≤ oI none) := by decide
        simp only [e2, false_and, if_false, show oI none < (0 : Int32) from by decide, if_true, uV_s]
      | some b' =>
        have hb' := ho2 b' rfl
        rw [show oI (some b') = nI b' from rfl, n_nat (by omega), n_bit q31 (by omega)]
        simp only [nI_pos (show b' < 2 ^ 31 by omega), nI_pos' (show b' < 2 ^ 31 by omega), if_false, true_and]
        cases hbt : q.1.testBit b' with
        | false => simp only [show ¬ bI false = (1 : Int32) from by decide, if_false, Bool.false_eq_true, uV_s]
        | true => simp only [show bI true = (1 : Int32) from rfl, if_true]
    · simp only [h1, if_false]
      by_cases h2 : pol = 0
      · simp only [h2, if_true]
      · simp only [h2, if_false]
        rw [ho rfl hlne]
  have e2 : ((145 : Int32) + ((21 : Int32) * nI s)) = nI (145 + 21 * s) := by
    rw [show (21 : Int32) = nI 21 from rfl, show (145 : Int32) = nI 145 from rfl, n_mul, n_add]
  rw [e2, zl_s, zf_wA, hc0]
  by_cases h3 : c = 3
  · rw [if_pos h3, b39]
    simp only [h3, if_true]
  · rw [if_neg h3, zl_s, ok.1, zin_v hs0, zgd_t, nat_v hs0, za_wA, b39]
    simp only [h3, if_false]
end RE

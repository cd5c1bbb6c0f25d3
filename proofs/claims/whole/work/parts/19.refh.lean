def sTal (w : Int32) : Nat := if w < 0 then (if w = -5 then 5 else 6) else 3
def sTally (w : Int32 × (Nat → Int32)) : Nat → Int32 := uV w.2 (695 + sTal w.1) (w.2 (695 + sTal w.1) + 1)
def sShadow (c : Int32) (V : Nat → Int32) (N r : Nat) : Nat → Int32 := if V (231 + 58 * r + 57) < 0 then V else if c = 0 then V else sMirror V N (V (231 + 58 * r + 57))
def sServeT (c : Int32) (q : Option Nat × (Nat → Int32)) (N h z r : Nat) : Int32 × (Nat → Int32) :=
  match q.1 with
  | none => (-5, q.2)
  | some t => sServe c q.2 N ((q.2 (231 + 58 * r + 44 + 4 * t)).toNatClampNeg) r h z
def sAnsR (c : Int32) (V : Nat → Int32) (N h z r n : Nat) : Int32 × (Nat → Int32) :=
  let w := sServeT c (sChoose V N r n) N h z r
  (w.1, sShadow c (sTally w) N r)
/-- a new request: counted, the trace empty -/
def sNew (V : Nat → Int32) : Nat → Int32 := uV (uV V 706 0) 697 (V 697 + 1)
def sAnswer (c : Int32) (V : Nat → Int32) (N h z : Nat) (ro : Option Nat) : Int32 × (Nat → Int32) :=
  match ro with
  | none => (-4, uV (sNew V) 699 (sNew V 699 + 1))
  | some r => sAnsR c (sNew V) N h z r (V (231 + 58 * r + 43)).toNatClampNeg
theorem sChoose_keep {V : Nat → Int32} {N r n j : Nat} (h : ∀ t, t < n → j ≠ 231 + 58 * r + 44 + 4 * t + 2 ∧ j ≠ 231 + 58 * r + 44 + 4 * t + 3) : (sChoose V N r n).2 j = V j := by
  have h1 : (sCwE (tCi r) (tWi r) (tCand V N r) V n).2 j = V j := sCwE_keep (fun i hi => (h i hi).1)
  unfold sChoose
  dsimp only
  cases hq : (sCwE (tCi r) (tWi r) (tCand V N r) V n).1 with
  | none => exact h1
  | some t =>
    have ht : t < n := by
      unfold sCwE at hq
      dsimp only at hq
      cases hq2 : (sCw (tCi r) (tWi r) (tCand V N r) V n).1 with
      | none => rw [hq2] at hq; cases hq
      | some b =>
        rw [hq2] at hq
        cases hq
        exact (sCw_lt hq2).1
    dsimp only
    rw [uV_n (h t ht).2, h1]
theorem sChoose_some {V : Nat → Int32} {N r n t : Nat} (h : (sChoose V N r n).1 = some t) : t < n ∧ tCand V N r t = true := by
  unfold sChoose at h
  dsimp only at h
  cases hq : (sCwE (tCi r) (tWi r) (tCand V N r) V n).1 with
  | none => rw [hq] at h; cases h
  | some t' =>
    rw [hq] at h
    cases h
    unfold sCwE at hq
    dsimp only at hq
    cases hq2 : (sCw (tCi r) (tWi r) (tCand V N r) V n).1 with
    | none => rw [hq2] at hq; cases hq
    | some b =>
      rw [hq2] at hq
      cases hq
      exact sCw_lt hq2
theorem sLoop_keep {c : Int32} {N s r h z j : Nat} (hs : s < 4) (hh : h < 10) (hz : z < 3) (h1 : 229 ≤ j) (h2 : j < 702) : ∀ k done att V, StV V N → done < 2 ^ N → mWo (mAv V (nI s) N) done ≠ 0 → (sLoop c N s r h z k done att V).2 j = V j := by
  intro k
  induction k with
  | zero => intro done att V _ _ _; rfl
  | succ k ih =>
    intro done att V hV hd hne
    have h12 := hV.2.1
    obtain ⟨hb, hbc⟩ := sPick_lt (c := c) (V := V) (s := s) (h := h) (z := z) (mWo_lt (b := done) (mAv_lt (V := V) (s := nI s) (n := N))) hne h12
    have hst := sPick_st (c := c) hV hs hh hz (mWo_lt (b := done) (mAv_lt (V := V) (s := nI s) (n := N))) hne
    have e1 : (sPick c V N s h z (mWo (mAv V (nI s) N) done)).2 j = V j := sPick_keep (by omega) (by omega) (by omega)
    unfold sLoop
    dsimp only
    generalize sPick c V N s h z (mWo (mAv V (nI s) N) done) = p at *
    have hb12 : p.1 < 12 := by omega
    have e2 : sTry c p.2 N p.1 s (nI z) att j = V j := by rw [sTry_keep (by omega) (by omega) (by omega) (by omega) hb12, e1]
    have hTst : StV (sTry c p.2 N p.1 s (nI z) att) N := sTry_st hst hb12
    generalize sTry c p.2 N p.1 s (nI z) att = V2 at *
    split
    · dsimp only
      rw [uV_n (by omega), e2]
    · split
      · rename_i h5
        unfold sMay at h5
        rw [decide_eq_true_eq] at h5
        rw [ih _ _ _ (uV_st hTst (by omega) (by omega) (by omega) (by omega)) (Nat.or_lt_two_pow hd (Nat.pow_lt_pow_right (by decide) hb)) (by rw [mAv_congr (fun i hi => uV_n (by omega)) N h12]; exact h5.2.2.2), uV_n (by omega), e2]
      · exact e2
theorem sLoop_st {c : Int32} {N s r h z : Nat} (hs : s < 4) (hh : h < 10) (hz : z < 3) : ∀ k done att V, StV V N → done < 2 ^ N → mWo (mAv V (nI s) N) done ≠ 0 → StV (sLoop c N s r h z k done att V).2 N := by
  intro k
  induction k with
  | zero => intro done att V h1 _ _; exact h1
  | succ k ih =>
    intro done att V hV hd hne
    have h12 := hV.2.1
    obtain ⟨hb, hbc⟩ := sPick_lt (c := c) (V := V) (s := s) (h := h) (z := z) (mWo_lt (b := done) (mAv_lt (V := V) (s := nI s) (n := N))) hne h12
    have hst := sPick_st (c := c) hV hs hh hz (mWo_lt (b := done) (mAv_lt (V := V) (s := nI s) (n := N))) hne
    unfold sLoop
    dsimp only
    generalize sPick c V N s h z (mWo (mAv V (nI s) N) done) = p at *
    have hb12 : p.1 < 12 := by omega
    have hTst : StV (sTry c p.2 N p.1 s (nI z) att) N := sTry_st hst hb12
    generalize sTry c p.2 N p.1 s (nI z) att = V2 at *
    split
    · exact uV_st hTst (by omega) (by omega) (by omega) (by omega)
    · split
      · rename_i h5
        unfold sMay at h5
        rw [decide_eq_true_eq] at h5
        exact ih _ _ _ (uV_st hTst (by omega) (by omega) (by omega) (by omega)) (Nat.or_lt_two_pow hd (Nat.pow_lt_pow_right (by decide) hb)) (by rw [mAv_congr (fun i hi => uV_n (by omega)) N h12]; exact h5.2.2.2)
      · exact hTst
/-- what a request needs of the row -/
def AnsV (V : Nat → Int32) (N R : Nat) : Prop := StV V N ∧ RuV V R
theorem RuV.to {V V' : Nat → Int32} {R : Nat} (h : RuV V R) (h1 : V' 230 = V 230) (h2 : ∀ r, r < R → V' (231 + 58 * r) = V (231 + 58 * r) ∧ V' (231 + 58 * r + 43) = V (231 + 58 * r + 43) ∧ V' (231 + 58 * r + 56) = V (231 + 58 * r + 56) ∧ ∀ t, t < 3 → V' (231 + 58 * r + 44 + 4 * t) = V (231 + 58 * r + 44 + 4 * t)) : RuV V' R := by
  obtain ⟨a1, a2, a3⟩ := h
  refine ⟨by rw [h1, a1], a2, fun r hr => ?_⟩
  obtain ⟨b1, ⟨n, b2, b3, b4, b5⟩, b6⟩ := a3 r hr
  obtain ⟨c1, c2, c3, c4⟩ := h2 r hr
  refine ⟨by rw [c1]; exact b1, ⟨n, b2, b3, by rw [c2, b4], fun t ht => by rw [c4 t (by omega)]; exact b5 t ht⟩, by rw [c3]; exact b6⟩
theorem sNew_st {V : Nat → Int32} {N : Nat} (h : StV V N) : StV (sNew V) N := by
  have := h.2.1
  unfold sNew
  exact uV_st (uV_st h (by omega) (by omega) (by omega) (by omega)) (by omega) (by omega) (by omega) (by omega)
theorem sNew_keep {V : Nat → Int32} {j : Nat} (h : j ≠ 706 ∧ j ≠ 697) : sNew V j = V j := by
  unfold sNew
  rw [uV_n h.2, uV_n h.1]
theorem sNew_ru {V : Nat → Int32} {R : Nat} (h : RuV V R) : RuV (sNew V) R := by
  have := h.2.1
  exact h.to (sNew_keep (by omega)) (fun r hr => ⟨sNew_keep (by omega), sNew_keep (by omega), sNew_keep (by omega), fun t ht => sNew_keep (by omega)⟩)
section RH
variable {P : zSt} {y : Nat} {m : zM}
theorem sTal_lt {w : Int32} : sTal w ≤ 6 := by
  unfold sTal
  split
  · split <;> omega
  · omega
theorem r_tally (ok : yOK P y) {c w : Int32} {N r : Nat} {V : Nat → Int32} (hc0 : zf m 216 y = c) (hr : r < 8) (hN : V 144 = nI N) (h12 : N ≤ 12) : f_X11_answers_b91 P y (nI r) w (wA m (yv P y) V) = some (w, wA m (yv P y) (sShadow c (sTally (w, V)) N r)) := by
  have key : ∀ k : Nat, k ≤ 6 → f_X11_answers_b122 P y (nI r) w (nI k) (nI 695) (zR P 200 y) (wA m (yv P y) V) = some (w, wA m (yv P y) (sShadow c (uV V (695 + k) (V (695 + k) + 1)) N r)) := by
    intro k hk
    have hk2 : 695 + k < 723 := by omega
    have hr57 : 231 + 58 * r + 57 < 723 := by omega
    unfold f_X11_answers_b122 f_X11_answers_b164 sShadow
    have hm := r_mirrors (m := wA m (yv P y) (uV V (695 + k) (V (695 + k) + nI 1))) ok (s := uV V (695 + k) (V (695 + k) + nI 1) (231 + 58 * r + 57)) (N := N) (by rw [za_wA, uV_n (by omega)]; exact hN) h12
    rw [za_wA, wA_wA] at hm
    simp only [nlit, n_mul, n_add, zl_s, zb_s, zgd_t, zin_v, nat_v, za_wA, wA_wA, zf_wA, zap_eq, ok.1, hk2, hr57, hc0, hm]
    split
    · rename_i h1
      simp only [h1, if_true]
    · rename_i h1
      simp only [h1, if_false]
      split
      · rename_i h2
        simp only [h2, if_true]
      · rename_i h2
        simp only [h2, if_false]
  unfold f_X11_answers_b91 sTally sTal
  rw [zl_s]
  dsimp only
  by_cases h1 : w < 0
  · simp only [h1, if_true]
    by_cases h2 : w = -5
    · rw [if_pos h2, if_pos h2]
      exact key 5 (by omega)
    · rw [if_neg h2, if_neg h2]
      exact key 6 (by omega)
  · simp only [h1, if_false]
    exact key 3 (by omega)
theorem r_answers (ok : yOK P y) {c : Int32} {N R tn h z : Nat} (hc0 : zf m 216 y = c) (hh : h < 10) (hz : z < 3) (hV : StV (za m (yv P y)) N) (hR : RuV (za m (yv P y)) R) (htn : zf m 207 y = nI tn) (htn40 : tn ≤ 40) (h206 : zR P 206 y ≠ zR P 200 y) :
    f_X11_answers P y (nI h) (nI z) m = some ((sAnswer c (za m (yv P y)) N h z (sFst (sFits (sNew (za m (yv P y))) (za m (zR P 206 y)) tn (nI h)) R 0)).1, wA m (yv P y) (sAnswer c (za m (yv P y)) N h z (sFst (sFits (sNew (za m (yv P y))) (za m (zR P 206 y)) tn (nI h)) R 0)).2) := by
  have h12 := hV.2.1
  have hro := r_ruleOf (m := wA m (yv P y) (sNew (za m (yv P y)))) ok (h := nI h) (tn := tn) (R := R) (by rw [za_wA]; exact sNew_ru hR) htn htn40
  rw [za_wA, za_wA_ne h206] at hro
  have hst := sNew_st hV
  have hru := sNew_ru hR
  have e0 : ∀ r, r < 8 → sNew (za m (yv P y)) (231 + 58 * r + 43) = za m (yv P y) (231 + 58 * r + 43) := fun r _ => sNew_keep (by omega)
  have h706 : sNew (za m (yv P y)) 706 = nI 0 := by
    unfold sNew
    rw [uV_n (by omega), uV_s]
    rfl
  unfold f_X11_answers
  have eN : wA m (yv P y) (uV (uV (za m (yv P y)) 706 0) 697 (uV (za m (yv P y)) 706 0 697 + 1)) = wA m (yv P y) (sNew (za m (yv P y))) := by
    unfold sNew
    rw [uV_n (show (697 : Nat) ≠ 706 by omega)]
  rw [zl_s, ok.1, show zin (706 : Int32) 723 = true by decide, zgd_t, show (706 : Int32).toNatClampNeg = 706 by decide, zl_s, zl_s, ok.1, show zin (697 : Int32) 723 = true by decide, zgd_t, zgd_t, show (697 : Int32).toNatClampNeg = 697 by decide, show zap m (zR P 200 y) 706 0 = wA m (zR P 200 y) (uV (za m (zR P 200 y)) 706 0) from zap_eq, za_wA, zap_wA, zl_s, eN, hro, zb_s]
  dsimp only
  unfold sAnswer
  generalize hV2 : sNew (za m (yv P y)) = V2 at *
  cases hq : sFst (sFits V2 (za m (zR P 206 y)) tn (nI h)) R 0 with
  | none =>
    rw [if_neg (by decide), zl_s, ok.1, show zin (699 : Int32) 723 = true by decide, zgd_t, zgd_t, show (699 : Int32).toNatClampNeg = 699 by decide, za_wA, zap_wA, zl_s]
  | some r =>
    obtain ⟨-, hr, -⟩ := sFst_some hq
    have hr8 : r < 8 := by have := hR.2.1; omega
    obtain ⟨-, ⟨n, hn1, hn3, hn, hsv⟩, ⟨mo, hmo1, hmo2, hmo⟩⟩ := hru.2.2 r (by omega)
    have hch := r_choose (m := wA m (yv P y) V2) ok (N := N) (r := r) (n := n) (by rw [za_wA]; exact hst.1) h12 hr8 hn3 (by rw [za_wA]; exact hn)
    rw [za_wA, wA_wA] at hch
    rw [show oI (some r) = nI r from rfl, if_pos (nI_pos' (by omega)), hch, zb_s]
    dsimp only
    rw [← e0 r hr8, hn, n_nat (by omega)]
    unfold sAnsR sServeT
    dsimp only
    cases hq2 : (sChoose V2 N r n).1 with
    | none =>
      dsimp only
      rw [if_neg (by decide)]
      exact r_tally ok hc0 hr8 (by rw [sChoose_keep (by omega)]; exact hst.1) h12
    | some t =>
      obtain ⟨ht, htc⟩ := sChoose_some hq2
      obtain ⟨s, hs4, hsv⟩ := hsv t ht
      have esv : (sChoose V2 N r n).2 (231 + 58 * r + 44 + 4 * t) = nI s := by rw [sChoose_keep (by omega), hsv]
      have e4 : ((((231 : Int32) + ((58 : Int32) * nI r)) + (44 : Int32)) + ((4 : Int32) * nI t)) = nI (231 + 58 * r + 44 + 4 * t) := by
        rw [show (58 : Int32) = nI 58 from rfl, show (231 : Int32) = nI 231 from rfl, show (44 : Int32) = nI 44 from rfl, show (4 : Int32) = nI 4 from rfl, n_mul, n_mul, n_add, n_add, n_add]
      have hcst : StV (sChoose V2 N r n).2 N := hst.to (sChoose_keep (by omega)) (sChoose_keep (by omega)) (fun i hi => sChoose_keep (by omega)) (fun s h hs hh => Or.inl (sChoose_keep (by omega)))
      have htc2 : mAv V2 (nI s) N ≠ 0 := by
        unfold tCand at htc
        rw [decide_eq_true_eq, hsv] at htc
        exact htc
      have hse := r_serves (m := wA m (yv P y) (sChoose V2 N r n).2) ok (c := c) (N := N) (s := s) (r := r) (h := h) (z := z) (mo := mo) hc0 hs4 hr8 hh hz (by rw [za_wA]; exact hcst) (by rw [za_wA, sChoose_keep (by omega)]; exact h706) (by rw [za_wA, sChoose_keep (by omega)]; exact hmo) ⟨hmo1, hmo2⟩ (by rw [za_wA, mAv_congr (fun j hj => sChoose_keep (by omega)) N h12]; exact htc2)
      rw [za_wA, wA_wA] at hse
      dsimp only
      rw [show oI (some t) = nI t from rfl, if_pos (nI_pos' (by omega)), e4, zl_s, ok.1, zin_v (by omega), zgd_t, nat_v (by omega), za_wA, esv, hse, zb_s, n_nat (by omega)]
      dsimp only
      have hwst : (sServe c (sChoose V2 N r n).2 N s r h z).2 144 = nI N := by
        unfold sServe
        dsimp only
        exact (sLoop_st (c := c) hs4 hh hz 4 0 0 _ (uV_st (uV_st (uV_st hcst (by omega) (by omega) (by omega) (by omega)) (by omega) (by omega) (by omega) (by omega)) (by omega) (by omega) (by omega) (by omega)) (Nat.two_pow_pos _) (by rw [mWo_z (lt31 mAv_lt h12), mAv_congr (fun j hj => by rw [uV_n (by omega), uV_n (by omega), uV_n (by omega)]) N h12, mAv_congr (fun j hj => sChoose_keep (by omega)) N h12]; exact htc2)).1
      exact r_tally ok hc0 hr8 hwst h12
end RH

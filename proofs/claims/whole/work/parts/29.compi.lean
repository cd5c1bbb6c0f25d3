/-! ===== a request answered: class and row ===== -/
theorem sMirror_all {V : Nat → Int32} {N j : Nat} {s : Int32} (h12 : N ≤ 12) (hj : kA j ∨ j = 229 ∨ (144 ≤ j ∧ j < 229)) : sMirror V N s j = V j := by
  apply sMirror_keep
  · intro b hb
    rcases hj with ⟨h1, h2, h3, h4⟩ | h | h <;> omega
  · rcases hj with ⟨h1, h2, h3, h4⟩ | h | h <;> omega
theorem sMirror_st {V : Nat → Int32} {N : Nat} {s : Int32} (hV : StV V N) : StV (sMirror V N s) N := by
  have h12 := hV.2.1
  exact hV.to (sMirror_keep (by omega) (by omega)) (sMirror_keep (by omega) (by omega)) (fun i hi => sMirror_keep (by omega) (by omega)) (fun s h hs hh => Or.inl (sMirror_keep (by omega) (by omega)))
theorem sMirror_bd {V : Nat → Int32} {N B : Nat} {s : Int32} (hB : BdV V N B) (h12 : N ≤ 12) : BdV (sMirror V N s) N (B + 1) := by
  unfold sMirror
  cases hq : sMi V s N with
  | none => exact hB.mono (by omega)
  | some b =>
    have hb := (sMi_lt hq).1
    dsimp only
    have h1 : BdV (uV V (12 * b + 11) (V (12 * b + 11) + sBit (V (12 * b + 3)) (V (12 * b + 10)))) N B := hB.upd (fun i k _ _ _ _ _ => by omega)
    generalize uV V (12 * b + 11) (V (12 * b + 11) + sBit (V (12 * b + 3)) (V (12 * b + 10))) = V1 at *
    intro i hi
    obtain ⟨a1, a2, a3, a4, a5⟩ := h1.mono (Nat.le_succ B) i hi
    have kk : ∀ k, k < 10 → ∀ x y, uV (uV V1 (12 * b + 10) x) 703 y (12 * i + k) = V1 (12 * i + k) := fun k hk x y => by rw [uV_n (by omega), uV_n (by omega)]
    refine ⟨?_, ?_, ?_, ?_, ?_⟩
    · rw [kk 5 (by omega)]; exact a1
    · rw [kk 7 (by omega)]; exact a2
    · rw [kk 8 (by omega)]; exact a3
    · rw [kk 9 (by omega)]; exact a4
    · rw [uV_n (by omega)]
      by_cases e : i = b
      · subst e
        obtain ⟨x, x1, x2⟩ := (h1 i hi).2.2.2.2
        rw [uV_s, x2, nI_1]
        exact ⟨x + 1, by omega, rfl⟩
      · rw [uV_n (by omega)]
        exact a5
theorem sNew_inv {V : Nat → Int32} {N R B : Nat} (h : InV V N R B) : (∀ j, j < 697 → sNew V j = V j) ∧ InV (sNew V) N R B := by
  have h12 := h.st.2.1
  have h8 := h.2.1.2
  have k : ∀ j, j < 697 → sNew V j = V j := fun j hj => sNew_keep (by omega)
  refine ⟨k, sNew_st h.st, ⟨by rw [k 230 (by omega)]; exact h.2.1.1, h8⟩, h.sv.to (fun s hs => ⟨k _ (by omega), k _ (by omega)⟩), h.bd.to (fun i j h1 h2 h3 h4 h5 => k _ (by omega)), fun i hi => by rw [k _ (by omega)]; exact h.sr i hi, fun r hr => (h.ra hr).to ⟨fun j hj => k _ (by omega), fun t ht => ⟨k _ (by omega), k _ (by omega)⟩⟩⟩
theorem kA.ne {j : Nat} (h : kA j) {r t : Nat} (hr : r < 8) (ht : t < 3) : j ≠ 231 + 58 * r + 44 + 4 * t + 2 ∧ j ≠ 231 + 58 * r + 44 + 4 * t + 3 := by
  obtain ⟨h1, h2, h3, h4⟩ := h
  rcases (show t = 0 ∨ t = 1 ∨ t = 2 by omega) with rfl | rfl | rfl <;> omega
/-- the service's outcome: the row kept -/
theorem sServeT_keep {c : Int32} {V : Nat → Int32} {N R B h z r n j : Nat} (hI : InV V N R B) (hr : r < R) (hn : V (231 + 58 * r + 43) = nI n) (hn3 : n ≤ 3) (hh : h < 10) (hz : z < 3) (hj : kA j) : (sServeT c (sChoose V N r n) N h z r).2 j = V j := by
  have h12 := hI.st.2.1
  have h8 := hI.2.1.2
  have hj' := hj
  obtain ⟨j1, j2, j3, j4⟩ := hj
  unfold sServeT
  cases hq : (sChoose V N r n).1 with
  | none =>
    dsimp only
    exact sChoose_keep (fun t ht => hj'.ne (by omega) (by omega))
  | some t =>
    dsimp only
    obtain ⟨ht, htc⟩ := sChoose_some hq
    obtain ⟨n', b1, b2, b3, b4⟩ := (hI.ra hr).1.2.1
    have hnn : n' = n := by rw [b3] at hn; exact (n_inj (by omega) (by omega)).mp hn
    subst hnn
    obtain ⟨s, hs4, hsv⟩ := b4 t ht
    have esv : (sChoose V N r n').2 (231 + 58 * r + 44 + 4 * t) = nI s := by rw [sChoose_keep (by omega), hsv]
    have hcst : StV (sChoose V N r n').2 N := hI.st.to (sChoose_keep (by omega)) (sChoose_keep (by omega)) (fun i hi => sChoose_keep (by omega)) (fun s h hs hh => Or.inl (sChoose_keep (by omega)))
    have htc2 : mAv V (nI s) N ≠ 0 := by
      unfold tCand at htc
      rw [decide_eq_true_eq, hsv] at htc
      exact htc
    rw [esv, n_nat (by omega), (sServe_keep hs4 hh hz ⟨j1, j2, by omega⟩ hcst (by rw [mAv_congr (fun j hj => sChoose_keep (by omega)) N h12]; exact htc2)).1]
    exact sChoose_keep (fun t ht => hj'.ne (by omega) (by omega))
theorem sServeT_st {c : Int32} {V : Nat → Int32} {N R B h z r n : Nat} (hI : InV V N R B) (hr : r < R) (hn : V (231 + 58 * r + 43) = nI n) (hn3 : n ≤ 3) (hh : h < 10) (hz : z < 3) : StV (sServeT c (sChoose V N r n) N h z r).2 N := by
  have h12 := hI.st.2.1
  have h8 := hI.2.1.2
  have hcst : StV (sChoose V N r n).2 N := hI.st.to (sChoose_keep (by omega)) (sChoose_keep (by omega)) (fun i hi => sChoose_keep (by omega)) (fun s h hs hh => Or.inl (sChoose_keep (by omega)))
  unfold sServeT
  cases hq : (sChoose V N r n).1 with
  | none => exact hcst
  | some t =>
    dsimp only
    obtain ⟨ht, htc⟩ := sChoose_some hq
    obtain ⟨n', b1, b2, b3, b4⟩ := (hI.ra hr).1.2.1
    have hnn : n' = n := by rw [b3] at hn; exact (n_inj (by omega) (by omega)).mp hn
    subst hnn
    obtain ⟨s, hs4, hsv⟩ := b4 t ht
    have esv : (sChoose V N r n').2 (231 + 58 * r + 44 + 4 * t) = nI s := by rw [sChoose_keep (by omega), hsv]
    have htc2 : mAv V (nI s) N ≠ 0 := by
      unfold tCand at htc
      rw [decide_eq_true_eq, hsv] at htc
      exact htc
    rw [esv, n_nat (by omega)]
    exact (sServe_keep (j := 229) hs4 hh hz ⟨by omega, by omega, by omega⟩ hcst (by rw [mAv_congr (fun j hj => sChoose_keep (by omega)) N h12]; exact htc2)).2
theorem sLoop_ans_l {c : Int32} {N s r h z : Nat} : ∀ k done att V, StV V N → done < 2 ^ N → mWo (mAv V (nI s) N) done ≠ 0 → s < 4 → h < 10 → z < 3 → (∃ b, b < 12 ∧ (sLoop c N s r h z k done att V).1 = nI b) ∨ (sLoop c N s r h z k done att V).1 = -6 := by
  intro k
  induction k with
  | zero => intro done att V _ _ _ _ _ _; exact Or.inr rfl
  | succ k ih =>
    intro done att V hV hd hne hs hh hz
    have h12 := hV.2.1
    obtain ⟨hb, hbc⟩ := sPick_lt (c := c) (V := V) (s := s) (h := h) (z := z) (mWo_lt (b := done) (mAv_lt (V := V) (s := nI s) (n := N))) hne h12
    have hst := sPick_st (c := c) hV hs hh hz (mWo_lt (b := done) (mAv_lt (V := V) (s := nI s) (n := N))) hne
    unfold sLoop
    dsimp only
    generalize sPick c V N s h z (mWo (mAv V (nI s) N) done) = p at *
    have hb12 : p.1 < 12 := by omega
    have hTst : StV (sTry c p.2 N p.1 s (nI z) att) N := sTry_st hst hb12
    generalize sTry c p.2 N p.1 s (nI z) att = V2 at *
    split
    · exact Or.inl ⟨p.1, hb12, rfl⟩
    · split
      · rename_i h5
        unfold sMay at h5
        rw [decide_eq_true_eq] at h5
        exact ih _ _ _ (uV_st hTst (by omega) (by omega) (by omega) (by omega)) (Nat.or_lt_two_pow hd (Nat.pow_lt_pow_right (by decide) hb)) (by rw [mAv_congr (fun i hi => uV_n (by omega)) N h12]; exact h5.2.2.2) hs hh hz
      · exact Or.inr rfl
theorem sServe_ans {c : Int32} {N s r h z : Nat} {V : Nat → Int32} (hs : s < 4) (hh : h < 10) (hz : z < 3) (hV : StV V N) (hne : mAv V (nI s) N ≠ 0) : -6 ≤ (sServe c V N s r h z).1 ∧ ((sServe c V N s r h z).1 < 0 → (sServe c V N s r h z).1 = -5 ∨ (sServe c V N s r h z).1 = -6) := by
  have h12 := hV.2.1
  have key : (∃ b, b < 12 ∧ (sServe c V N s r h z).1 = nI b) ∨ (sServe c V N s r h z).1 = -6 := by
    unfold sServe
    dsimp only
    exact sLoop_ans_l _ _ _ _ (uV_st (uV_st (uV_st hV (by omega) (by omega) (by omega) (by omega)) (by omega) (by omega) (by omega) (by omega)) (by omega) (by omega) (by omega) (by omega)) (Nat.two_pow_pos _) (by rw [mWo_z (lt31 mAv_lt h12), mAv_congr (fun j hj => by rw [uV_n (by omega), uV_n (by omega), uV_n (by omega)]) N h12]; exact hne) hs hh hz
  rcases key with ⟨b, hb, e⟩ | e
  · rw [e]
    exact ⟨Int32.le_trans (by decide) (nI_pos' (show b < 2 ^ 31 by omega)), fun h => absurd h (nI_pos (by omega))⟩
  · rw [e]
    exact ⟨Int32.le_refl _, fun _ => Or.inr rfl⟩
section CI
variable {own : Nat → Nat} {P : zSt} {m0 m : zM} {u N R T : Nat} {g : zGr} {c : Int32} {V : Nat → Int32}
theorem c_hasRule (hR : zf m 24 u = nI R) {r : Nat} (hr : r < R) (h8 : R ≤ 8) : f_X1_hasRule P u (nI r) m = some (1, m) := by
  unfold f_X1_hasRule
  rw [hR, c_isWithin, zb_s, zbo_bI, zgd_t]
  dsimp only
  rw [decide_eq_true]
  · rfl
  · rw [show (1 : Int32) = nI 1 from rfl, n_sub _ _ (by omega), n_le (by omega) (by omega)]
    exact ⟨nI_pos' (by omega), by omega⟩
theorem c_hasRule_neg (hR : zf m 24 u = nI R) : f_X1_hasRule P u (-1) m = some (0, m) := by
  unfold f_X1_hasRule
  rw [hR, c_isWithin, zb_s, zbo_bI, zgd_t]
  rfl
/-- the tally, and what the row says of it -/
theorem c_tally (hf : Mf own P u g N) (hL : RuL V R) {w : Int32} (hw : -6 ≤ w) (hw2 : w < 0 → w = -5 ∨ w = -6) (hG : GM P m u g) (hp : Pic P m u g N R c V) (hx : PicX P m u g T V) :
    ∃ m', f_X1_tally P u w m = some (0, m') ∧ GM P m' u g ∧ Pic P m' u g N R c (sTally (w, V)) ∧ PicX P m' u g T (sTally (w, V)) ∧ Fo own u m m' ∧ zf m' 27 u = zf m 27 u + 1 := by
  have h12 := hf.2.2
  have h8 := hL.1
  have hou := hf.2.1.2.2.2.2.2.2.2.2.2.1
  have hp1 : Pic P (zfp m 27 u (zf m 27 u + 1)) u g N R c V := by
    refine ⟨?_, hp.2.1.cg (fun i k _ _ => zf_ne (Or.inl (by have := bsl_lt k; omega))) (fun _ _ _ _ => rfl), hp.2.2.1.cg (fun s j _ _ => zf_ne (Or.inl (by omega))) (fun _ _ _ _ => rfl) (fun _ _ _ _ => rfl) (fun _ _ _ => rfl), hp.2.2.2.1.cg hL.1 (fun f r hr h1 h2 => zf_ne (Or.inl (by omega))) (fun r hr => zf_ne (Or.inl (by omega))) (fun _ _ _ _ => rfl) (fun r hr => (hL.2 r hr).1) (fun _ _ _ _ => rfl), hp.2.2.2.2.cg (fun r t k' _ _ _ => zf_ne (Or.inl (by have := tsl_lt k'; omega))) (fun _ _ => rfl) (fun _ _ _ _ _ _ => rfl)⟩
    obtain ⟨a1, a2, a3, a4, a5, a6, a7⟩ := hp.1
    exact ⟨by rw [zf_ne (Or.inl (by omega)), a1], a2, by rw [zf_ne (Or.inl (by omega)), a3], a4, by rw [zf_ne (Or.inl (by omega)), a5], by rw [zf_ne (Or.inl (by omega)), a6], fun j h1 h2 => by rw [zf_ne (Or.inl (by omega)), a7 j h1 h2]⟩
  have fin : ∀ j x, 28 ≤ j → j ≤ 34 → x = V (670 + j) + 1 → GM P (zfp (zfp m 27 u (zf m 27 u + 1)) j u x) u g ∧ Pic P (zfp (zfp m 27 u (zf m 27 u + 1)) j u x) u g N R c (uV V (670 + j) (V (670 + j) + 1)) ∧ PicX P (zfp (zfp m 27 u (zf m 27 u + 1)) j u x) u g T (uV V (670 + j) (V (670 + j) + 1)) ∧ Fo own u m (zfp (zfp m 27 u (zf m 27 u + 1)) j u x) ∧ zf (zfp (zfp m 27 u (zf m 27 u + 1)) j u x) 27 u = zf m 27 u + 1 := by
    rintro j x h1 h2 rfl
    exact ⟨hG, hp1.updC hL h12 h1 h2, ((hx.zf (by omega)).zf (by omega)).up (by omega), (Fo.zfp hou).trans (Fo.zfp hou), by rw [zf_ne (Or.inl (by omega)), zf_eq]⟩
  have cv : ∀ j, 28 ≤ j → j ≤ 34 → zf (zfp m 27 u (zf m 27 u + 1)) j u = V (670 + j) := fun j h1 h2 => hp1.1.2.2.2.2.2.2 j h1 h2
  unfold f_X1_tally sTally sTal
  rw [zl_s]
  dsimp only
  by_cases hn : w < 0
  · rw [if_pos hn]
    rcases hw2 hn with rfl | rfl
    · rw [if_pos rfl]
      refine ⟨_, rfl, ?_⟩
      exact fin 30 _ (by omega) (by omega) (by rw [cv 30 (by omega) (by omega)])
    · rw [if_neg (by decide)]
      refine ⟨_, rfl, ?_⟩
      exact fin 31 _ (by omega) (by omega) (by rw [cv 31 (by omega) (by omega)])
  · rw [if_neg hn]
    have hz : zsw w (-6) [(zl (zfp (zfp m 27 u (zf m 27 u + 1)) 31 u (zf (zfp m 27 u (zf m 27 u + 1)) 31 u + 1)) fun m69 => some ((0 : Int32), m69)), (zl (zfp (zfp m 27 u (zf m 27 u + 1)) 30 u (zf (zfp m 27 u (zf m 27 u + 1)) 30 u + 1)) fun m56 => some ((0 : Int32), m56)), (zl (zfp (zfp m 27 u (zf m 27 u + 1)) 29 u (zf (zfp m 27 u (zf m 27 u + 1)) 29 u + 1)) fun m43 => some ((0 : Int32), m43))] (zl (zfp (zfp m 27 u (zf m 27 u + 1)) 28 u (zf (zfp m 27 u (zf m 27 u + 1)) 28 u + 1)) fun m82 => some ((0 : Int32), m82)) = some (0, zfp (zfp m 27 u (zf m 27 u + 1)) 28 u (zf (zfp m 27 u (zf m 27 u + 1)) 28 u + 1)) := by
      have hw0 : (0 : Int) ≤ w.toInt := by
        have := Int32.not_lt.mp hn
        exact Int32.le_iff_toInt_le.mp this
      unfold zsw
      rw [if_neg (by omega), List.getElem?_eq_none (by simp only [List.length_cons, List.length_nil]; omega)]
      rfl
    rw [hz]
    refine ⟨_, rfl, ?_⟩
    exact fin 28 _ (by omega) (by omega) (by rw [cv 28 (by omega) (by omega)])
/-- the count of those without a route -/
theorem c_tally4 (hf : Mf own P u g N) (hL : RuL V R) (hG : GM P m u g) (hp : Pic P m u g N R c V) (hx : PicX P m u g T V) :
    ∃ m', f_X1_tally P u (-4) m = some (0, m') ∧ GM P m' u g ∧ Pic P m' u g N R c (uV V 699 (V 699 + 1)) ∧ PicX P m' u g T (uV V 699 (V 699 + 1)) ∧ Fo own u m m' ∧ zf m' 27 u = zf m 27 u + 1 := by
  have h12 := hf.2.2
  have h8 := hL.1
  have hou := hf.2.1.2.2.2.2.2.2.2.2.2.1
  have hp1 : Pic P (zfp m 27 u (zf m 27 u + 1)) u g N R c V := by
    refine ⟨?_, hp.2.1.cg (fun i k _ _ => zf_ne (Or.inl (by have := bsl_lt k; omega))) (fun _ _ _ _ => rfl), hp.2.2.1.cg (fun s j _ _ => zf_ne (Or.inl (by omega))) (fun _ _ _ _ => rfl) (fun _ _ _ _ => rfl) (fun _ _ _ => rfl), hp.2.2.2.1.cg hL.1 (fun f r hr h1 h2 => zf_ne (Or.inl (by omega))) (fun r hr => zf_ne (Or.inl (by omega))) (fun _ _ _ _ => rfl) (fun r hr => (hL.2 r hr).1) (fun _ _ _ _ => rfl), hp.2.2.2.2.cg (fun r t k' _ _ _ => zf_ne (Or.inl (by have := tsl_lt k'; omega))) (fun _ _ => rfl) (fun _ _ _ _ _ _ => rfl)⟩
    obtain ⟨a1, a2, a3, a4, a5, a6, a7⟩ := hp.1
    exact ⟨by rw [zf_ne (Or.inl (by omega)), a1], a2, by rw [zf_ne (Or.inl (by omega)), a3], a4, by rw [zf_ne (Or.inl (by omega)), a5], by rw [zf_ne (Or.inl (by omega)), a6], fun j h1 h2 => by rw [zf_ne (Or.inl (by omega)), a7 j h1 h2]⟩
  have cv : zf (zfp m 27 u (zf m 27 u + 1)) 29 u = V 699 := hp1.1.2.2.2.2.2.2 29 (by omega) (by omega)
  unfold f_X1_tally
  rw [zl_s]
  refine ⟨_, rfl, hG, ?_, ?_, (Fo.zfp hou).trans (Fo.zfp hou), by rw [zf_ne (Or.inl (by omega)), zf_eq]⟩
  · rw [cv]
    exact hp1.updC hL h12 (j := 29) (by omega) (by omega)
  · exact ((hx.zf (by omega)).zf (by omega)).up (by omega)
/-- a request's answer: the class does to its mesh what the reference does to its row -/
theorem c_answer (hf : Mf own P u g N) (hG : GM P m u g) (hp : Pic P m u g N R c V) {B h z : Nat} (hI : InV V N R B) (hB2 : B + 5 < 1000000) (ro : Option Nat) (hro : ∀ r, ro = some r → r < R) (hh : h < 10) (hz : z < 3) :
    ∃ m' T', f_X1_answer P u (oI ro) (nI h) (nI z) m = some ((sAnswer c V N h z ro).1, m') ∧ GM P m' u g ∧ Pic P m' u g N R c (sAnswer c V N h z ro).2 ∧ PicX P m' u g T' (sAnswer c V N h z ro).2 ∧ InV (sAnswer c V N h z ro).2 N R (B + 5) ∧ Fo own u m m' ∧ zf m' 27 u = zf m 27 u + 1 ∧ (sAnswer c V N h z ro).2 697 = V 697 + 1 := by
  have h12 := hf.2.2
  have h8 := hI.2.1.2
  have hL : RuL V R := hI.ru.l
  obtain ⟨kN, hIN⟩ := sNew_inv hI
  have hLN : RuL (sNew V) R := hIN.ru.l
  have n697 : sNew V 697 = V 697 + 1 := by
    unfold sNew
    rw [uV_s]
  have n706 : sNew V 706 = nI 0 := by
    unfold sNew
    rw [uV_n (by omega), uV_s]
    rfl
  have hpN : Pic P (zfp m 161 (zR P 35 u) 0) u g N R c (sNew V) := by
    refine ((hp.updF hL (f := 161) (a := zR P 35 u) (x := 0) (by omega)).up hL h12 (j := 706) (x := 0) (by omega)) |> fun q => ?_
    have hL' : RuL (uV V 706 0) R := hL.up (fun r hr => by omega)
    unfold sNew
    exact ⟨q.1.cg (fun _ _ _ => rfl) (uV_n (by omega)) (uV_n (by omega)) (uV_n (by omega)) (fun j h1 h2 => uV_n (by omega)), q.2.1.cg (fun _ _ _ _ => rfl) (fun i k hi hk => uV_n (by omega)), q.2.2.1.cg (fun _ _ _ _ => rfl) (fun _ _ _ _ => rfl) (fun _ _ _ _ => rfl) (fun j h1 h2 => uV_n (by omega)), q.2.2.2.1.cg h8 (fun _ _ _ _ _ => rfl) (fun _ _ => rfl) (fun _ _ _ _ => rfl) (fun r hr => (hL'.2 r hr).1) (fun r j hr hj => uV_n (by omega)), q.2.2.2.2.cg (fun _ _ _ _ _ _ => rfl) (fun r hr => uV_n (by omega)) (fun r t k' hr ht hk' => by have := (hL'.2 r hr).2; exact uV_n (by omega))⟩
  have hxN : PicX P (zfp m 161 (zR P 35 u) 0) u g 0 (sNew V) := ⟨n706, by omega, by rw [zf_eq]; rfl, by intro i k hi; omega⟩
  have hFN : Fr own u m (zfp m 161 (zR P 35 u) 0) := Fr.zfp hf.2.1.2.2.2.2.2.2.2.2.2.2.1 (by omega)
  have hMN : Ms own P m (zfp m 161 (zR P 35 u) 0) u g N R c (sNew V) 0 := ⟨hG, hpN, hxN, hFN⟩
  unfold f_X1_answer f_X1_answer_b60 f_X1_answer_b75
  rw [zl_s, zl_s]
  unfold sAnswer
  cases ro with
  | none =>
    rw [show oI none = (-1 : Int32) from rfl, c_hasRule_neg hpN.1.2.2.1, zb_s]
    dsimp only
    rw [if_pos rfl]
    obtain ⟨m1, t1, t2, t3, t4, t5, t6⟩ := c_tally4 hf hLN hMN.1 hpN hxN
    rw [t1, zb_s]
    refine ⟨m1, 0, rfl, t2, t3, t4, hIN.to (uV_st hIN.st (by omega) (by omega) (by omega) (by omega)) ((hIN.bd.upd (fun i k _ _ _ _ _ => by omega)).mono (by omega)) (fun j hj => uV_n (by have := hj.2.2.1; omega)), hFN.o.trans t5, ?_, ?_⟩
    · rw [t6, hFN.2.2.2]
    · rw [uV_n (by omega), n697]
  | some r =>
    have hr := hro r rfl
    have hr8 : r < 8 := by omega
    obtain ⟨⟨-, ⟨n, b1, b2, b3, b4⟩, ⟨mo, mo1, mo2, mo3⟩⟩, -, -, -, -, hsh, -⟩ := hIN.ra hr
    have hmn : (V (231 + 58 * r + 43)).toNatClampNeg = n := by rw [← kN _ (by omega), b3, n_nat (by omega)]
    rw [show oI (some r) = nI r from rfl, c_hasRule hpN.1.2.2.1 hr h8, zb_s]
    dsimp only
    rw [hmn]
    unfold sAnsR
    dsimp only
    rw [if_neg (by decide), zl_s, hf.1.2.2.1, zin_8 hr8, zgd_t, n_nat (by omega), hMN.1.2.2.1 r hr8, zl_s]
    obtain ⟨m1, c1, c2⟩ := c_cho hf hLN hr b3 b1 b2 hMN
    rw [c1, zb_s]
    dsimp only
    have kT := fun j (hj : kA j) => sServeT_keep (c := c) (h := h) (z := z) hIN hr b3 b2 hh hz hj
    have sT := sServeT_st (c := c) (h := h) (z := z) hIN hr b3 b2 hh hz
    -- the end of the road, the service's outcome known
    have fin : ∀ (m2 : zM) (T2 : Nat), Ms own P m m2 u g N R c (sServeT c (sChoose (sNew V) N r n) N h z r).2 T2 → BdV (sServeT c (sChoose (sNew V) N r n) N h z r).2 N (B + 4) → (-6 ≤ (sServeT c (sChoose (sNew V) N r n) N h z r).1) → ((sServeT c (sChoose (sNew V) N r n) N h z r).1 < 0 → (sServeT c (sChoose (sNew V) N r n) N h z r).1 = -5 ∨ (sServeT c (sChoose (sNew V) N r n) N h z r).1 = -6) →
        ∃ m' T', (zl (zR P 23 u) fun b64 => zgd (zin (nI r) (zlen P b64)) <| zl (zr m2 b64 r) fun b68 => zb (f_X1_mirror P u (zf m2 66 b68) m2) fun _ m72 => zb (f_X1_tally P u (sServeT c (sChoose (sNew V) N r n) N h z r).1 m72) fun _ m78 => some ((sServeT c (sChoose (sNew V) N r n) N h z r).1, m78)) = some ((sServeT c (sChoose (sNew V) N r n) N h z r).1, m') ∧ GM P m' u g ∧ Pic P m' u g N R c (sShadow c (sTally (sServeT c (sChoose (sNew V) N r n) N h z r)) N r) ∧ PicX P m' u g T' (sShadow c (sTally (sServeT c (sChoose (sNew V) N r n) N h z r)) N r) ∧ InV (sShadow c (sTally (sServeT c (sChoose (sNew V) N r n) N h z r)) N r) N R (B + 5) ∧ Fo own u m m' ∧ zf m' 27 u = zf m 27 u + 1 ∧ sShadow c (sTally (sServeT c (sChoose (sNew V) N r n) N h z r)) N r 697 = V 697 + 1 := by
      intro m2 T2 hM2 hBd hw1 hw2
      have hIW : InV (sServeT c (sChoose (sNew V) N r n) N h z r).2 N R (B + 4) := hIN.to sT hBd kT
      have e697 : (sServeT c (sChoose (sNew V) N r n) N h z r).2 697 = V 697 + 1 := by rw [kT 697 (by unfold kA; omega), n697]
      generalize sServeT c (sChoose (sNew V) N r n) N h z r = W at *
      have hLW : RuL W.2 R := hIW.ru.l
      obtain ⟨-, -, -, -, -, hshW, -⟩ := hIW.ra hr
      have e66 : zf m2 66 (gQ g r) = if c = 0 then -1 else W.2 (231 + 58 * r + 57) := (hM2.2.1.2.2.2.1 r hr).2.2.2.2.1
      -- the mirror before the tally, or after it
      have eS : sShadow c (sTally W) N r = sTally (W.1, sMirror W.2 N (if c = 0 then -1 else W.2 (231 + 58 * r + 57))) := by
        have hneg : ∀ x : Int32, x < 0 → sMirror W.2 N x = W.2 := by
          intro x hx
          unfold sMirror
          rw [sMi_neg hIW.sr hx]
        have e57 : sTally W (231 + 58 * r + 57) = W.2 (231 + 58 * r + 57) := by
          unfold sTally
          have := sTal_c (w := W.1)
          exact uV_n (by omega)
        unfold sShadow
        rw [e57]
        by_cases hc : c = 0
        · simp only [hc, if_true]
          rw [hneg (-1) (by decide)]
          split <;> rfl
        · simp only [hc, if_false]
          by_cases h57 : W.2 (231 + 58 * r + 57) < 0
          · simp only [h57, if_true]
            rw [hneg _ h57]
          · simp only [h57, if_false]
            unfold sTally
            have := sTal_c (w := W.1)
            dsimp only
            rw [sMirror_up h12 (by omega) (by omega), sMirror_keep (j := 695 + sTal W.1) (by omega) (by omega)]
      obtain ⟨m3, d1, d2⟩ := c_mirror (s := if c = 0 then -1 else W.2 (231 + 58 * r + 57)) hf hLW hIW.bd (by omega) hM2
      have hIS : InV (sMirror W.2 N (if c = 0 then -1 else W.2 (231 + 58 * r + 57))) N R (B + 5) := hIW.to (sMirror_st hIW.st) (sMirror_bd hIW.bd h12) (fun j hj => sMirror_all h12 (Or.inl hj))
      have e697' : sMirror W.2 N (if c = 0 then -1 else W.2 (231 + 58 * r + 57)) 697 = V 697 + 1 := by rw [sMirror_keep (by omega) (by omega), e697]
      generalize sMirror W.2 N (if c = 0 then -1 else W.2 (231 + 58 * r + 57)) = Y at *
      obtain ⟨m4, t1, t2, t3, t4, t5, t6⟩ := c_tally (w := W.1) hf hIS.ru.l hw1 hw2 d2.1 d2.2.1 d2.2.2.1
      rw [zl_s, hf.1.2.2.1, zin_8 hr8, zgd_t, hM2.1.2.2.1 r hr8, zl_s, e66, d1, zb_s]
      dsimp only
      rw [t1, zb_s, eS]
      have hst := sTal_c (w := W.1)
      refine ⟨m4, T2, rfl, t2, t3, t4, ?_, d2.2.2.2.o.trans t5, ?_, ?_⟩
      · unfold sTally
        dsimp only
        exact hIS.to (uV_st hIS.st (by omega) (by omega) (by omega) (by omega)) (hIS.bd.upd (fun i k _ _ _ _ _ => by omega)) (fun j hj => uV_n (by have := hj.2.2.1; omega))
      · rw [t6, d2.2.2.2.2.2.2]
      · unfold sTally
        dsimp only
        rw [uV_n (by omega), e697']
    have cT : StV (sChoose (sNew V) N r n).2 N := hIN.st.to (sChoose_keep (by omega)) (sChoose_keep (by omega)) (fun i hi => sChoose_keep (by omega)) (fun s h hs hh => Or.inl (sChoose_keep (by omega)))
    have cB : BdV (sChoose (sNew V) N r n).2 N B := hIN.bd.to (fun i k h1 h2 h3 h4 h5 => sChoose_keep (by omega))
    have cS : SvV (sChoose (sNew V) N r n).2 := hIN.sv.to (fun s hs => ⟨sChoose_keep (by omega), sChoose_keep (by omega)⟩)
    have cL : RuL (sChoose (sNew V) N r n).2 R := hLN.to (fun r' hr' => ⟨sChoose_keep (fun t ht => by have := ne_rt (r := r) (r' := r') (t := t) (k := 2) (j := 0) (by omega) (by omega) (by omega); have := ne_rt (r := r) (r' := r') (t := t) (k := 3) (j := 0) (by omega) (by omega) (by omega); omega), sChoose_keep (fun t ht => by have := ne_rt (r := r) (r' := r') (t := t) (k := 2) (j := 43) (by omega) (by omega) (by omega); have := ne_rt (r := r) (r' := r') (t := t) (k := 3) (j := 43) (by omega) (by omega) (by omega); omega)⟩)
    cases hq : (sChoose (sNew V) N r n).1 with
    | none =>
      have eW : sServeT c (sChoose (sNew V) N r n) N h z r = (-5, (sChoose (sNew V) N r n).2) := by
        unfold sServeT
        rw [hq]
      rw [eW] at fin ⊢
      rw [show oS (sNew V) r none = -1 from rfl, if_pos rfl]
      exact fin m1 0 c2 (cB.mono (by omega)) (show (-6 : Int32) ≤ -5 by decide) (fun _ => Or.inl rfl)
    | some t =>
      obtain ⟨ht, htc⟩ := sChoose_some hq
      obtain ⟨s, hs4, hsv⟩ := b4 t ht
      have esv : (sChoose (sNew V) N r n).2 (231 + 58 * r + 44 + 4 * t) = nI s := by rw [sChoose_keep (by omega), hsv]
      have htc2 : mAv (sNew V) (nI s) N ≠ 0 := by
        unfold tCand at htc
        rw [decide_eq_true_eq, hsv] at htc
        exact htc
      have eW : sServeT c (sChoose (sNew V) N r n) N h z r = sServe c (sChoose (sNew V) N r n).2 N s r h z := by
        unfold sServeT
        rw [hq]
        dsimp only
        rw [esv, n_nat (by omega)]
      have e65 : zf m1 65 (gQ g r) = if c = 1 then 1 else nI mo := by
        rw [(c2.2.1.2.2.2.1 r hr).2.2.2.1, sChoose_keep (by omega), mo3]
      have cne : mAv (sChoose (sNew V) N r n).2 (nI s) N ≠ 0 := by rw [mAv_congr (fun j hj => sChoose_keep (by omega)) N h12]; exact htc2
      obtain ⟨m2, T2, w1, w2, w3, w4, w5⟩ := c_serve (r := r) (h := h) (z := z) (mo := mo) (most := if c = 1 then 1 else nI mo) hf cL hs4 hr8 hh hz ⟨mo1, mo2⟩ rfl c2 cT cS cB (by omega) (by rw [sChoose_keep (by omega), mo3]) cne
      rw [eW] at fin ⊢
      have hans := sServe_ans (c := c) (r := r) hs4 hh hz cT cne
      rw [show oS (sNew V) r (some t) = nI s from hsv, if_neg (fun q => nI_pos (show s < 2 ^ 31 by omega) (by rw [q]; decide)), zl_s, hf.1.2.2.1, zin_8 hr8, zgd_t, c2.1.2.2.1 r hr8, zl_s, e65, w1, zb_s]
      dsimp only
      exact fin m2 T2 w2 w5 hans.1 hans.2
end CI

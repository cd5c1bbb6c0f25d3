/-! ===== calls: match, foresee, request ===== -/
theorem sAnswer_keep {c : Int32} {V : Nat → Int32} {N R B h z : Nat} (hI : InV V N R B) {ro : Option Nat} (hro : ∀ r, ro = some r → r < R) (hh : h < 10) (hz : z < 3) {j : Nat} (hj : kA j) (h6 : j < 697) : (sAnswer c V N h z ro).2 j = V j := by
  have h12 := hI.st.2.1
  have h8 := hI.2.1.2
  obtain ⟨kN, hIN⟩ := sNew_inv hI
  unfold sAnswer
  cases ro with
  | none =>
    dsimp only
    rw [uV_n (by omega), kN j h6]
  | some r =>
    have hr := hro r rfl
    have hr8 : r < 8 := by omega
    obtain ⟨⟨-, ⟨n, b1, b2, b3, b4⟩, -⟩, -⟩ := hIN.ra hr
    have hmn : (V (231 + 58 * r + 43)).toNatClampNeg = n := by rw [← kN _ (by omega), b3, n_nat (by omega)]
    dsimp only
    rw [hmn]
    unfold sAnsR
    dsimp only
    have kT := sServeT_keep (c := c) (h := h) (z := z) hIN hr b3 b2 hh hz hj
    generalize sServeT c (sChoose (sNew V) N r n) N h z r = W at *
    have e1 : sTally W j = V j := by
      unfold sTally
      have := sTal_c (w := W.1)
      rw [uV_n (by omega), kT, kN j h6]
    unfold sShadow
    split
    · exact e1
    · split
      · exact e1
      · rw [sMirror_all h12 (Or.inl hj), e1]
theorem RuK.ofA {V V' : Nat → Int32} {r : Nat} (hr : r < 8) (h : ∀ j, kA j → j < 697 → V' j = V j) : RuK V V' r r :=
  ⟨fun j hj => h _ (by unfold kA; omega) (by omega), fun t ht => ⟨h _ (by unfold kA; omega) (by omega), h _ (by unfold kA; omega) (by omega)⟩⟩
theorem RuK.trans {A V W : Nat → Int32} {r : Nat} (h1 : RuK A V r r) (h2 : RuK V W r r) : RuK A W r r :=
  ⟨fun j hj => (h2.1 j hj).trans (h1.1 j hj), fun t ht => ⟨(h2.2 t ht).1.trans (h1.2 t ht).1, (h2.2 t ht).2.trans (h1.2 t ht).2⟩⟩
theorem ro_eq {V V' T T' : Nat → Int32} {tn R : Nat} {h : Int32} (h8 : R ≤ 8) (hL : RuL V R) (hk : ∀ r, r < R → ∀ j, j < 43 → V' (231 + 58 * r + j) = V (231 + 58 * r + j)) (ht : ∀ k, k < tn → T' k = T k) : sFst (sFits V' T' tn h) R 0 = sFst (sFits V T tn h) R 0 :=
  sFst_congr R 0 (fun i _ h2 => sFits_congr (hL.2 i (by omega)).1 (hk i (by omega)) ht)
/-- what a request's arguments and text are refused with -/
def sErr (h z : Int32) (tn : Nat) (T : Nat → Int32) : Int32 := if 0 ≤ h ∧ h ≤ 9 then (if 0 ≤ z ∧ z ≤ 2 then (if sPath tn T = true then 0 else -7) else -2) else -2
theorem sErr_c {h z : Int32} {tn : Nat} {T : Nat → Int32} : (sErr h z tn T = 0 ∧ ∃ a b, a < 10 ∧ b < 3 ∧ h = nI a ∧ z = nI b) ∨ sErr h z tn T = -7 ∨ sErr h z tn T = -2 := by
  unfold sErr
  by_cases h1 : 0 ≤ h ∧ h ≤ 9
  · by_cases h2 : 0 ≤ z ∧ z ≤ 2
    · by_cases h3 : sPath tn T = true
      · obtain ⟨a, -, ha, e1⟩ := rng (lo := 0) (hi := 9) (by omega) (by omega) h1.1 h1.2
        obtain ⟨b, -, hb, e2⟩ := rng (lo := 0) (hi := 2) (by omega) (by omega) h2.1 h2.2
        exact Or.inl ⟨by rw [if_pos h1, if_pos h2, if_pos h3], a, b, by omega, by omega, e1, e2⟩
      · exact Or.inr (Or.inl (by rw [if_pos h1, if_pos h2, if_neg h3]))
    · exact Or.inr (Or.inr (by rw [if_pos h1, if_neg h2]))
  · exact Or.inr (Or.inr (by rw [if_neg h1]))
section RQ
variable {own : Nat → Nat} {P : zSt} {m m' : zM} {x y B B' u N R : Nat} {g : zGr} {V V' : Nat → Int32} {sv mk : Bool} {Vs Vm T Q : Nat → Int32} {tn pn k : Nat} {it : zIt}
theorem bIp : (bI (sPath tn T) = 0) = ¬ (sPath tn T = true) := by cases sPath tn T <;> simp [bI]
theorem c_reqErr {h z : Int32} (hT : bT own P m (zR P 185 x) tn T) : f_X10_requestError P x h z m = some (sErr h z tn T, m) := by
  obtain ⟨t1, t2, t3, t4, t5⟩ := hT
  unfold f_X10_requestError f_X10_requestError_b14 sErr
  simp only [c_isHeader, c_isZone, zb_s, zl_s, bIz, c_isPath t5 t4 t3, bIp]
  by_cases h1 : 0 ≤ h ∧ h ≤ 9
  · rw [ifn h1, if_pos h1]
    by_cases h2 : 0 ≤ z ∧ z ≤ 2
    · rw [ifn h2, if_pos h2]
      by_cases h3 : sPath tn T = true
      · rw [ifn h3, if_pos h3]
      · rw [if_pos h3, if_neg h3]
    · rw [if_pos h2, if_neg h2]
  · rw [if_pos h1, if_neg h1]
theorem bY.yt (h : bY own P m y V sv Vs mk Vm tn T pn Q k it) (htn : tn ≤ 40) (hT : ∀ j, j < tn → ∃ c, c < 128 ∧ T j = nI c) : YT P y m tn := ⟨h.2.2.2.2.2.2.1.1, htn, fun k hk => by rw [h.2.2.2.2.2.2.1.2]; exact hT k hk⟩
theorem r_refuses {h z : Int32} (hY : bY own P m y V sv Vs mk Vm tn T pn Q k it) (htn : tn ≤ 40) (hT : ∀ j, j < tn → ∃ c, c < 128 ∧ T j = nI c) : f_X11_refuses P y h z m = some (sErr h z tn T, m) := by
  have e := r_isPath (m := m) hY.1 (hY.yt htn hT)
  rw [hY.2.2.2.2.2.2.1.2] at e
  unfold f_X11_refuses f_X11_refuses_b19 sErr
  simp only [r_isIn, zb_s, bIz, e, bIp]
  by_cases h1 : 0 ≤ h ∧ h ≤ 9
  · rw [ifn h1, if_pos h1]
    by_cases h2 : 0 ≤ z ∧ z ≤ 2
    · rw [ifn h2, if_pos h2]
      by_cases h3 : sPath tn T = true
      · rw [ifn h3, if_pos h3]
      · rw [if_pos h3, if_neg h3]
    · rw [if_pos h2, if_neg h2]
  · rw [if_pos h1, if_neg h1]
theorem L_match {h : Int32} : Call own P x y (f_X10_match P x h) (f_X11_match P y h) := by
  apply Call.qry
  intro B m h0
  obtain ⟨hn, V, sv, Vs, mk, Vm, tn, T, pn, Q, k, it, hC, hY, hI⟩ := h0
  obtain ⟨g, N, R, Tt, hb⟩ := hC.1
  have ok := hY.1
  have hV := hY.2.2.2.1
  have hIn := hb.2.2.2.2.2
  have h8 := hIn.2.1.2
  have hbT := hC.2.2.2.2.2.1
  obtain ⟨t1, t2, t3, t4, t5⟩ := hbT
  have e := r_isPath (m := m) hY.1 (hY.yt t4 hI.1)
  rw [hY.2.2.2.2.2.2.1.2] at e
  have hfr : f_X1_findRule P (zR P 180 x) (zR P 185 x) h m = _ := c_findRule (h := h) (hb.1.mf hIn.st.2.1) hb.2.1 hb.2.2.1.2.2.2.1 hb.2.2.1.1.2.2.1 h8 (fun r hr => hIn.ra hr) t5 t4 t3
  have hro := r_ruleOf (m := m) ok (h := h) (tn := tn) (R := R) (by rw [hV]; exact hIn.ru) hY.2.2.2.2.2.2.1.1 t4
  rw [hV, hY.2.2.2.2.2.2.1.2] at hro
  unfold f_X10_match f_X11_match
  rw [c_reqErr hC.2.2.2.2.2.1, zb_s, r_isIn, zb_s, zl_s, zl_s, hfr]
  dsimp only
  rw [e]
  unfold sErr
  by_cases h1 : 0 ≤ h ∧ h ≤ 9
  · rw [if_pos h1, if_pos (show (0 : Int32) ≤ 0 ∧ (0 : Int32) ≤ 2 by decide), decide_eq_true h1, if_neg (show ¬ bI true = 0 by decide), zb_s, zb_s]
    dsimp only
    by_cases h3 : sPath tn T = true
    · rw [if_pos h3, if_pos rfl, h3, if_neg (by decide), hro, zb_s]
      exact ⟨_, rfl, rfl⟩
    · rw [if_neg h3, if_neg (by decide), show sPath tn T = false by cases hq : sPath tn T; rfl; exact absurd hq h3, if_pos bI_f]
      exact ⟨_, rfl, rfl⟩
  · rw [if_neg h1, if_neg (by decide), decide_eq_false h1, if_pos bI_f]
    exact ⟨_, rfl, rfl⟩
theorem bY.kept (h : bY own P m y V sv Vs mk Vm tn T pn Q k it) {X : Nat → Int32} : bY own P (wA m (zR P 203 y) X) y V sv Vs mk Vm tn T pn Q k it := by
  obtain ⟨h1, h2, h3, h4, ⟨h5, h5'⟩, ⟨h6, h6'⟩, ⟨h7, h7'⟩, ⟨h8, h8'⟩, ⟨h9, h9'⟩, h10, b, h11⟩ := h
  have e : ∀ j, j ∈ yRows → j ≠ 203 → za (wA m (zR P 203 y) X) (zR P j y) = za m (zR P j y) := fun j hj hn => za_wA_ne (yne h1 hj (by decide) hn)
  exact ⟨h1, h2, h3, by rw [e _ (by decide) (by decide)]; exact h4, ⟨h5, by rw [e _ (by decide) (by decide)]; exact h5'⟩, ⟨h6, by rw [e _ (by decide) (by decide)]; exact h6'⟩, ⟨h7, by rw [e _ (by decide) (by decide)]; exact h7'⟩, ⟨h8, fun i hi => by rw [e _ (by decide) (by decide)]; exact h8' i hi⟩, ⟨h9, fun i hi => (h9' i hi).sm (fun j => by rw [e _ (by decide) (by decide)]) (fun j => by rw [e _ (by decide) (by decide)])⟩, h10, b, h11⟩
/-- the row's numbers, another function of the same first numbers -/
theorem CX.cgV (h : CX own P m x V sv Vs mk Vm tn T pn Q k it B) (e : ∀ j, j < 723 → V' j = V j) : CX own P m x V' sv Vs mk Vm tn T pn Q k it B :=
  ⟨h.1.cgV e, h.2.1, h.2.2.1, h.2.2.2.1.off, h.2.2.2.2⟩
theorem bI'.cgV (h : bI' V mk Vm tn T pn k) (e : ∀ j, j < 723 → V' j = V j) : bI' V' mk Vm tn T pn k := by
  refine ⟨h.1, h.2.1, h.2.2.1, fun q => ?_⟩
  obtain ⟨q1, q2⟩ := h.2.2.2 q
  refine ⟨by rw [e _ (by omega)]; exact q1, fun r R h1 h2 h3 => (q2 r R (by rw [← e _ (by omega)]; exact h1) h2 h3).trans ?_⟩
  exact ⟨fun j hj => e _ (by omega), fun t ht => ⟨e _ (by omega), e _ (by omega)⟩⟩
theorem L_foresee {h z : Int32} : Call own P x y (f_X10_foresee P x h z) (f_X11_foresee P y h z) := by
  intro B m hB h0
  have hrel := h0.same
  obtain ⟨hn, V, sv, Vs, mk, Vm, tn, T, pn, Q, k, it, hC, hY, hI⟩ := h0
  obtain ⟨g, N, R, Tt, hb⟩ := hC.1
  obtain ⟨g', c1, c2, -⟩ := hC.2.2.2.1
  have ok := hY.1
  have o := ow hn
  have hIn := hb.2.2.2.2.2
  have h12 := hIn.st.2.1
  have h8 := hIn.2.1.2
  obtain ⟨t1, t2, t3, t4, t5⟩ := hC.2.2.2.2.2.1
  unfold f_X10_foresee f_X11_foresee
  rw [c_reqErr hC.2.2.2.2.2.1, zb_s]
  dsimp only
  rcases sErr_c (h := h) (z := z) (tn := tn) (T := T) with ⟨e0, a, b, ha, hbz, rfl, rfl⟩ | e0 | e0
  · obtain ⟨m1, k1, k2, k3, k4, k5⟩ := c_copy (c1.mf h12) (hb.1.mf h12) c1.2.2.1 (o 2 5 (by decide)) c2 hb.2.1 hb.2.2.1 hb.2.2.2.2.1 hIn
    have hC1 := hC.trial hn k5
    have hY1 := hY.sm (k5.z.sm (o 1 5 (by decide)))
    have hb1 := bMp.sm hb (k5.z.sm (o 2 5 (by decide)))
    have hfr : f_X1_findRule P (zR P 180 x) (zR P 185 x) (nI a) m1 = _ := c_findRule (h := nI a) (hb.1.mf hIn.st.2.1) hb1.2.1 hb1.2.2.1.2.2.2.1 hb1.2.2.1.1.2.2.1 h8 (fun r hr => hIn.ra hr) hC1.2.2.2.2.2.1.2.2.2.2 t4 t3
    obtain ⟨m2, T2, p1, p2, p3, p4, p5, p6, -, -⟩ := c_answer (h := a) (z := b) (c1.mf h12) k2 k3 hIn (by omega) (sFst (sFits V T tn (nI a)) R 0) (fun r hr => by have := (sFst_some hr).2.1; omega) ha hbz
    have hC2 := hC1.trial hn p6
    have hY2 := hY1.sm (p6.z.sm (o 1 5 (by decide)))
    rw [e0, if_pos rfl, zl_s, zl_s, k1, zb_s, zl_s, zl_s, zl_s, hfr, zb_s, p1, zb_s]
    dsimp only
    refine ⟨_, m2, _, rfl, ?_, hn, cpV (cpV V (za m2 (zR P 203 y)) 723) (sAnswer (-1) V N a b (sFst (sFits V T tn (nI a)) R 0)).2 723, sv, Vs, mk, Vm, tn, T, pn, Q, k, it, ((hC2.sm hn (Fo_wA (hY2.2.2.1 203 (by decide))).z).sm hn (Fo_wA (hY2.2.2.1 200 (by decide))).z |>.cgV ?_).mono (by omega), (hY2.kept (X := cpV V (za m2 (zR P 203 y)) 723)).wV, hI.cgV ?_⟩
    · have eV : za m2 (zR P 200 y) = V := hY2.2.2.2.1
      have hYk := hY2.kept (X := cpV V (za m2 (zR P 203 y)) 723)
      have eK : za (wA m2 (zR P 203 y) (cpV V (za m2 (zR P 203 y)) 723)) (zR P 200 y) = V := hYk.2.2.2.1
      have hans := r_answers (m := wA m2 (zR P 203 y) (cpV V (za m2 (zR P 203 y)) 723)) ok (c := -1) (N := N) (R := R) (tn := tn) (h := a) (z := b) hYk.2.2.2.2.2.2.2.2.2.1 ha hbz (by rw [eK]; exact hIn.st) (by rw [eK]; exact hIn.ru) hYk.2.2.2.2.2.2.1.1 t4 (yne ok (by decide) (by decide) (by decide))
      rw [eK, hYk.2.2.2.2.2.2.1.2, ro_eq h8 hIn.ru.l (fun r hr j hj => sNew_keep (by omega)) (fun _ _ => rfl)] at hans
      rw [r_refuses hY2 t4 hI.1, zb_s]
      dsimp only
      rw [e0, if_pos (by decide), zl_s, zl_s, r_copies (yne ok (by decide) (by decide) (by decide)) ok.1 ok.2.2.2.1, zb_s]
      dsimp only
      rw [eV, hans, zb_s, zl_s, zl_s]
      dsimp only
      rw [r_copies (yne ok (by decide) (by decide) (by decide)) ok.2.2.2.1 ok.1, zb_s, za_wA, za_wA_ne (yne ok (by decide) (by decide) (by decide)), za_wA, wA_wA]
    · intro j hj
      rw [cpV_lt hj, cpV_lt hj]
    · intro j hj
      rw [cpV_lt hj, cpV_lt hj]
  · rw [e0, if_neg (by decide)]
    exact ⟨_, m, m, rfl, by rw [r_refuses hY t4 hI.1, zb_s, e0]; rfl, hrel⟩
  · rw [e0, if_neg (by decide)]
    exact ⟨_, m, m, rfl, by rw [r_refuses hY t4 hI.1, zb_s, e0]; rfl, hrel⟩
end RQ

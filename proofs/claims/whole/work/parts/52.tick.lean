/-! ===== calls: request, tick ===== -/
section RT
variable {own : Nat → Nat} {P : zSt} {m m' : zM} {x y B B' u N R rc : Nat} {g : zGr} {V V' : Nat → Int32} {sv mk : Bool} {Vs Vm T Q : Nat → Int32} {tn pn k : Nat} {it : zIt}
theorem c_clearT {t : Nat} : f_X7_clear P t m = some (0, zfp m 141 t 0) := by
  unfold f_X7_clear
  rw [zl_s]
theorem bT.clr {t n : Nat} {w : Nat → Int32} (h : bT own P m t n w) : bT own P (zfp m 141 t 0) t 0 w ∧ Fz own t m (zfp m 141 t 0) :=
  ⟨⟨h.1, h.2.1, h.2.2.1, by omega, zf_eq, by intro k hk; omega⟩, (Fo.zfp h.1).z⟩
theorem RuL.ofK (h : RuL V R) (h2 : ∀ r, r < R → RuK Vm V r r) : RuL Vm R := ⟨h.1, fun r hr => by
  obtain ⟨q1, q2⟩ := h.2 r hr
  have e0 := (h2 r hr).1 0 (by omega)
  have e43 := (h2 r hr).1 43 (by omega)
  rw [show 231 + 58 * r + 0 = 231 + 58 * r from rfl] at e0
  rw [e0] at q1
  rw [e43] at q2
  exact ⟨q1, q2⟩⟩
theorem L_request {h z : Int32} : Call own P x y (f_X10_request P x h z) (f_X11_request P y h z) := by
  intro B m hB h0
  obtain ⟨hn, V, sv, Vs, mk, Vm, tn, T, pn, Q, k, it, hC, hY, hI⟩ := h0
  obtain ⟨g, N, R, Tt, hb⟩ := hC.1
  have ok := hY.1
  have o := ow hn
  have hIn := hb.2.2.2.2.2
  have h12 := hIn.st.2.1
  have h8 := hIn.2.1.2
  have hbt := hC.2.2.2.2.2.1
  obtain ⟨t1, t2, t3, t4, t5⟩ := hbt
  obtain ⟨c1, c2⟩ := hC.2.2.2.2.2.1.clr
  have hC1 := hC.txt hn c2 c1
  have hY1 := hY.sm (c2.sm (o 1 7 (by decide)))
  unfold f_X10_request f_X10_request_b27 f_X11_request
  rw [c_reqErr hC.2.2.2.2.2.1, zb_s, zl_s, zl_s]
  dsimp only
  rcases sErr_c (h := h) (z := z) (tn := tn) (T := T) with ⟨e0, a, b, ha, hbz, rfl, rfl⟩ | e0 | e0
  · have hfr : f_X1_findRule P (zR P 180 x) (zR P 185 x) (nI a) m = _ := c_findRule (h := nI a) (hb.1.mf hIn.st.2.1) hb.2.1 hb.2.2.1.2.2.2.1 hb.2.2.1.1.2.2.1 h8 (fun r hr => hIn.ra hr) t5 t4 t3
    rw [e0, if_pos rfl, hfr, zb_s, zl_s, c_clearT, zb_s]
    dsimp only
    rw [if_pos rfl, zl_s]
    have hb1 := bMp.sm hb (c2.sm (o 2 7 (by decide)))
    generalize zfp m 141 (zR P 185 x) 0 = m1 at *
    have hro : ∀ r, sFst (sFits V T tn (nI a)) R 0 = some r → r < R := fun r hr => by have := (sFst_some hr).2.1; omega
    obtain ⟨m2, T2, p1, p2, p3, p4, p5, p6, p7, p8⟩ := c_answer (h := a) (z := b) (hb.1.mf h12) hb1.2.1 hb1.2.2.1 hIn (by omega) (sFst (sFits V T tn (nI a)) R 0) hro ha hbz
    have kp := fun j (q1 : kA j) (q2 : j < 697) => sAnswer_keep (c := -1) (h := a) (z := b) hIn hro ha hbz q1 q2
    rw [p1, zb_s, zl_s]
    dsimp only
    generalize hA : sAnswer (-1) V N a b (sFst (sFits V T tn (nI a)) R 0) = A at *
    have hb2 : bM own P m2 (zR P 180 x) A.2 (B + 5) := ⟨g, N, R, T2, hb.1, p2, p3, p4, by rw [p7, hb1.2.2.2.2.1, p8], p5⟩
    have hC2 := hC1.main hn p6.z hb2 (by omega)
    have hY2 := hY1.sm (p6.z.sm (o 1 2 (by decide)))
    obtain ⟨m3, r1, r2, r3⟩ := c_addReq (ro := sFst (sFits V T tn (nI a)) R 0) (hh := a) (zz := b) (a := A.1) hC2.2.2.2.2.1 hI.2.1 hI.2.2.1
    have hY3 := hY2.sm (r2.sm (o 1 6 (by decide)))
    rw [r1, zb_s]
    have eV : za m3 (zR P 200 y) = V := hY3.2.2.2.1
    have hans := r_answers (m := m3) ok (c := -1) (N := N) (R := R) (tn := tn) (h := a) (z := b) hY3.2.2.2.2.2.2.2.2.2.1 ha hbz (by rw [eV]; exact hIn.st) (by rw [eV]; exact hIn.ru) hY3.2.2.2.2.2.2.1.1 t4 (yne ok (by decide) (by decide) (by decide))
    rw [eV, hY3.2.2.2.2.2.2.1.2, ro_eq h8 hIn.ru.l (fun r hr j hj => sNew_keep (by omega)) (fun _ _ => rfl), hA] at hans
    have hRK : mk = true → ∀ r, r < R → RuK Vm V r r := fun q r hr => (hI.2.2.2 q).2 r R hIn.2.1.1 h8 hr
    obtain ⟨m4, s1, s2, s3⟩ := r_addReq (m := wA m3 (yv P y) A.2) (ro := sFst (sFits V T tn (nI a)) R 0) (h := a) (z := b) (w := A.1) hY3.wV t4 hI.2.1 hI.2.2.1 ha hbz (fun q => ⟨R, h8, by rw [← (hI.2.2.2 q).1]; exact hIn.2.1.1, hIn.ru.l.ofK (hRK q), ro_eq h8 hIn.ru.l (fun r hr j hj => ((hRK q r hr).1 j (by omega)).symm) (fun _ _ => rfl)⟩)
    have f4 : Fz own y m3 m4 := (Fo_wA (hY3.2.2.1 200 (by decide))).z.trans s2
    have e230 : A.2 230 = V 230 := kp 230 (by unfold kA; omega) (by omega)
    have fin : ∀ mk' k' it', (mk' = mk ∨ mk' = false) → k' ≤ 60 → (mk' = false → k' = 0) → bR own P m3 (zR P 184 x) mk' k' it' → bY own P m4 y A.2 sv Vs mk' Vm 0 T pn Q k' it' → REL own P x y (B + 5) m4 := fun mk' k' it' h1 h2 h3 h4 h5 =>
      ⟨hn, A.2, sv, Vs, mk', Vm, 0, T, pn, Q, k', it', (hC2.rec hn r2 h4 h1).sm hn f4, h5, by intro j hj; omega, h2, h3, fun q => by
        have hmk : mk = true := by
          rcases h1 with h1 | h1
          · rw [← h1]
            exact q
          · rw [h1] at q
            cases q
        refine ⟨by rw [e230]; exact (hI.2.2.2 hmk).1, fun r R' q1 q2 q3 => ?_⟩
        exact ((hI.2.2.2 hmk).2 r R' (by rw [← e230]; exact q1) q2 q3).trans (RuK.ofA (by omega) kp)⟩
    refine ⟨A.1, m3, m4, rfl, ?_, ?_⟩
    · rw [r_refuses hY3 t4 hI.1, zb_s]
      dsimp only
      rw [e0, if_pos (by decide), hans, zb_s]
      exact s1
    · rcases r3 with ⟨q1, q2, q3⟩ | ⟨q1, q3⟩
      · rcases s3 with ⟨-, -, q4⟩ | ⟨q4, -⟩
        · exact fin _ _ _ (Or.inl q1.symm) (by omega) (fun q => by cases q) q3 q4
        · exact absurd ⟨q1, q2⟩ q4
      · rcases s3 with ⟨q4, q5, -⟩ | ⟨-, q4⟩
        · exact absurd ⟨q4, q5⟩ q1
        · exact fin _ _ _ (Or.inr rfl) (by omega) (fun _ => rfl) q3 q4
  all_goals
    rw [e0, if_neg (by decide), zl_s, c_clearT, zb_s]
    dsimp only
    rw [if_neg (by decide)]
    refine ⟨_, _, _, rfl, ?_, hn, V, sv, Vs, mk, Vm, 0, T, pn, Q, k, it, ((hC1.sm hn hY1.clr.2.z).mono (by omega)), hY1.clr.1, by intro j hj; omega, hI.2⟩
    rw [r_refuses hY1 t4 hI.1, zb_s, e0]
    dsimp only
    rw [if_neg (by decide), zl_s]
def tkV (N : Nat) (V : Nat → Int32) : Nat → (Nat → Int32)
  | 0 => V
  | k + 1 => sTk (tkV N V k) N
theorem tkV_inv (h : InV V N R B) (hB : B < 1000000) : ∀ k, InV (tkV N V k) N R B := by
  intro k
  induction k with
  | zero => exact h
  | succ k ih => exact sTk_inv ih hB
theorem tkV_keep (h12 : N ≤ 12) {j : Nat} (h1 : kA j ∨ j = 697 ∨ j = 706 ∨ (706 ≤ j)) (h2 : j ≠ 705) : ∀ k, tkV N V k j = V j := by
  intro k
  induction k with
  | zero => rfl
  | succ k ih =>
    show sTk (tkV N V k) N j = V j
    rw [sTk_keep (fun i hi q => ?_) h2, ih]
    rcases h1 with h1 | h1 | h1 | h1
    · have := h1.1
      omega
    · omega
    · omega
    · omega
theorem c_tick_l (hf : Mf own P (zR P 180 x) g N) (hI : InV V N R B) (hB : B < 1000000) {n : Nat} (hn : n ≤ 50) : ∀ d j fu (m : zM), j + d = n → d < fu → GM P m (zR P 180 x) g → Pic P m (zR P 180 x) g N R (-1) (tkV N V j) →
    ∃ m', f_X10_tick_b15 P fu x (nI n) (nI j) m = (zb (f_X2_addTicks P (zR P 184 x) (nI n) m') fun _ m38 => some (zf m38 26 (zR P 180 x), m38)) ∧ GM P m' (zR P 180 x) g ∧ Pic P m' (zR P 180 x) g N R (-1) (tkV N V n) ∧ Fp (fun f a => (f = 10 ∨ f = 26) ∧ own a = zR P 180 x) (fun _ _ => False) m m' := by
  intro d
  induction d with
  | zero =>
    intro j fu m hj hfu h1 h2
    obtain ⟨fu, rfl⟩ : ∃ f, fu = f + 1 := ⟨fu - 1, by omega⟩
    have : j = n := by omega
    subst this
    unfold f_X10_tick_b15
    rw [if_pos (Int32.le_refl _), zl_s]
    exact ⟨m, rfl, h1, h2, Fp.rfl'⟩
  | succ d ih =>
    intro j fu m hj hfu h1 h2
    obtain ⟨fu, rfl⟩ : ∃ f, fu = f + 1 := ⟨fu - 1, by omega⟩
    have hIj := tkV_inv hI hB j
    obtain ⟨m1, q1, q2, q3, q4⟩ := c_passTick hf hIj.ru.l hIj.bd hB h1 h2
    unfold f_X10_tick_b15
    rw [if_neg (by rw [n_le (by omega) (by omega)]; omega), zl_s, q1, zb_s, zl_s, nI_1]
    obtain ⟨m2, r1, r2, r3, r4⟩ := ih (j + 1) fu m1 (by omega) (by omega) q2 q3
    exact ⟨m2, r1, r2, r3, q4.trans r4⟩
theorem bY.tk (h : bY own P m y V sv Vs true Vm tn T pn Q k it) (hk : k < 60) (hit : it k = none) (hR : ∃ R, R ≤ 8 ∧ Vm 230 = nI R ∧ RuL Vm R) : bY own P (zfp (zap m (zR P 208 y) (4 * k) (-1)) 210 y (nI (k + 1))) y V sv Vs true Vm tn T pn Q (k + 1) it ∧ Fz own y m (zfp (zap m (zR P 208 y) (4 * k) (-1)) 210 y (nI (k + 1))) := by
  obtain ⟨h1, h2, h3, h4, ⟨h5, h5'⟩, ⟨h6, h6'⟩, ⟨h7, h7'⟩, ⟨h8, h8'⟩, ⟨h9, h9'⟩, h10, b, h11⟩ := h
  have e : ∀ f, f ≠ 210 → zf (zfp (zap m (zR P 208 y) (4 * k) (-1)) 210 y (nI (k + 1))) f y = zf m f y := fun f a => by
    rw [zf_ne (Or.inl a)]
    rfl
  have ea : ∀ j, j ∈ yRows → j ≠ 208 → za (zfp (zap m (zR P 208 y) (4 * k) (-1)) 210 y (nI (k + 1))) (zR P j y) = za m (zR P j y) := fun j hj hn => by
    funext i
    exact za_ne (Or.inl (yne h1 hj (by decide) hn))
  refine ⟨⟨h1, h2, h3, by rw [ea _ (by decide) (by decide)]; exact h4, ⟨by rw [e _ (by decide)]; exact h5, by rw [ea _ (by decide) (by decide)]; exact h5'⟩, ⟨by rw [e _ (by decide)]; exact h6, by rw [ea _ (by decide) (by decide)]; exact h6'⟩, ⟨by rw [e _ (by decide)]; exact h7, by rw [ea _ (by decide) (by decide)]; exact h7'⟩, ⟨by rw [e _ (by decide)]; exact h8, fun i hi => by rw [ea _ (by decide) (by decide)]; exact h8' i hi⟩, ⟨zf_eq, fun i hi => ?_⟩, by rw [e _ (by decide)]; exact h10, b, by rw [e _ (by decide)]; exact h11⟩, ((Fo.zap (h3 208 (by decide))).trans (Fo.zfp h2)).z⟩
  by_cases ei : i = k
  · subst ei
    rw [hit]
    show za (zap m (zR P 208 y) (4 * i) (-1)) (zR P 208 y) (4 * i) = -1
    rw [za_eq]
  · exact (h9' i (by omega)).to hR (fun j a c => by
      show za (zap m (zR P 208 y) (4 * k) (-1)) (zR P 208 y) j = _
      rw [za_ne (Or.inr (by omega))]) (fun j hj => by rw [ea 209 (by decide) (by decide)])
theorem r_tick_l (hI : InV V N R B) (hB : B < 1000000) {n : Nat} (hn : n ≤ 50) (hkn : mk = true → k + n ≤ 60) (hR : mk = true → ∃ R, R ≤ 8 ∧ Vm 230 = nI R ∧ RuL Vm R) : ∀ d j fu (m : zM), j + d = n → d < fu → bY own P m y (tkV N V j) sv Vs mk Vm tn T pn Q (if mk = true then k + j else 0) (itT it k) →
    ∃ m', f_X11_tick_b37 P fu y (nI n) (nI j) m = some (tkV N V n 705, m') ∧ bY own P m' y (tkV N V n) sv Vs mk Vm tn T pn Q (if mk = true then k + n else 0) (itT it k) ∧ Fz own y m m' := by
  intro d
  induction d with
  | zero =>
    intro j fu m hj hfu hY
    obtain ⟨fu, rfl⟩ : ∃ f, fu = f + 1 := ⟨fu - 1, by omega⟩
    have : j = n := by omega
    subst this
    have ok := hY.1
    have eV : za m (zR P 200 y) = tkV N V j := hY.2.2.2.1
    unfold f_X11_tick_b37
    rw [if_pos (Int32.le_refl _), zl_s, ok.1, show zin (705 : Int32) 723 = true by decide, zgd_t, show (705 : Int32).toNatClampNeg = 705 by decide, eV]
    exact ⟨m, rfl, hY, ⟨fun _ _ _ => rfl, fun _ _ _ => rfl, fun _ _ _ => rfl⟩⟩
  | succ d ih =>
    intro j fu m hj hfu hY
    obtain ⟨fu, rfl⟩ : ∃ f, fu = f + 1 := ⟨fu - 1, by omega⟩
    have ok := hY.1
    have eV : za m (yv P y) = tkV N V j := hY.2.2.2.1
    have hIj := tkV_inv hI hB j
    have ht := r_ticks (m := m) ok (N := N) (by rw [eV]; exact hIj.st.1) hIj.st.2.1
    rw [eV] at ht
    have hY1 : bY own P (wA m (yv P y) (tkV N V (j + 1))) y (tkV N V (j + 1)) sv Vs mk Vm tn T pn Q (if mk = true then k + j else 0) (itT it k) := hY.wV
    have f1 : Fz own y m (wA m (yv P y) (tkV N V (j + 1))) := (Fo_wA (hY.2.2.1 200 (by decide))).z
    unfold f_X11_tick_b37
    rw [if_neg (by rw [n_le (by omega) (by omega)]; omega), ht, zb_s]
    dsimp only
    have em : wA m (yv P y) (sTick (uV (tkV N V j) 705 (tkV N V j 705 + 1)) N) = wA m (yv P y) (tkV N V (j + 1)) := rfl
    rw [em]
    generalize wA m (yv P y) (tkV N V (j + 1)) = m1 at *
    have e205 := hY1.2.2.2.2.2.1.1
    cases mk with
    | false =>
      rw [if_pos (show zf m1 205 y = 0 from e205)]
      unfold f_X11_tick_b78
      rw [zl_s, nI_1]
      obtain ⟨m2, q1, q2, q3⟩ := ih (j + 1) fu m1 (by omega) (by omega) hY1
      exact ⟨m2, q1, q2, f1.trans q3⟩
    | true =>
      have hkn' := hkn rfl
      rw [if_pos rfl] at hY1
      have e210 := hY1.2.2.2.2.2.2.2.2.1.1
      have e1 : (4 : Int32) * nI (k + j) = nI (4 * (k + j)) := by simp only [nlit, n_mul]
      have e210' : zf (zap m1 (zR P 208 y) (4 * (k + j)) (-1)) 210 y = nI (k + j) := e210
      rw [if_neg (show ¬ zf m1 205 y = 0 by rw [e205]; decide), zl_s, e210, e1, ok.2.2.2.2.2.1, zin_n (by omega) (by omega), zgd_t, n_nat (by omega), zl_s, e210', nI_1, zl_s]
      unfold f_X11_tick_b78
      rw [zl_s, nI_1]
      obtain ⟨b1, b2⟩ := hY1.tk (by omega) (by unfold itT; rw [if_neg (by omega)]) (hR rfl)
      obtain ⟨m2, q1, q2, q3⟩ := ih (j + 1) fu _ (by omega) (by omega) (by rw [if_pos rfl]; exact b1)
      exact ⟨m2, q1, q2, (f1.trans b2).trans q3⟩
theorem bY.itc {it' : zIt} (h : bY own P m y V sv Vs mk Vm tn T pn Q k it) (e : ∀ i, i < k → it' i = it i) : bY own P m y V sv Vs mk Vm tn T pn Q k it' := by
  obtain ⟨h1, h2, h3, h4, h5, h6, h7, h8, ⟨h9, h9'⟩, h10⟩ := h
  exact ⟨h1, h2, h3, h4, h5, h6, h7, h8, ⟨h9, fun i hi => by rw [e i hi]; exact h9' i hi⟩, h10⟩
theorem bR.itc {it' : zIt} (h : bR own P m rc mk k it) (e : ∀ i, i < k → it' i = it i) : bR own P m rc mk k it' := by
  obtain ⟨h1, h2, h3, h4, h5, h6⟩ := h
  exact ⟨h1, h2, h3, h4, h5, fun i hi => by rw [e i hi]; exact h6 i hi⟩
theorem L_tick {w : Int32} : Call own P x y (f_X10_tick P x w) (f_X11_tick P y w) := by
  intro B m hB h0
  have hrel := h0.same
  obtain ⟨hn, V, sv, Vs, mk, Vm, tn, T, pn, Q, k, it, hC, hY, hI⟩ := h0
  obtain ⟨g, N, R, Tt, hb⟩ := hC.1
  have ok := hY.1
  have o := ow hn
  have hIn := hb.2.2.2.2.2
  have h12 := hIn.st.2.1
  have h8 := hIn.2.1.2
  unfold f_X10_tick f_X11_tick f_X11_tick_b35
  rw [c_isWithin, zb_s]
  dsimp only
  by_cases h1 : 1 ≤ w ∧ w ≤ 50
  · obtain ⟨n, hn1, hn2, rfl⟩ := rng (lo := 1) (hi := 50) (by omega) (by omega) h1.1 h1.2
    rw [decide_eq_true h1, if_neg (by decide)]
    obtain ⟨m1, p1, p2, p3, p4⟩ := c_tick_l (hb.1.mf h12) hIn (by omega) hn2 n 0 zfuel m (by omega) (by unfold zfuel; omega) hb.2.1 hb.2.2.1
    have p1' : f_X10_tick_b15 P zfuel x (nI n) 0 m = _ := p1
    have f1 : Fo own (zR P 180 x) m m1 := p4.fo (fun _ _ q => q.2) (fun _ _ q => q.elim)
    have e27 : zf m1 27 (zR P 180 x) = V 697 := by rw [p4.2.1 _ _ (fun q => by rcases q.1 with q | q <;> omega)]; exact hb.2.2.2.2.1
    have e26 : zf m1 26 (zR P 180 x) = tkV N V n 705 := p3.1.2.2.2.2.2.1
    have hx1 : PicX P m1 (zR P 180 x) g Tt (tkV N V n) := by
      have hT := hb.2.2.2.1.2.1
      exact hb.2.2.2.1.cg (p4.2.1 _ _ (fun q => by rcases q.1 with q | q <;> omega)) (fun i k _ _ => p4.2.2 _ _ (fun q => q)) (tkV_keep h12 (by omega) (by omega) n) (fun i k hi hk => tkV_keep h12 (by omega) (by omega) n)
    have hb1 : bM own P m1 (zR P 180 x) (tkV N V n) B := ⟨g, N, R, Tt, hb.1, p2, p3, hx1, by rw [e27, tkV_keep h12 (by omega) (by omega) n], tkV_inv hIn (by omega) n⟩
    have hC1 := hC.main hn f1.z hb1 (Nat.le_refl B)
    have hY1 := hY.sm (f1.z.sm (o 1 2 (by decide)))
    obtain ⟨m2, r1, r2, r3⟩ := c_addTicks hC1.2.2.2.2.1 hI.2.1 hI.2.2.1 hn2
    have hY2 := hY1.sm (r2.sm (o 1 6 (by decide)))
    have e26' : zf m2 26 (zR P 180 x) = tkV N V n 705 := by rw [r2.2.1 _ _ (by rw [hb.1.ou]; exact o 2 6 (by decide)), e26]
    have e205 := hY2.2.2.2.2.2.1.1
    have e210 := hY2.2.2.2.2.2.2.2.2.1.1
    rw [p1', r1, zb_s]
    dsimp only
    rw [e26']
    have kp : ∀ j, kA j → j < 697 → tkV N V n j = V j := fun j q1 q2 => tkV_keep h12 (Or.inl q1) (by omega) n
    have e230 : tkV N V n 230 = V 230 := kp 230 (by unfold kA; omega) (by omega)
    have hRK : mk = true → ∀ r, r < R → RuK Vm V r r := fun q r hr => (hI.2.2.2 q).2 r R hIn.2.1.1 h8 hr
    have hRL : mk = true → ∃ R, R ≤ 8 ∧ Vm 230 = nI R ∧ RuL Vm R := fun q => ⟨R, h8, by rw [← (hI.2.2.2 q).1]; exact hIn.2.1.1, hIn.ru.l.ofK (hRK q)⟩
    have fin : ∀ m4 mk' k' it', (mk' = mk ∨ mk' = false) → k' ≤ 60 → (mk' = false → k' = 0) → bR own P m2 (zR P 184 x) mk' k' it' → Fz own y m2 m4 → bY own P m4 y (tkV N V n) sv Vs mk' Vm tn T pn Q k' it' → REL own P x y (B + 5) m4 := fun m4 mk' k' it' h1 h2 h3 h4 f4 h5 =>
      ⟨hn, tkV N V n, sv, Vs, mk', Vm, tn, T, pn, Q, k', it', ((hC1.rec hn r2 h4 h1).sm hn f4).mono (by omega), h5, hI.1, h2, h3, fun q => by
        have hmk : mk = true := by
          rcases h1 with h1 | h1
          · rw [← h1]
            exact q
          · rw [h1] at q
            cases q
        refine ⟨by rw [e230]; exact (hI.2.2.2 hmk).1, fun r R' q1 q2 q3 => ?_⟩
        exact ((hI.2.2.2 hmk).2 r R' (by rw [← e230]; exact q1) q2 q3).trans (RuK.ofA (by omega) kp)⟩
    cases mk with
    | false =>
      have hk0 := hI.2.2.1 rfl
      have hYs : bY own P m2 y (tkV N V 0) sv Vs false Vm tn T pn Q (if false = true then k + 0 else 0) (itT it k) := by
        rw [if_neg (by decide)]
        rw [hk0] at hY2 ⊢
        exact hY2.itc (by intro i hi; omega)
      obtain ⟨m4, s1, s2, s3⟩ := r_tick_l hIn (by omega) hn2 (fun q => by cases q) (fun q => by cases q) n 0 zfuel m2 (by omega) (by unfold zfuel; omega) hYs
      have s1' : f_X11_tick_b37 P zfuel y (nI n) 0 m2 = _ := s1
      rw [if_neg (by decide)] at s2
      refine ⟨_, m2, m4, rfl, ?_, ?_⟩
      · rw [r_isIn, zb_s]
        dsimp only
        rw [decide_eq_true h1, if_neg (by decide), if_pos (show zf m2 205 y = 0 from e205), s1']
      · rcases r3 with ⟨q1, -, -⟩ | ⟨-, q3⟩
        · cases q1
        · exact fin m4 false 0 (itT it k) (Or.inr rfl) (by omega) (fun _ => rfl) (q3.itc (by intro i hi; omega)) s3 s2
    | true =>
      have e0 : ¬ zf m2 205 y = 0 := by rw [e205]; decide
      have hk60 := hI.2.1
      by_cases h6 : k + n ≤ 60
      · have hYs : bY own P m2 y (tkV N V 0) sv Vs true Vm tn T pn Q (if true = true then k + 0 else 0) (itT it k) := by
          rw [if_pos rfl]
          exact hY2.itc (fun i hi => by unfold itT; rw [if_pos (by omega)])
        obtain ⟨m4, s1, s2, s3⟩ := r_tick_l hIn (by omega) hn2 (fun _ => h6) hRL n 0 zfuel m2 (by omega) (by unfold zfuel; omega) hYs
        have s1' : f_X11_tick_b37 P zfuel y (nI n) 0 m2 = _ := s1
        rw [if_pos rfl] at s2
        refine ⟨_, m2, m4, rfl, ?_, ?_⟩
        · rw [r_isIn, zb_s]
          dsimp only
          rw [decide_eq_true h1, if_neg (by decide), if_neg e0, e210, n_add, if_pos (show nI (k + n) ≤ 60 from (n_le (b := 60) (by omega) (by omega)).mpr h6), s1']
        · rcases r3 with ⟨-, -, q3⟩ | ⟨q3, -⟩
          · exact fin m4 true (k + n) (itT it k) (Or.inl rfl) h6 (fun q => by cases q) q3 s3 s2
          · exact absurd ⟨rfl, h6⟩ q3
      · have hY3 := hY2.stop
        have f3 : Fz own y m2 (zfp (zfp m2 205 y 0) 210 y 0) := ((Fo.zfp hY2.2.1).trans (Fo.zfp hY2.2.1)).z
        have hYs : bY own P (zfp (zfp m2 205 y 0) 210 y 0) y (tkV N V 0) sv Vs false Vm tn T pn Q (if false = true then k + 0 else 0) (itT it k) := by
          rw [if_neg (by decide)]
          exact hY3.itc (by intro i hi; omega)
        obtain ⟨m4, s1, s2, s3⟩ := r_tick_l hIn (by omega) hn2 (fun q => by cases q) (fun q => by cases q) n 0 zfuel _ (by omega) (by unfold zfuel; omega) hYs
        have s1' : f_X11_tick_b37 P zfuel y (nI n) 0 (zfp (zfp m2 205 y 0) 210 y 0) = _ := s1
        rw [if_neg (by decide)] at s2
        refine ⟨_, m2, m4, rfl, ?_, ?_⟩
        · rw [r_isIn, zb_s]
          dsimp only
          rw [decide_eq_true h1, if_neg (by decide), if_neg e0, e210, n_add, if_neg (show ¬ nI (k + n) ≤ 60 from fun q => h6 ((n_le (b := 60) (by omega) (by omega)).mp q)), r_changes, zb_s, s1']
        · rcases r3 with ⟨-, q1, -⟩ | ⟨-, q3⟩
          · exact absurd q1 h6
          · exact fin m4 false 0 (itT it k) (Or.inr rfl) (by omega) (fun _ => rfl) (q3.itc (by intro i hi; omega)) (f3.trans s3) s2
  · rw [decide_eq_false h1, if_pos bI_f]
    refine ⟨-2, m, m, rfl, ?_, hrel⟩
    rw [r_isIn, zb_s]
    dsimp only
    rw [decide_eq_false h1, if_pos bI_f]
end RT

/-! ===== calls: play, answeredIf: both ===== -/
section PZ
variable {own : Nat → Nat} {P : zSt} {m m' m0 m1 : zM} {x y B B' u N R rc : Nat} {g : zGr} {V V' V0 W : Nat → Int32} {sv mk : Bool} {Vs Vm T Q : Nat → Int32} {tn pn k : Nat} {it : zIt} {c : Int32}
theorem Fq.sm {w v : Nat} (f : Fq own u w m m') (h1 : v ≠ u) (h2 : own w ≠ v) : Sm own v m m' :=
  ⟨fun a i _ => by unfold zr; rw [f.1], fun g a q => f.2.1 g a (by rw [q]; exact h1), fun a i q => f.2.2 a i (by rw [q]; exact h1) (fun e => h2 (by rw [← e]; exact q))⟩
theorem CX.fq (hn : (owners P x y).Nodup) (h : CX own P m x V sv Vs mk Vm tn T pn Q k it B) (f : Fq own (zR P 183 x) (zR P 44 (zR P 184 x)) m m') : CX own P m' x V sv Vs mk Vm tn T pn Q k it B := by
  have o := ow hn
  obtain ⟨h1, h2, h3, ⟨g, a1, a2, -⟩, h5, h6, h7, h8, h9⟩ := h
  have ow44 : own (zR P 44 (zR P 184 x)) = zR P 184 x := (h5.2.1 44 (by omega) (by omega)).1
  have s : ∀ v, v ≠ zR P 183 x → zR P 184 x ≠ v → Sm own v m m' := fun v q1 q2 => f.sm q1 (by rw [ow44]; exact q2)
  exact ⟨h1.sm (s _ (o 2 5 (by decide)) (o 6 2 (by decide))), h2.sm (s _ (o 3 5 (by decide)) (o 6 3 (by decide))), h3.sm (s _ (o 4 5 (by decide)) (o 6 4 (by decide))), ⟨g, a1, a2.to f.1, fun q => by cases q⟩, h5.q (o 6 5 (by decide)) f, h6.sm (s _ (o 7 5 (by decide)) (o 6 7 (by decide))), h7.sm (s _ (o 8 5 (by decide)) (o 6 8 (by decide))), h8.sm (s _ (o 9 5 (by decide)) (o 6 9 (by decide))), h9.sm (s _ (o 0 5 (by decide)) (o 6 0 (by decide)))⟩
theorem CX.cgT (h : CX own P m x V sv Vs mk Vm tn T pn Q k it B) {T' : Nat → Int32} (e : ∀ j, j < tn → T' j = T j) : CX own P m x V sv Vs mk Vm tn T' pn Q k it B := by
  obtain ⟨h1, h2, h3, h4, h5, ⟨t1, t2, t3, t4, t5, t6⟩, h7⟩ := h
  exact ⟨h1, h2, h3, h4, h5, ⟨t1, t2, t3, t4, t5, fun i hi => by rw [t6 i hi, e i hi]⟩, h7⟩
theorem bY.pl (h : bY own P m y V sv Vs mk Vm tn T pn Q k it) (f : Fp (fun g a => (g = 207 ∨ g = 216) ∧ a = y) (fun a _ => a = zR P 200 y ∨ a = zR P 203 y ∨ a = zR P 206 y ∨ a = zR P 217 y) m m') (h200 : za m' (zR P 200 y) = V') (h207 : zf m' 207 y = nI tn) (h216 : zf m' 216 y = -1) : bY own P m' y V' sv Vs mk Vm tn (za m' (zR P 206 y)) pn Q k it ∧ Fo own y m m' := by
  obtain ⟨h1, h2, h3, h4, ⟨h5, h5'⟩, ⟨h6, h6'⟩, ⟨h7, h7'⟩, ⟨h8, h8'⟩, ⟨h9, h9'⟩, h10, b0, h11⟩ := h
  have e : ∀ g, g ≠ 207 → g ≠ 216 → zf m' g y = zf m g y := fun g a b => f.2.1 g y (fun q => by rcases q.1 with q | q <;> omega)
  have ea : ∀ j, j ∈ yRows → j ≠ 200 → j ≠ 203 → j ≠ 206 → j ≠ 217 → za m' (zR P j y) = za m (zR P j y) := fun j hj n1 n2 n3 n4 => by
    funext i
    refine f.2.2 _ _ (fun q => ?_)
    rcases q with q | q | q | q
    · exact yne h1 hj (by decide) n1 q
    · exact yne h1 hj (by decide) n2 q
    · exact yne h1 hj (by decide) n3 q
    · exact yne h1 hj (by decide) n4 q
  refine ⟨⟨h1, h2, h3, h200, ⟨by rw [e _ (by decide) (by decide)]; exact h5, by rw [ea _ (by decide) (by decide) (by decide) (by decide) (by decide)]; exact h5'⟩, ⟨by rw [e _ (by decide) (by decide)]; exact h6, by rw [ea _ (by decide) (by decide) (by decide) (by decide) (by decide)]; exact h6'⟩, ⟨h207, rfl⟩, ⟨by rw [e _ (by decide) (by decide)]; exact h8, fun i hi => by rw [ea _ (by decide) (by decide) (by decide) (by decide) (by decide)]; exact h8' i hi⟩, ⟨by rw [e _ (by decide) (by decide)]; exact h9, fun i hi => (h9' i hi).sm (fun j => by rw [ea _ (by decide) (by decide) (by decide) (by decide) (by decide)]) (fun j => by rw [ea _ (by decide) (by decide) (by decide) (by decide) (by decide)])⟩, h216, b0, by rw [e _ (by decide) (by decide)]; exact h11⟩, f.fo (fun _ _ q => by rw [q.2, h2]) (fun a _ q => by
    rcases q with q | q | q | q <;> rw [q]
    · exact h3 200 (by decide)
    · exact h3 203 (by decide)
    · exact h3 206 (by decide)
    · exact h3 217 (by decide))⟩
/-- the class plays again -/
theorem c_again (hB : B + 400 < 1000000) (hn : (owners P x y).Nodup) (hC : CX own P m x V sv Vs true Vm tn T pn Q k it B) (hY : bY own P m y V sv Vs true Vm tn T pn Q k it) (hk : k ≤ 60) : ∃ N R m1, f_X10_playAgain P x c m = some (0, m1) ∧ CX own P m1 x V sv Vs true Vm tn T pn Q k it B ∧ Sm own y m m1 ∧ itF it k R ∧ R ≤ 8 ∧ Vm 230 = nI R ∧ RuL Vm R ∧ (∀ i, i < k → ∀ q, it i = some q → za m1 (zR P 44 (zR P 184 x)) i = plA c N it (cpV Vm V 723) i) ∧ ∀ i, i ≤ k → InV (plV c N it (cpV Vm V 723) i) N R (B + 5 * i) := by
  have o := ow hn
  obtain ⟨g', c1, c2, c3⟩ := hC.2.1
  obtain ⟨N, R, p1, p2, hIn⟩ := c3 rfl
  obtain ⟨g, b1, b2, -⟩ := hC.2.2.2.1
  have h12 := hIn.st.2.1
  have h8 := hIn.2.1.2
  have hf := b1.mf h12
  have agree : ∀ j, j < 706 → cpV Vm V 723 j = Vm j := fun j hj => cpV_lt (by omega)
  have hF : itF it k R := by
    intro i hi ro h z a hc
    have q := hY.2.2.2.2.2.2.2.2.1.2 i hi
    rw [hc] at q
    obtain ⟨q1, q2, -, -, -, n, R', -, -, q8, q9, q10⟩ := q
    refine ⟨q1, q2, fun r hr => ?_⟩
    rw [hIn.2.1.1, n_inj (by omega) (by omega)] at q8
    subst q8
    rw [← q10] at hr
    have := (sFst_some hr).2.1
    omega
  obtain ⟨m1, k1, k2, k3, k4, k5⟩ := c_copy hf (c1.mf h12) b1.2.2.1 (o 3 5 (by decide)) b2 c2 p1 p2 hIn
  obtain ⟨m2, i1, i2, i3, i4, i5⟩ := c_impose (c := c) hf b1.2.2.1 hIn.ru.l k2 k3
  have f2 : Fq own (zR P 183 x) (zR P 44 (zR P 184 x)) m m2 := (k5.trans i5).q
  have hC2 := hC.fq hn f2
  have hp : Pic P m2 (zR P 183 x) g N R c (cpV Vm V 723) := i3.cgV hIn.ru.l h12 agree
  obtain ⟨m3, r1, r2, r3, r4⟩ := c_play_l (V0 := cpV Vm V 723) (k := k) (it := it) hf hF (B := B) (by omega) hk (o 6 5 (by decide)) k 0 zfuel m2 (by omega) (by unfold zfuel; omega) i2 hp hC2.2.2.2.2.1 (hIn.cg agree) (by intro i hi; omega)
  have r1' : f_X10_playAgain_b21 P zfuel x 0 m2 = some (0, m3) := r1
  have f3 := f2.trans r3
  have ow44 : own (zR P 44 (zR P 184 x)) = zR P 184 x := (hC.2.2.2.2.1.2.1 44 (by omega) (by omega)).1
  refine ⟨N, R, m3, ?_, hC.fq hn f3, f3.sm (o 1 5 (by decide)) (by rw [ow44]; exact o 6 1 (by decide)), hF, h8, hIn.2.1.1, hIn.ru.l, r2, fun i hi => r4 i (by omega) hi⟩
  unfold f_X10_playAgain
  rw [zl_s, zl_s, k1, zb_s, zl_s, i1, zb_s]
  exact r1'
theorem r_plays (b : Bool) (hB : B + 400 < 1000000) (hn : (owners P x y).Nodup) {cn : Nat} (hc : cn ≤ 4) (hC : CX own P m x V sv Vs true Vm tn T pn Q k it B) (hY : bY own P m y V sv Vs true Vm tn T pn Q k it) (hI : bI' V true Vm tn T pn k) (hF : itF it k R) (hR : R ≤ 8 ∧ Vm 230 = nI R ∧ RuL Vm R) (hInv : ∀ i, i ≤ k → InV (plV (nI cn) N it (cpV Vm V 723) i) N R (B + 5 * i)) :
    ∃ m', f_X11_plays P y (nI cn) (bI b) m = some (plC b (nI cn) N it (cpV Vm V 723) k, m') ∧ REL own P x y (B + 5) m' := by
  have ok := hY.1
  have o := ow hn
  obtain ⟨-, -, -, t4, -⟩ := hC.2.2.2.2.2.1
  have eV : za m (zR P 200 y) = V := hY.2.2.2.1
  have e205 : zf m 205 y = 1 := hY.2.2.2.2.2.1.1
  have e202 : za m (zR P 202 y) = Vm := hY.2.2.2.2.2.1.2
  have e207 : zf m 207 y = nI tn := hY.2.2.2.2.2.2.1.1
  have e206 : za m (zR P 206 y) = T := hY.2.2.2.2.2.2.1.2
  have e210 : zf m 210 y = nI k := hY.2.2.2.2.2.2.2.2.1.1
  have hYa := hY.kept (X := cpV V (za m (zR P 203 y)) 723)
  generalize hmA : wA m (zR P 203 y) (cpV V (za m (zR P 203 y)) 723) = mA at *
  have fA : Fp (fun _ _ => False) (fun a _ => a = zR P 203 y) m mA := by
    rw [← hmA]
    exact ⟨rfl, fun _ _ _ => rfl, fun a i q => by rw [za_wA_ne q]⟩
  obtain ⟨m1, a1, a2, a3⟩ := r_keep_l (P := P) (y := y) (c := nI cn) (x2 := bI b) ok t4 tn 0 zfuel mA (by omega) (by unfold zfuel; omega) (by intro i hi; omega)
  have a1' : f_X11_plays_b40 P zfuel y (nI cn) (bI b) (nI tn) 0 mA = _ := a1
  have z1 : ∀ j, j ∈ yRows → j ≠ 217 → za m1 (zR P j y) = za mA (zR P j y) := fun j hj h => by
    funext i
    exact a3.2.2 _ _ (fun q => yne ok hj (by decide) h q)
  have v1 : za m1 (zR P 200 y) = V := by rw [z1 200 (by decide) (by decide)]; exact hYa.2.2.2.1
  have v2 : za m1 (zR P 202 y) = Vm := by rw [z1 202 (by decide) (by decide)]; exact hYa.2.2.2.2.2.1.2
  have v6 : za m1 (zR P 206 y) = T := by rw [z1 206 (by decide) (by decide)]; exact hYa.2.2.2.2.2.2.1.2
  have v3 : za m1 (zR P 203 y) = cpV V (za m (zR P 203 y)) 723 := by
    rw [z1 203 (by decide) (by decide), ← hmA, za_wA]
  have fB0 : Fp (fun g a => (g = 207 ∨ g = 216) ∧ a = y) (fun a _ => a = zR P 200 y) m1 (wA m1 (zR P 200 y) (cpV Vm V 723)) := ⟨rfl, fun _ _ _ => rfl, fun a i q => by rw [za_wA_ne q]⟩
  have fB : Fp (fun g a => (g = 207 ∨ g = 216) ∧ a = y) (fun a _ => a = zR P 200 y) m1 (zfp (wA m1 (zR P 200 y) (cpV Vm V 723)) 216 y (nI cn)) :=
    Fp.put (S := fun g a => (g = 207 ∨ g = 216) ∧ a = y) fB0 (And.intro (Or.inr rfl) rfl)
  generalize hmB : zfp (wA m1 (zR P 200 y) (cpV Vm V 723)) 216 y (nI cn) = mB at *
  have fm1 : ∀ f, zf m1 f y = zf m f y := fun f => by rw [a3.2.1 _ _ (fun q => q), fA.2.1 _ _ (fun q => q)]
  have b210 : zf mB 210 y = nI k := by rw [fB.2.1 _ _ (fun q => by rcases q.1 with q | q <;> omega), fm1]; exact e210
  have b216 : zf mB 216 y = nI cn := by rw [← hmB, zf_eq]
  have bV : za mB (zR P 200 y) = cpV Vm V 723 := by rw [← hmB]; exact za_wA
  have zB : ∀ j, j ∈ yRows → j ≠ 200 → za mB (zR P j y) = za m1 (zR P j y) := fun j hj h => by
    funext i
    exact fB.2.2 _ _ (fun q => yne ok hj (by decide) h q)
  have hit : ∀ i, i < k → itY P mB y Vm i (it i) := fun i hi => (hYa.2.2.2.2.2.2.2.2.1.2 i hi).sm (fun j => by rw [zB 208 (by decide) (by decide), z1 208 (by decide) (by decide)]) (fun j => by rw [zB 209 (by decide) (by decide), z1 209 (by decide) (by decide)])
  have agree : ∀ j, j < 723 → cpV Vm V 723 j = Vm j := fun j hj => cpV_lt hj
  obtain ⟨m2, c1, c2⟩ := r_play_l (P := P) (y := y) (m0 := mB) (Vm := Vm) (x3 := nI tn) ok b hF hI.2.1 hInv (by omega) hR (fun r hr => ⟨fun j hj => agree _ (by omega), fun t ht => ⟨agree _ (by omega), agree _ (by omega)⟩⟩) hit k 0 zfuel mB (by omega) (by unfold zfuel; have := hI.2.1; omega) Fp.rfl' b210 b216 bV
  have c1' : f_X11_plays_b88 P zfuel y (bI b) (nI tn) 0 0 mB = _ := c1
  have fC : Fp (fun g a => (g = 207 ∨ g = 216) ∧ a = y) (fun _ _ => False) m2 (zfp (zfp m2 216 y (-1)) 207 y (nI tn)) :=
    Fp.put (S := fun g a => (g = 207 ∨ g = 216) ∧ a = y) (Fp.put (S := fun g a => (g = 207 ∨ g = 216) ∧ a = y) Fp.rfl' (And.intro (Or.inr rfl) rfl)) (And.intro (Or.inl rfl) rfl)
  obtain ⟨m3, d1, d2, d3⟩ := r_back_l (P := P) (y := y) (w := plC b (nI cn) N it (cpV Vm V 723) k) ok t4 tn 0 zfuel (zfp (zfp m2 216 y (-1)) 207 y (nI tn)) (by omega) (by unfold zfuel; omega) (by intro i hi; omega)
  have d1' : f_X11_plays_b247 P zfuel y (nI tn) (plC b (nI cn) N it (cpV Vm V 723) k) 0 (zfp (zfp m2 216 y (-1)) 207 y (nI tn)) = _ := d1
  have z3 : ∀ j, j ∈ yRows → j ≠ 200 → j ≠ 206 → za m3 (zR P j y) = za m1 (zR P j y) := fun j hj h0 h6 => by
    have q1 : za m3 (zR P j y) = za m2 (zR P j y) := by
      funext i
      exact d3.2.2 _ _ (fun q => yne ok hj (by decide) h6 q)
    rw [q1, PG.z ok c2 hj h0 h6, zB j hj h0]
  have w3 : za m3 (zR P 203 y) = cpV V (za m (zR P 203 y)) 723 := by rw [z3 203 (by decide) (by decide) (by decide), v3]
  have fF : Fp (fun g a => (g = 207 ∨ g = 216) ∧ a = y) (fun a _ => a = zR P 200 y ∨ a = zR P 203 y ∨ a = zR P 206 y ∨ a = zR P 217 y) m (wA m3 (zR P 200 y) (cpV (cpV V (za m (zR P 203 y)) 723) (za m3 (zR P 200 y)) 723)) := by
    have e1 : Fp (fun g a => (g = 207 ∨ g = 216) ∧ a = y) (fun a (_ : Nat) => a = zR P 200 y ∨ a = zR P 203 y ∨ a = zR P 206 y ∨ a = zR P 217 y) m3 (wA m3 (zR P 200 y) (cpV (cpV V (za m (zR P 203 y)) 723) (za m3 (zR P 200 y)) 723)) := ⟨rfl, fun _ _ _ => rfl, fun a i q => by rw [za_wA_ne (fun e => q (Or.inl e))]⟩
    exact (fA.mono (fun _ _ q => q.elim) (fun _ _ q => Or.inr (Or.inl q))).trans ((a3.mono (fun _ _ q => q.elim) (fun _ _ q => Or.inr (Or.inr (Or.inr q)))).trans ((fB.mono (fun _ _ q => q) (fun _ _ q => Or.inl q)).trans ((c2.mono (fun _ _ q => And.intro (Or.inl q.1) q.2) (fun _ _ q => by
      rcases q with q | q
      · exact Or.inl q
      · exact Or.inr (Or.inr (Or.inl q)))).trans ((fC.mono (fun _ _ q => q) (fun _ _ q => q.elim)).trans ((d3.mono (fun _ _ q => q.elim) (fun _ _ q => Or.inr (Or.inr (Or.inl q)))).trans e1)))))
  have hT : ∀ j, j < tn → za (wA m3 (zR P 200 y) (cpV (cpV V (za m (zR P 203 y)) 723) (za m3 (zR P 200 y)) 723)) (zR P 206 y) j = T j := fun j hj => by
    rw [za_wA_ne (yne ok (by decide) (by decide) (by decide)), d2 j hj, z3 217 (by decide) (by decide) (by decide), a2 j hj, v6]
  obtain ⟨k1, k2⟩ := hY.pl fF za_wA (by rw [zf_wA, d3.2.1 _ _ (fun q => q), zf_eq]) (by rw [zf_wA, d3.2.1 _ _ (fun q => q), zf_ne (Or.inl (by omega)), zf_eq])
  have agV : ∀ j, j < 723 → cpV (cpV V (za m (zR P 203 y)) 723) (za m3 (zR P 200 y)) 723 j = V j := fun j hj => by rw [cpV_lt hj, cpV_lt hj]
  refine ⟨_, ?_, hn, _, sv, Vs, true, Vm, tn, _, pn, Q, k, it, (((hC.sm hn k2.z).cgV agV).cgT hT).mono (by omega), k1, ?_⟩
  · have hc4 : (0 : Int32) ≤ nI cn ∧ nI cn ≤ 4 := ⟨nI_pos' (by omega), (n_le (b := 4) (by omega) (by omega)).mpr hc⟩
    unfold f_X11_plays
    rw [r_isIn, zb_s]
    dsimp only
    rw [decide_eq_true hc4, if_neg (by decide), if_neg (by rw [e205]; decide), zl_s, zl_s, r_copies (yne ok (by decide) (by decide) (by decide)) ok.1 ok.2.2.2.1, zb_s]
    dsimp only
    rw [eV, hmA, zl_s, show zf mA 207 y = nI tn from hYa.2.2.2.2.2.2.1.1, a1', r_copies (yne ok (by decide) (by decide) (by decide)) ok.2.2.1 ok.1, zb_s]
    dsimp only
    rw [v2, v1, hmB, c1', d1', r_copies (yne ok (by decide) (by decide) (by decide)) ok.2.2.2.1 ok.1, zb_s]
    dsimp only
    rw [w3]
  · have h0 := hI.cgV agV
    exact ⟨fun j hj => by rw [hT j hj]; exact hI.1 j hj, h0.2⟩
theorem c_playErr {w : Int32} (hR : bR own P m (zR P 184 x) mk k it) : f_X10_playError P x w m = some (if 0 ≤ w ∧ w ≤ 4 then (if mk = true then 0 else -1) else -2, m) := by
  unfold f_X10_playError
  rw [c_isWithin, zb_s]
  dsimp only
  by_cases h1 : 0 ≤ w ∧ w ≤ 4
  · rw [decide_eq_true h1, if_neg (by decide), if_pos h1, zl_s, hR.2.2.2.2.1]
    cases mk with
    | false => rw [if_pos bI_f, if_neg (by decide)]
    | true => rw [if_neg (by decide), if_pos rfl]
  · rw [decide_eq_false h1, if_pos bI_f, if_neg h1]
theorem r_playErr {w v : Int32} (hY : bY own P m y V sv Vs mk Vm tn T pn Q k it) (h : ¬ ((0 ≤ w ∧ w ≤ 4) ∧ mk = true)) : f_X11_plays P y w v m = some (if 0 ≤ w ∧ w ≤ 4 then (if mk = true then 0 else -1) else -2, m) := by
  unfold f_X11_plays
  rw [r_isIn, zb_s]
  dsimp only
  by_cases h1 : 0 ≤ w ∧ w ≤ 4
  · have e205 := hY.2.2.2.2.2.1.1
    cases mk with
    | true => exact absurd ⟨h1, rfl⟩ h
    | false =>
      rw [decide_eq_true h1, if_neg (by decide), if_pos h1, if_pos (show zf m 205 y = 0 from e205), if_neg (by decide)]
  · rw [decide_eq_false h1, if_pos bI_f, if_neg h1]
theorem itF.le {R' : Nat} (h : itF it k R) (hR : R ≤ R') : itF it k R' := fun i hi ro hh z a hc => by
  obtain ⟨f1, f2, f3⟩ := h i hi ro hh z a hc
  exact ⟨f1, f2, fun r hr => by have := f3 r hr; omega⟩
theorem L_play {w : Int32} : Call own P x y (f_X10_play P x w) (f_X11_play P y w) := by
  intro B m hB h0
  have hrel := h0.same
  obtain ⟨hn, V, sv, Vs, mk, Vm, tn, T, pn, Q, k, it, hC, hY, hI⟩ := h0
  unfold f_X10_play f_X11_play
  rw [c_playErr hC.2.2.2.2.1, zb_s]
  dsimp only
  by_cases h1 : (0 ≤ w ∧ w ≤ 4) ∧ mk = true
  · obtain ⟨h1, rfl⟩ := h1
    obtain ⟨cn, -, hc, rfl⟩ := rng (lo := 0) (hi := 4) (by omega) (by omega) h1.1 h1.2
    obtain ⟨N, R, m1, p1, p2, p3, p4, p5, p6, p7, p8, p9⟩ := c_again (c := nI cn) hB hn hC hY hI.2.1
    have hY1 := hY.sm p3
    have hk60 := hI.2.1
    have q := c_chg_l (m := m1) p2.2.2.2.2.1 hI.2.1 (p4.le p5) p8 k 0 zfuel (by omega) (by unfold zfuel; omega)
    obtain ⟨m2, r1, r2⟩ := r_plays false hB hn hc p2 hY1 hI p4 ⟨p5, p6, p7⟩ p9
    have r1' : f_X11_plays P y (nI cn) 0 m1 = _ := r1
    have q' : f_X2_changedAnswers P (zR P 184 x) m1 = some (plC false (nI cn) N it (cpV Vm V 723) k, m1) := q
    rw [if_pos h1, if_pos rfl, if_pos rfl, p1, zb_s, zl_s, q', zb_s]
    exact ⟨_, m1, m2, rfl, by rw [r1', zb_s], r2⟩
  · have hne : ¬ (if 0 ≤ w ∧ w ≤ 4 then (if mk = true then 0 else -1) else -2) = (0 : Int32) := by
      by_cases q1 : 0 ≤ w ∧ w ≤ 4
      · rw [if_pos q1, if_neg (fun q2 => h1 ⟨q1, q2⟩)]
        decide
      · rw [if_neg q1]
        decide
    rw [if_neg hne]
    exact ⟨_, m, m, rfl, by rw [r_playErr hY h1, zb_s], hrel⟩
theorem L_answeredIf {w : Int32} : Call own P x y (f_X10_answeredIf P x w) (f_X11_answeredIf P y w) := by
  intro B m hB h0
  have hrel := h0.same
  obtain ⟨hn, V, sv, Vs, mk, Vm, tn, T, pn, Q, k, it, hC, hY, hI⟩ := h0
  unfold f_X10_answeredIf f_X11_answeredIf
  rw [c_playErr hC.2.2.2.2.1, zb_s]
  dsimp only
  by_cases h1 : (0 ≤ w ∧ w ≤ 4) ∧ mk = true
  · obtain ⟨h1, rfl⟩ := h1
    obtain ⟨cn, -, hc, rfl⟩ := rng (lo := 0) (hi := 4) (by omega) (by omega) h1.1 h1.2
    obtain ⟨N, R, m1, p1, p2, p3, p4, p5, p6, p7, p8, p9⟩ := c_again (c := nI cn) hB hn hC hY hI.2.1
    have hY1 := hY.sm p3
    have hk60 := hI.2.1
    have q := c_byB_l (m := m1) p2.2.2.2.2.1 hI.2.1 (p4.le p5) p8 k 0 zfuel (by omega) (by unfold zfuel; omega)
    obtain ⟨m2, r1, r2⟩ := r_plays true hB hn hc p2 hY1 hI p4 ⟨p5, p6, p7⟩ p9
    have r1' : f_X11_plays P y (nI cn) 1 m1 = _ := r1
    have q' : f_X2_answersByBackends P (zR P 184 x) m1 = some (plC true (nI cn) N it (cpV Vm V 723) k, m1) := q
    rw [if_pos h1, if_pos rfl, if_pos rfl, p1, zb_s, zl_s, q', zb_s]
    exact ⟨_, m1, m2, rfl, by rw [r1', zb_s], r2⟩
  · have hne : ¬ (if 0 ≤ w ∧ w ≤ 4 then (if mk = true then 0 else -1) else -2) = (0 : Int32) := by
      by_cases q1 : 0 ≤ w ∧ w ≤ 4
      · rw [if_pos q1, if_neg (fun q2 => h1 ⟨q1, q2⟩)]
        decide
      · rw [if_neg q1]
        decide
    rw [if_neg hne]
    exact ⟨_, m, m, rfl, by rw [r_playErr hY h1, zb_s], hrel⟩
end PZ

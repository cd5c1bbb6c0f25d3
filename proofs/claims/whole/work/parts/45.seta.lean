/-! ===== calls: the settings ===== -/
section SA
variable {own : Nat → Nat} {P : zSt} {m m' : zM} {x y B B' u N R : Nat} {g : zGr} {V V' : Nat → Int32} {sv mk : Bool} {Vs Vm T Q : Nat → Int32} {tn pn k : Nat} {it : zIt}
/-- the main mesh, its numbers given -/
def bMp (own : Nat → Nat) (P : zSt) (m : zM) (u : Nat) (g : zGr) (N R T : Nat) (V : Nat → Int32) (B : Nat) : Prop := MS own P u g ∧ GM P m u g ∧ Pic P m u g N R (-1) V ∧ PicX P m u g T V ∧ zf m 27 u = V 697 ∧ InV V N R B
theorem bMp.sm {T : Nat} (h : bMp own P m u g N R T V B) (f : Sm own u m m') : bMp own P m' u g N R T V B := by
  obtain ⟨h1, h2, h3, h4, h5, h6⟩ := h
  exact ⟨h1, h2.sm h1 f, h3.fo' (h1.mf h6.1.2.1) h6.ru.l f.2.1 f.2.2, h4.sm h1 f, by rw [f.2.1 _ _ h1.ou, h5], h6⟩
theorem bMp.b {T : Nat} (h : bMp own P m u g N R T V B) : bM own P m u V B := ⟨g, N, R, T, h⟩
theorem CX.mono (h : CX own P m x V sv Vs mk Vm tn T pn Q k it B) (e : B ≤ B') : CX own P m x V sv Vs mk Vm tn T pn Q k it B' :=
  ⟨h.1.mono e, h.2.1.mono e, h.2.2.1.mono e, h.2.2.2.1.off, h.2.2.2.2⟩
theorem REL.same (h : REL own P x y B m) : REL own P x y (B + 5) m := by
  obtain ⟨hn, V, sv, Vs, mk, Vm, tn, T, pn, Q, k, it, hC, hY, hI⟩ := h
  exact ⟨hn, V, sv, Vs, mk, Vm, tn, T, pn, Q, k, it, hC.mono (by omega), hY, hI⟩
/-- a setting changed on both sides -/
theorem REL.chg (hn : (owners P x y).Nodup) (hC : CX own P m x V' sv Vs false Vm tn T pn Q 0 it B) (hY : bY own P m y V sv Vs mk Vm tn T pn Q k it) (hT : ∀ j, j < tn → ∃ c, c < 128 ∧ T j = nI c) : REL own P x y B (wA (zfp (zfp m 205 y 0) 210 y 0) (yv P y) V') := by
  have ho := hY.2.1
  have hov := hY.2.2.1 200 (by decide)
  have f : Fz own y m (wA (zfp (zfp m 205 y 0) 210 y 0) (yv P y) V') := (((Fo.zfp ho).trans (Fo.zfp ho)).trans (Fo_wA hov)).z
  exact ⟨hn, V', sv, Vs, false, Vm, tn, T, pn, Q, 0, it, hC.sm hn f, hY.stop.wV, hT, by omega, fun _ => rfl, fun q => by cases q⟩
theorem Pic.updP (h : Pic P m u g N R (-1) V) (hL : RuL V R) (hD : GD own P u g) (h12 : N ≤ 12) {s j : Nat} {x : Int32} (hs : s < 4) (hj : j < 8) : Pic P (zfp m (100 + j) (gS g s) x) u g N R (-1) (uV V (145 + 21 * s + j) x) := by
  refine ⟨h.1.cg (fun f h1 h2 => zf_ne (Or.inl (by omega))) (uV_n (by omega)) (uV_n (by omega)) (uV_n (by omega)) (fun j h1 h2 => uV_n (by omega)), h.2.1.cg (fun i k _ _ => zf_ne (Or.inl (by have := bsl_lt k; omega))) (fun i k hi hk => uV_n (by omega)), PicS1.to ?_, h.2.2.2.1.cg hL.1 (fun f r hr h1 h2 => zf_ne (Or.inl (by omega))) (fun r hr => zf_ne (Or.inl (by omega))) (fun _ _ _ _ => rfl) (fun r hr => (hL.2 r hr).1) (fun r j hr hj => uV_n (by omega)), h.2.2.2.2.cg (fun r t k' _ _ _ => zf_ne (Or.inl (by have := tsl_lt k'; omega))) (fun r hr => uV_n (by omega)) (fun r t k' hr ht hk' => uV_n (by omega))⟩
  intro s' hs'
  obtain ⟨a3, a4, a5⟩ := PicS1.of h.2.2.1 s' hs'
  refine ⟨fun j' hj2' => ?_, fun z hz => ?_, fun h hh => ?_⟩
  · by_cases e : s' = s ∧ j' = j
    · obtain ⟨rfl, rfl⟩ := e
      rw [zf_eq, uV_s]
    · rw [zf_ne, uV_n, a3 j' hj2']
      · omega
      · by_cases e2 : j' = j
        · exact Or.inr (fun q => e ⟨hD.2.1 _ _ hs' hs q, e2⟩)
        · exact Or.inl (by omega)
  · rw [uV_n (by omega)]
    exact a4 z hz
  · rw [uV_n (by omega)]
    exact a5 h hh
theorem Pic.updZ (h : Pic P m u g N R (-1) V) (hL : RuL V R) (h12 : N ≤ 12) {x : Int32} : Pic P (zfp m 25 u x) u g N R (-1) (uV V 229 x) := by
  have h8 := hL.1
  refine ⟨?_, h.2.1.cg (fun i k _ _ => zf_ne (Or.inl (by have := bsl_lt k; omega))) (fun i k hi hk => uV_n (by omega)), h.2.2.1.cg (fun s j _ _ => zf_ne (Or.inl (by omega))) (fun _ _ _ _ => rfl) (fun _ _ _ _ => rfl) (fun j h1 h2 => uV_n (by omega)), h.2.2.2.1.cg hL.1 (fun f r hr h1 h2 => zf_ne (Or.inl (by omega))) (fun r hr => zf_ne (Or.inl (by omega))) (fun _ _ _ _ => rfl) (fun r hr => (hL.2 r hr).1) (fun r j hr hj => uV_n (by omega)), h.2.2.2.2.cg (fun r t k' _ _ _ => zf_ne (Or.inl (by have := tsl_lt k'; omega))) (fun r hr => uV_n (by omega)) (fun r t k' hr ht hk' => by have := (hL.2 r hr).2; exact uV_n (by omega))⟩
  obtain ⟨a1, a2, a3, a4, a5, a6, a7⟩ := h.1
  refine ⟨by rw [zf_ne (Or.inl (by omega)), a1], by rw [uV_n (by omega), a2], by rw [zf_ne (Or.inl (by omega)), a3], by rw [uV_n (by omega), a4], ?_, by rw [zf_ne (Or.inl (by omega)), a6, uV_n (by omega)], fun j' h1 h2 => by rw [zf_ne (Or.inl (by omega)), uV_n (by omega), a7 j' h1 h2]⟩
  unfold sLm
  rw [zf_eq, if_neg (by decide), uV_s]
/-- weight and pattern -/
theorem r_put (ok : yOK P y) {i w : Int32} {c most N : Nat} (hN : za m (yv P y) 144 = nI N) (h12 : N ≤ 12) (hc : c < 12) : f_X11_put P y i (nI c) w (nI most) m = if 0 ≤ i ∧ i < nI N then (if 0 ≤ w ∧ w ≤ nI most then some (za m (yv P y) (12 * i.toNatClampNeg + c), wA (zfp (zfp m 205 y 0) 210 y 0) (yv P y) (uV (za m (yv P y)) (12 * i.toNatClampNeg + c) w)) else some (-2, m)) else some (-1, m) := by
  unfold f_X11_put
  rw [r_isB ok hN h12, zb_s]
  dsimp only
  by_cases h1 : 0 ≤ i ∧ i < nI N
  · obtain ⟨b, hb, rfl⟩ := i_lt_of h1.1 h1.2 (by omega)
    rw [decide_eq_true h1, if_neg (by decide), r_isIn, zb_s, if_pos h1, n_nat (by omega)]
    dsimp only
    by_cases h2 : 0 ≤ w ∧ w ≤ nI most
    · rw [decide_eq_true h2, if_neg (by decide), r_changes, zb_s, if_pos h2]
      dsimp only
      rw [r_of ok (by omega) hc, zb_s]
      dsimp only
      rw [r_sets ok (by omega) hc, zb_s]
      rfl
    · rw [decide_eq_false h2, if_pos bI_f, if_neg h2]
  · rw [decide_eq_false h1, if_pos bI_f, if_neg h1]
theorem InV.wt (h : InV V N R B) {b w : Nat} (hb : b < N) (hw : w ≤ 9) : InV (uV V (12 * b + 2) (nI w)) N R B := by
  have h12 := h.st.2.1
  obtain ⟨s1, s2, ⟨z, z1, z2, z3⟩, s4, s5⟩ := h.st
  refine h.to2 ⟨by rw [uV_n (by omega), s1], s2, ⟨z, z1, z2, by rw [uV_n (by omega), z3]⟩, fun i hi => ?_, fun s h hs hh => by rw [uV_n (by omega)]; exact s5 s h hs hh⟩ (h.sv.to (fun s hs => ⟨uV_n (by omega), uV_n (by omega)⟩)) (h.bd.upd (fun i k _ _ _ _ _ => by omega)) (fun i hi => by rw [uV_n (by omega)]; exact h.sr i hi) (fun j h1 h2 => uV_n (by omega))
  by_cases e : i = b
  · subst e
    exact ⟨w, hw, uV_s⟩
  · rw [uV_n (by omega)]
    exact s4 i hi
theorem InV.pt (h : InV V N R B) {b : Nat} {w : Int32} (hb : b < N) : InV (uV V (12 * b + 3) w) N R B := by
  have h12 := h.st.2.1
  exact h.to2 (uV_st h.st (by omega) (by omega) (by omega) (by omega)) (h.sv.to (fun s hs => ⟨uV_n (by omega), uV_n (by omega)⟩)) (h.bd.upd (fun i k _ _ _ _ _ => by omega)) (fun i hi => by rw [uV_n (by omega)]; exact h.sr i hi) (fun j h1 h2 => uV_n (by omega))
theorem L_setWeight {i w : Int32} : Call own P x y (f_X10_setWeight P x i w) (f_X11_setWeight P y i w) := by
  intro B m hB h0
  obtain ⟨hn, V, sv, Vs, mk, Vm, tn, T, pn, Q, k, it, hC, hY, hI⟩ := h0
  obtain ⟨g, N, R, Tt, hb⟩ := hC.1
  have h12 := hb.2.2.2.2.2.1.2.1
  have ok := hY.1
  have hV := hY.2.2.2.1
  have o := ow hn
  have hN : za m (yv P y) 144 = nI N := by rw [hV, hb.2.2.2.2.2.1.1]
  unfold f_X10_setWeight f_X11_setWeight
  rw [zl_s, c_hasB hb.2.2.1.1.1 h12, zb_s]
  dsimp only
  by_cases h1 : 0 ≤ i ∧ i < nI N
  · rw [decide_eq_true h1, if_neg (by decide), c_isWithin, zb_s]
    dsimp only
    by_cases h2 : 0 ≤ w ∧ w ≤ 9
    · obtain ⟨b, hbN, rfl⟩ := i_lt_of h1.1 h1.2 (by omega)
      obtain ⟨w', -, hw, rfl⟩ := rng (lo := 0) (hi := 9) (by omega) (by omega) h2.1 h2.2
      rw [decide_eq_true h2, if_neg (by decide), zl_s, c_stop, zb_s]
      dsimp only
      have hC1 := hC.stop hn
      have f1 := hC.2.2.2.2.1.stop.2
      have hb1 := bMp.sm hb (f1.sm (o 2 6 (by decide)))
      have e2 : zf (zfp (zfp m 45 (zR P 184 x) 0) 46 (zR P 184 x) 0) 0 (gB g b) = V (12 * b + 2) := hb1.2.2.1.2.1 b 2 hbN (by omega)
      generalize zfp (zfp m 45 (zR P 184 x) 0) 46 (zR P 184 x) 0 = m1 at *
      rw [zl_s, zl_s, hb1.1.1.1, zin_12 (by omega), zgd_t, n_nat (by omega), hb1.2.1.1 b (by omega), zl_s, e2, zl_s, zl_s, zl_s, hb1.1.1.1, zin_12 (by omega), zgd_t, hb1.2.1.1 b (by omega), zl_s, zl_s]
      have f2 : Fz own (zR P 180 x) m1 (zfp m1 0 (gB g b) (nI w')) := (Fo.zfp (hb1.1.2.1.2.2.2.2.2.2.2.2.2.2.2.1 b (by omega))).z
      have hIn := hb1.2.2.2.2.2.wt hbN hw
      have hb2 : bM own P (zfp m1 0 (gB g b) (nI w')) (zR P 180 x) (uV V (12 * b + 2) (nI w')) B := ⟨g, N, R, Tt, hb1.1, hb1.2.1, hb1.2.2.1.updB hb1.2.2.2.2.2.ru.l hb1.1.2.1 h12 (k := 2) hbN (by omega), (hb1.2.2.2.1.zf (by omega)).up (by omega), by rw [zf_ne (Or.inl (by omega)), uV_n (by omega)]; exact hb1.2.2.2.2.1, hIn⟩
      have hC2 := hC1.main hn f2 hb2 (Nat.le_refl B)
      have hY2 := (hY.sm (f1.sm (o 1 6 (by decide)))).sm (f2.sm (o 1 2 (by decide)))
      generalize zfp m1 0 (gB g b) (nI w') = m2 at *
      have hV2 := hY2.2.2.2.1
      refine ⟨_, m2, _, rfl, ?_, REL.chg hn (hC2.mono (by omega)) hY2 hI.1⟩
      rw [show f_X11_put P y (nI b) 2 (nI w') 9 m2 = f_X11_put P y (nI b) (nI 2) (nI w') (nI 9) m2 from rfl, r_put ok (N := N) (by rw [hV2, hb.2.2.2.2.2.1.1]) h12 (by omega), if_pos h1, if_pos (show 0 ≤ (nI w') ∧ (nI w') ≤ nI 9 from h2), n_nat (by omega), hV2, zb_s]
    · rw [decide_eq_false h2, if_pos bI_f]
      refine ⟨_, m, _, rfl, ?_, REL.same ⟨hn, V, sv, Vs, mk, Vm, tn, T, pn, Q, k, it, hC, hY, hI⟩⟩
      rw [show f_X11_put P y i 2 w 9 m = f_X11_put P y i (nI 2) w (nI 9) m from rfl, r_put ok hN h12 (by omega), if_pos h1, if_neg (show ¬ (0 ≤ w ∧ w ≤ nI 9) from h2), zb_s]
  · rw [decide_eq_false h1, if_pos bI_f]
    refine ⟨_, m, _, rfl, ?_, REL.same ⟨hn, V, sv, Vs, mk, Vm, tn, T, pn, Q, k, it, hC, hY, hI⟩⟩
    rw [show f_X11_put P y i 2 w 9 m = f_X11_put P y i (nI 2) w (nI 9) m from rfl, r_put ok hN h12 (by omega), if_neg h1, zb_s]
theorem L_setPattern {i w : Int32} : Call own P x y (f_X10_setPattern P x i w) (f_X11_setPattern P y i w) := by
  intro B m hB h0
  obtain ⟨hn, V, sv, Vs, mk, Vm, tn, T, pn, Q, k, it, hC, hY, hI⟩ := h0
  obtain ⟨g, N, R, Tt, hb⟩ := hC.1
  have h12 := hb.2.2.2.2.2.1.2.1
  have ok := hY.1
  have hV := hY.2.2.2.1
  have o := ow hn
  have hN : za m (yv P y) 144 = nI N := by rw [hV, hb.2.2.2.2.2.1.1]
  unfold f_X10_setPattern f_X11_setPattern
  rw [zl_s, c_hasB hb.2.2.1.1.1 h12, zb_s]
  dsimp only
  by_cases h1 : 0 ≤ i ∧ i < nI N
  · rw [decide_eq_true h1, if_neg (by decide), c_isWithin, zb_s]
    dsimp only
    by_cases h2 : 0 ≤ w ∧ w ≤ 255
    · obtain ⟨b, hbN, rfl⟩ := i_lt_of h1.1 h1.2 (by omega)
      rw [decide_eq_true h2, if_neg (by decide), zl_s, c_stop, zb_s]
      dsimp only
      have hC1 := hC.stop hn
      have f1 := hC.2.2.2.2.1.stop.2
      have hb1 := bMp.sm hb (f1.sm (o 2 6 (by decide)))
      have e2 : zf (zfp (zfp m 45 (zR P 184 x) 0) 46 (zR P 184 x) 0) 5 (gB g b) = V (12 * b + 3) := hb1.2.2.1.2.1 b 3 hbN (by omega)
      generalize zfp (zfp m 45 (zR P 184 x) 0) 46 (zR P 184 x) 0 = m1 at *
      rw [zl_s, zl_s, hb1.1.1.1, zin_12 (by omega), zgd_t, n_nat (by omega), hb1.2.1.1 b (by omega), zl_s, e2, zl_s, zl_s, zl_s, hb1.1.1.1, zin_12 (by omega), zgd_t, hb1.2.1.1 b (by omega), zl_s, zl_s]
      have f2 : Fz own (zR P 180 x) m1 (zfp m1 5 (gB g b) w) := (Fo.zfp (hb1.1.2.1.2.2.2.2.2.2.2.2.2.2.2.1 b (by omega))).z
      have hIn := hb1.2.2.2.2.2.pt (w := w) hbN
      have hb2 : bM own P (zfp m1 5 (gB g b) w) (zR P 180 x) (uV V (12 * b + 3) w) B := ⟨g, N, R, Tt, hb1.1, hb1.2.1, hb1.2.2.1.updB hb1.2.2.2.2.2.ru.l hb1.1.2.1 h12 (k := 3) hbN (by omega), (hb1.2.2.2.1.zf (by omega)).up (by omega), by rw [zf_ne (Or.inl (by omega)), uV_n (by omega)]; exact hb1.2.2.2.2.1, hIn⟩
      have hC2 := hC1.main hn f2 hb2 (Nat.le_refl B)
      have hY2 := (hY.sm (f1.sm (o 1 6 (by decide)))).sm (f2.sm (o 1 2 (by decide)))
      generalize zfp m1 5 (gB g b) w = m2 at *
      have hV2 := hY2.2.2.2.1
      refine ⟨_, m2, _, rfl, ?_, REL.chg hn (hC2.mono (by omega)) hY2 hI.1⟩
      rw [show f_X11_put P y (nI b) 3 w 255 m2 = f_X11_put P y (nI b) (nI 3) w (nI 255) m2 from rfl, r_put ok (N := N) (by rw [hV2, hb.2.2.2.2.2.1.1]) h12 (by omega), if_pos h1, if_pos (show 0 ≤ w ∧ w ≤ nI 255 from h2), n_nat (by omega), hV2, zb_s]
    · rw [decide_eq_false h2, if_pos bI_f]
      refine ⟨_, m, _, rfl, ?_, REL.same ⟨hn, V, sv, Vs, mk, Vm, tn, T, pn, Q, k, it, hC, hY, hI⟩⟩
      rw [show f_X11_put P y i 3 w 255 m = f_X11_put P y i (nI 3) w (nI 255) m from rfl, r_put ok hN h12 (by omega), if_pos h1, if_neg (show ¬ (0 ≤ w ∧ w ≤ nI 255) from h2), zb_s]
  · rw [decide_eq_false h1, if_pos bI_f]
    refine ⟨_, m, _, rfl, ?_, REL.same ⟨hn, V, sv, Vs, mk, Vm, tn, T, pn, Q, k, it, hC, hY, hI⟩⟩
    rw [show f_X11_put P y i 3 w 255 m = f_X11_put P y i (nI 3) w (nI 255) m from rfl, r_put ok hN h12 (by omega), if_neg h1, zb_s]
theorem L_setZoneLimit {w : Int32} : Call own P x y (f_X10_setZoneLimit P x w) (f_X11_setZoneLimit P y w) := by
  intro B m hB h0
  obtain ⟨hn, V, sv, Vs, mk, Vm, tn, T, pn, Q, k, it, hC, hY, hI⟩ := h0
  obtain ⟨g, N, R, Tt, hb⟩ := hC.1
  have h12 := hb.2.2.2.2.2.1.2.1
  have ok := hY.1
  have o := ow hn
  unfold f_X10_setZoneLimit f_X11_setZoneLimit
  rw [c_isWithin, zb_s]
  dsimp only
  by_cases h2 : 1 ≤ w ∧ w ≤ 100
  · obtain ⟨w', hw1, hw, rfl⟩ := rng (lo := 1) (hi := 100) (by omega) (by omega) h2.1 h2.2
    rw [decide_eq_true h2, if_neg (by decide), zl_s, c_stop, zb_s]
    dsimp only
    have hC1 := hC.stop hn
    have f1 := hC.2.2.2.2.1.stop.2
    have hb1 := bMp.sm hb (f1.sm (o 2 6 (by decide)))
    generalize zfp (zfp m 45 (zR P 184 x) 0) 46 (zR P 184 x) 0 = m1 at *
    have e2 : zf m1 25 (zR P 180 x) = V 229 := hb1.2.2.1.1.2.2.2.2.1
    rw [zl_s, e2, zl_s, zl_s, zl_s]
    have f2 : Fz own (zR P 180 x) m1 (zfp m1 25 (zR P 180 x) (nI w')) := (Fo.zfp hb1.1.ou).z
    have hIn : InV (uV V 229 (nI w')) N R B := by
      have h := hb1.2.2.2.2.2
      obtain ⟨s1, s2, -, s4, s5⟩ := h.st
      refine h.to2 ⟨by rw [uV_n (by omega), s1], s2, ⟨w', hw1, hw, uV_s⟩, fun i hi => by rw [uV_n (by omega)]; exact s4 i hi, fun s h hs hh => by rw [uV_n (by omega)]; exact s5 s h hs hh⟩ (h.sv.to (fun s hs => ⟨uV_n (by omega), uV_n (by omega)⟩)) (h.bd.upd (fun i k _ _ _ _ _ => by omega)) (fun i hi => by rw [uV_n (by omega)]; exact h.sr i hi) (fun j h1 h2 => uV_n (by omega))
    have hb2 : bM own P (zfp m1 25 (zR P 180 x) (nI w')) (zR P 180 x) (uV V 229 (nI w')) B := ⟨g, N, R, Tt, hb1.1, hb1.2.1, hb1.2.2.1.updZ hb1.2.2.2.2.2.ru.l h12, (hb1.2.2.2.1.zf (by omega)).up (by omega), by rw [zf_ne (Or.inl (by omega)), uV_n (by omega)]; exact hb1.2.2.2.2.1, hIn⟩
    have hC2 := hC1.main hn f2 hb2 (Nat.le_refl B)
    have hY2 := (hY.sm (f1.sm (o 1 6 (by decide)))).sm (f2.sm (o 1 2 (by decide)))
    generalize zfp m1 25 (zR P 180 x) (nI w') = m2 at *
    have hV2 := hY2.2.2.2.1
    have hV3 : za (zfp (zfp m2 205 y 0) 210 y 0) (zR P 200 y) = V := hV2
    refine ⟨_, m2, _, rfl, ?_, REL.chg hn (hC2.mono (by omega)) hY2 hI.1⟩
    rw [r_isIn, zb_s]
    dsimp only
    rw [decide_eq_true h2, if_neg (by decide), r_changes, zb_s]
    dsimp only
    rw [zl_s, ok.1, show zin 229 723 = true by decide, zgd_t, show (229 : Int32).toNatClampNeg = 229 by decide, zl_s, zl_s, ok.1, show zin 229 723 = true by decide, zgd_t, zl_s, zap_eq, hV3]
  · rw [decide_eq_false h2, if_pos bI_f]
    refine ⟨_, m, _, rfl, ?_, REL.same ⟨hn, V, sv, Vs, mk, Vm, tn, T, pn, Q, k, it, hC, hY, hI⟩⟩
    rw [r_isIn, zb_s]
    dsimp only
    rw [decide_eq_false h2, if_pos bI_f]
end SA

/-! ===== calls: mark, save, restore ===== -/
/-- the first k numbers of V, W's behind them -/
def cpV (V W : Nat → Int32) (k : Nat) : Nat → Int32 := fun j => if j < k then V j else W j
theorem cpV_lt {V W : Nat → Int32} {k j : Nat} (h : j < k) : cpV V W k j = V j := if_pos h
theorem cpV_s {V W : Nat → Int32} {k : Nat} : uV (cpV V W k) k (V k) = cpV V W (k + 1) := by
  funext j
  unfold uV cpV
  by_cases h : j = k
  · rw [if_pos h, if_pos (by omega), h]
  · rw [if_neg h]
    by_cases h2 : j < k
    · rw [if_pos h2, if_pos (by omega)]
    · rw [if_neg h2, if_neg (by omega)]
theorem cpV_0 {V W : Nat → Int32} : cpV V W 0 = W := by
  funext j
  unfold cpV
  rw [if_neg (by omega)]
section CP
variable {own : Nat → Nat} {P : zSt} {m m' : zM} {x y B B' u N R : Nat} {g : zGr} {V V' : Nat → Int32} {sv mk : Bool} {Vs Vm T Q : Nat → Int32} {tn pn k : Nat} {it : zIt} {c : Int32}
theorem r_copies_l {a b : Nat} {W : Nat → Int32} (hab : a ≠ b) (ha : zlen P a = 723) (hb : zlen P b = 723) (hV : za m a = V) : ∀ d k fu, k + d = 723 → d < fu → f_X11_copies_b2 P fu a b (nI k) (wA m b (cpV V W k)) = some (0, wA m b (cpV V W 723)) := by
  intro d
  induction d with
  | zero =>
    intro k fu hk hfu
    obtain ⟨fu, rfl⟩ : ∃ f, fu = f + 1 := ⟨fu - 1, by omega⟩
    have : k = 723 := by omega
    subst this
    unfold f_X11_copies_b2
    rw [if_pos (show (723 : Int32) ≤ nI 723 from Int32.le_refl _)]
  | succ d ih =>
    intro k fu hk hfu
    obtain ⟨fu, rfl⟩ : ∃ f, fu = f + 1 := ⟨fu - 1, by omega⟩
    unfold f_X11_copies_b2
    rw [if_neg (show ¬ (723 : Int32) ≤ nI k from fun q => by have := (n_le (a := 723) (by omega) (by omega)).mp q; omega), ha, hb, zin_v (by omega), zgd_t, zgd_t, nat_v (by omega), za_wA_ne hab, hV, zap_wA, cpV_s, zl_s, zl_s, nI_1]
    exact ih (k + 1) fu (by omega) (by omega)
theorem r_copies {a b : Nat} (hab : a ≠ b) (ha : zlen P a = 723) (hb : zlen P b = 723) : f_X11_copies P a b m = some (0, wA m b (cpV (za m a) (za m b) 723)) := by
  have h := r_copies_l (m := m) (W := za m b) hab ha hb rfl 723 0 zfuel (by omega) (by unfold zfuel; omega)
  rw [cpV_0, wA_self] at h
  exact h
theorem InV.cg (h : InV V N R B) (e : ∀ j, j < 706 → V' j = V j) : InV V' N R B := by
  have h12 := h.st.2.1
  exact h.to (h.st.to (e _ (by omega)) (e _ (by omega)) (fun i hi => e _ (by omega)) (fun s t hs ht => Or.inl (e _ (by omega)))) (h.bd.to (fun i k h1 h2 h3 h4 h5 => e _ (by omega))) (fun j hj => e j (by have := hj.2.2.1; omega))
theorem Pic.cgV (h : Pic P m u g N R c V) (hL : RuL V R) (h12 : N ≤ 12) (e : ∀ j, j < 706 → V' j = V j) : Pic P m u g N R c V' := by
  have h8 := hL.1
  exact ⟨h.1.cg (fun _ _ _ => rfl) (e _ (by omega)) (e _ (by omega)) (e _ (by omega)) (fun j h1 h2 => e _ (by omega)), h.2.1.cg (fun _ _ _ _ => rfl) (fun i k hi hk => e _ (by omega)), h.2.2.1.cg (fun _ _ _ _ => rfl) (fun _ _ _ _ => rfl) (fun _ _ _ _ => rfl) (fun j h1 h2 => e _ (by omega)), h.2.2.2.1.cg hL.1 (fun _ _ _ _ _ => rfl) (fun _ _ => rfl) (fun _ _ _ _ => rfl) (fun r hr => (hL.2 r hr).1) (fun r j hr hj => e _ (by omega)), h.2.2.2.2.cg (fun _ _ _ _ _ _ => rfl) (fun r hr => e _ (by omega)) (fun r t k' hr ht hk' => by have := (hL.2 r hr).2; exact e _ (by omega))⟩
theorem bM.cgV (h : bM own P m u V B) (e : ∀ j, j < 723 → V' j = V j) : bM own P m u V' B := by
  obtain ⟨g, N, R, T, h1, h2, h3, h4, h5, h6⟩ := h
  have hT := h4.2.1
  exact ⟨g, N, R, T, h1, h2, h3.cgV h6.ru.l h6.st.2.1 (fun j hj => e j (by omega)), h4.cg rfl (fun _ _ _ _ => rfl) (e _ (by omega)) (fun i k hi hk => e _ (by omega)), by rw [e _ (by omega)]; exact h5, h6.cg (fun j hj => e j (by omega))⟩
theorem RuK.cgV (e : ∀ j, j < 723 → V' j = V j) {r : Nat} (hr : r < 8) : RuK V' V r r := ⟨fun j hj => (e _ (by omega)).symm, fun t ht => ⟨(e _ (by omega)).symm, (e _ (by omega)).symm⟩⟩
theorem CX.mk2 (hn : (owners P x y).Nodup) {m1 m2 : zM} (h : CX own P m x V sv Vs mk Vm tn T pn Q k it B) (f1 : Fz own (zR P 181 x) m m1) (f2 : Fz own (zR P 184 x) m1 m2) {Vm' : Nat → Int32} {k' : Nat} {it' : zIt} (hM : bC own P m1 (zR P 181 x) true Vm' B) (hR : bR own P m2 (zR P 184 x) true k' it') : CX own P m2 x V sv Vs true Vm' tn T pn Q k' it' B := by
  have o := ow hn
  obtain ⟨h1, h2, h3, h4, h5, h6, h7, h8, h9⟩ := h
  exact ⟨(h1.sm (f1.sm (o 2 3 (by decide)))).sm (f2.sm (o 2 6 (by decide))), hM.sm (f2.sm (o 3 6 (by decide))), (h3.sm (f1.sm (o 4 3 (by decide)))).sm (f2.sm (o 4 6 (by decide))), (h4.sm (f1.sm (o 5 3 (by decide)))).sm (f2.sm (o 5 6 (by decide))), hR, (h6.sm (f1.sm (o 7 3 (by decide)))).sm (f2.sm (o 7 6 (by decide))), (h7.sm (f1.sm (o 8 3 (by decide)))).sm (f2.sm (o 8 6 (by decide))), (h8.sm (f1.sm (o 9 3 (by decide)))).sm (f2.sm (o 9 6 (by decide))), (h9.sm (f1.sm (o 0 3 (by decide)))).sm (f2.sm (o 0 6 (by decide)))⟩
theorem c_start {rc : Nat} : f_X2_start P rc m = some (0, zfp (zfp m 45 rc 0) 46 rc 1) := by
  unfold f_X2_start
  rw [zbo_1, zl_s, zgd_t, zl_s]
theorem bR.start {rc : Nat} (h : bR own P m rc mk k it) : bR own P (zfp (zfp m 45 rc 0) 46 rc 1) rc true 0 it ∧ Fz own rc m (zfp (zfp m 45 rc 0) 46 rc 1) := by
  obtain ⟨h1, h2, h3, h4, h5, h6⟩ := h
  exact ⟨⟨h1, h2, h3, by rw [zf_ne (Or.inl (by omega)), zf_eq]; rfl, by rw [zf_eq]; rfl, by intro i hi; omega⟩, ((Fo.zfp h1).trans (Fo.zfp h1)).z⟩
theorem bY.mark (h : bY own P m y V sv Vs mk Vm tn T pn Q k it) {Vm' : Nat → Int32} : bY own P (zfp (zfp (wA m (zR P 202 y) Vm') 205 y 1) 210 y 0) y V sv Vs true Vm' tn T pn Q 0 it ∧ Fz own y m (zfp (zfp (wA m (zR P 202 y) Vm') 205 y 1) 210 y 0) := by
  obtain ⟨h1, h2, h3, h4, ⟨h5, h5'⟩, ⟨h6, h6'⟩, ⟨h7, h7'⟩, ⟨h8, h8'⟩, ⟨h9, h9'⟩, h10, b, h11⟩ := h
  have e : ∀ f, f ≠ 205 → f ≠ 210 → zf (zfp (zfp (wA m (zR P 202 y) Vm') 205 y 1) 210 y 0) f y = zf m f y := fun f a c => by
    rw [zf_ne (Or.inl c), zf_ne (Or.inl a)]
    rfl
  have ea : ∀ j, j ∈ yRows → j ≠ 202 → za (zfp (zfp (wA m (zR P 202 y) Vm') 205 y 1) 210 y 0) (zR P j y) = za m (zR P j y) := fun j hj hn => za_wA_ne (yne h1 hj (by decide) hn)
  refine ⟨⟨h1, h2, h3, by rw [ea _ (by decide) (by decide)]; exact h4, ⟨by rw [e _ (by decide) (by decide)]; exact h5, by rw [ea _ (by decide) (by decide)]; exact h5'⟩, ⟨by rw [zf_ne (Or.inl (by omega)), zf_eq]; rfl, za_wA⟩, ⟨by rw [e _ (by decide) (by decide)]; exact h7, by rw [ea _ (by decide) (by decide)]; exact h7'⟩, ⟨by rw [e _ (by decide) (by decide)]; exact h8, fun i hi => by rw [ea _ (by decide) (by decide)]; exact h8' i hi⟩, ⟨by rw [zf_eq]; rfl, by intro i hi; omega⟩, by rw [e _ (by decide) (by decide)]; exact h10, b, by rw [e _ (by decide) (by decide)]; exact h11⟩, ?_⟩
  exact (((Fo_wA (h3 202 (by decide))).trans (Fo.zfp h2)).trans (Fo.zfp h2)).z
theorem bY.save (h : bY own P m y V sv Vs mk Vm tn T pn Q k it) {Vs' : Nat → Int32} : bY own P (zfp (wA m (zR P 201 y) Vs') 204 y 1) y V true Vs' mk Vm tn T pn Q k it ∧ Fz own y m (zfp (wA m (zR P 201 y) Vs') 204 y 1) := by
  obtain ⟨h1, h2, h3, h4, ⟨h5, h5'⟩, ⟨h6, h6'⟩, ⟨h7, h7'⟩, ⟨h8, h8'⟩, ⟨h9, h9'⟩, h10, b, h11⟩ := h
  have e : ∀ f, f ≠ 204 → zf (zfp (wA m (zR P 201 y) Vs') 204 y 1) f y = zf m f y := fun f a => by
    rw [zf_ne (Or.inl a)]
    rfl
  have ea : ∀ j, j ∈ yRows → j ≠ 201 → za (zfp (wA m (zR P 201 y) Vs') 204 y 1) (zR P j y) = za m (zR P j y) := fun j hj hn => za_wA_ne (yne h1 hj (by decide) hn)
  refine ⟨⟨h1, h2, h3, by rw [ea _ (by decide) (by decide)]; exact h4, ⟨by rw [zf_eq]; rfl, za_wA⟩, ⟨by rw [e _ (by decide)]; exact h6, by rw [ea _ (by decide) (by decide)]; exact h6'⟩, ⟨by rw [e _ (by decide)]; exact h7, by rw [ea _ (by decide) (by decide)]; exact h7'⟩, ⟨by rw [e _ (by decide)]; exact h8, fun i hi => by rw [ea _ (by decide) (by decide)]; exact h8' i hi⟩, ⟨by rw [e _ (by decide)]; exact h9, fun i hi => (h9' i hi).sm (fun j => by rw [ea _ (by decide) (by decide)]) (fun j => by rw [ea _ (by decide) (by decide)])⟩, by rw [e _ (by decide)]; exact h10, b, by rw [e _ (by decide)]; exact h11⟩, ?_⟩
  exact ((Fo_wA (h3 201 (by decide))).trans (Fo.zfp h2)).z
theorem L_mark : Call own P x y (f_X10_mark P x) (f_X11_mark P y) := by
  intro B m hB h0
  obtain ⟨hn, V, sv, Vs, mk, Vm, tn, T, pn, Q, k, it, hC, hY, hI⟩ := h0
  obtain ⟨g, N, R, Tt, hb⟩ := hC.1
  obtain ⟨g', c1, c2, -⟩ := hC.2.1
  have hIn := hb.2.2.2.2.2
  have h12 := hIn.st.2.1
  have h8 := hIn.2.1.2
  have ok := hY.1
  have o := ow hn
  obtain ⟨m1, k1, k2, k3, k4, k5⟩ := c_copy (c1.mf h12) (hb.1.mf h12) c1.2.2.1 (o 2 3 (by decide)) c2 hb.2.1 hb.2.2.1 hb.2.2.2.2.1 hIn
  have e21 : zf (zfp (zfp m1 45 (zR P 184 x) 0) 46 (zR P 184 x) 1) 21 (zR P 180 x) = nI N := by
    rw [zf_ne (Or.inl (by omega)), zf_ne (Or.inl (by omega)), k5.2.1 _ _ (by rw [hb.1.ou]; exact o 2 3 (by decide))]
    exact hb.2.2.1.1.1
  have hRs := (hC.2.2.2.2.1.sm (k5.z.sm (o 6 3 (by decide)))).start
  have agree : ∀ j, j < 723 → cpV V Vm 723 j = V j := fun j hj => cpV_lt hj
  have hM1 : bC own P m1 (zR P 181 x) true (cpV V Vm 723) B := ⟨g', c1, k2, fun _ => ⟨N, R, k3.cgV hIn.ru.l h12 (fun j hj => agree j (by omega)), by rw [k4, agree _ (by omega)], hIn.cg (fun j hj => agree j (by omega))⟩⟩
  have hC2 := hC.mk2 hn k5.z hRs.2 hM1 hRs.1
  have hY2 := (hY.sm (k5.z.sm (o 1 3 (by decide)))).sm (hRs.2.sm (o 1 6 (by decide)))
  unfold f_X10_mark f_X11_mark
  generalize hm2 : zfp (zfp m1 45 (zR P 184 x) 0) 46 (zR P 184 x) 1 = m2 at *
  refine ⟨nI N, m2, _, ?_, ?_, hn, V, sv, Vs, true, cpV V Vm 723, tn, T, pn, Q, 0, it, ?_, hY2.mark.1, hI.1, by omega, (fun q => by cases q), fun _ => ⟨(agree _ (by omega)).symm, fun r R' h1 h2 h3 => RuK.cgV agree (by omega)⟩⟩
  · rw [zl_s, zl_s, k1, zb_s, zl_s, c_start, zb_s, zl_s, hm2, e21]
  · have eV : za m2 (zR P 200 y) = V := hY2.2.2.2.1
    have eM : za m2 (zR P 202 y) = Vm := hY2.2.2.2.2.2.1.2
    have e3 : za (zfp (zfp (wA m2 (zR P 202 y) (cpV V Vm 723)) 205 y 1) 210 y 0) (zR P 200 y) = V := by
      have := hY2.mark (Vm' := cpV V Vm 723)
      exact this.1.2.2.2.1
    rw [zl_s, zl_s, r_copies (yne ok (by decide) (by decide) (by decide)) ok.1 ok.2.2.1, zb_s, eV, eM, zbo_1, zgd_t, zl_s, zl_s, zl_s, ok.1, show zin (144 : Int32) 723 = true by decide, zgd_t, show (144 : Int32).toNatClampNeg = 144 by decide, e3, hIn.st.1]
  · exact (hC2.sm hn hY2.mark.2).mono (by omega)
theorem L_save : Call own P x y (f_X10_save P x) (f_X11_save P y) := by
  intro B m hB h0
  obtain ⟨hn, V, sv, Vs, mk, Vm, tn, T, pn, Q, k, it, hC, hY, hI⟩ := h0
  obtain ⟨g, N, R, Tt, hb⟩ := hC.1
  obtain ⟨g', c1, c2, -⟩ := hC.2.2.1
  have hIn := hb.2.2.2.2.2
  have h12 := hIn.st.2.1
  have ok := hY.1
  have o := ow hn
  obtain ⟨m1, k1, k2, k3, k4, k5⟩ := c_copy (c1.mf h12) (hb.1.mf h12) c1.2.2.1 (o 2 4 (by decide)) c2 hb.2.1 hb.2.2.1 hb.2.2.2.2.1 hIn
  have e21 : zf (zfp m1 188 x 1) 21 (zR P 180 x) = nI N := by
    rw [zf_ne (Or.inl (by omega)), k5.2.1 _ _ (by rw [hb.1.ou]; exact o 2 4 (by decide))]
    exact hb.2.2.1.1.1
  have agree : ∀ j, j < 723 → cpV V Vs 723 j = V j := fun j hj => cpV_lt hj
  have hM1 : bC own P m1 (zR P 182 x) true (cpV V Vs 723) B := ⟨g', c1, k2, fun _ => ⟨N, R, k3.cgV hIn.ru.l h12 (fun j hj => agree j (by omega)), by rw [k4, agree _ (by omega)], hIn.cg (fun j hj => agree j (by omega))⟩⟩
  have hC2 := hC.save hn k5.z hM1
  have fx : Fz own x m1 (zfp m1 188 x 1) := (Fo.zfp hC.2.2.2.2.2.2.2.2.1).z
  have hY2 := (hY.sm (k5.z.sm (o 1 4 (by decide)))).sm (fx.sm (o 1 0 (by decide)))
  unfold f_X10_save f_X11_save
  generalize hm2 : zfp m1 188 x 1 = m2 at *
  refine ⟨nI N, m2, _, ?_, ?_, hn, V, true, cpV V Vs 723, mk, Vm, tn, T, pn, Q, k, it, ?_, hY2.save.1, hI⟩
  · rw [zl_s, zl_s, k1, zb_s, zbo_1, zgd_t, zl_s, zl_s, hm2, e21]
  · have eV : za m2 (zR P 200 y) = V := hY2.2.2.2.1
    have eM : za m2 (zR P 201 y) = Vs := hY2.2.2.2.2.1.2
    have e3 : za (zfp (wA m2 (zR P 201 y) (cpV V Vs 723)) 204 y 1) (zR P 200 y) = V := by
      have := hY2.save (Vs' := cpV V Vs 723)
      exact this.1.2.2.2.1
    rw [zl_s, zl_s, r_copies (yne ok (by decide) (by decide) (by decide)) ok.1 ok.2.1, zb_s, eV, eM, zbo_1, zgd_t, zl_s, zl_s, ok.1, show zin (144 : Int32) 723 = true by decide, zgd_t, show (144 : Int32).toNatClampNeg = 144 by decide, e3, hIn.st.1]
  · exact (hC2.sm hn hY2.save.2).mono (by omega)
theorem L_restore : Call own P x y (f_X10_restore P x) (f_X11_restore P y) := by
  intro B m hB h0
  have hrel := h0.same
  obtain ⟨hn, V, sv, Vs, mk, Vm, tn, T, pn, Q, k, it, hC, hY, hI⟩ := h0
  have ok := hY.1
  have o := ow hn
  have e188 := hC.2.2.2.2.2.2.2.2.2
  have e204 := hY.2.2.2.2.1.1
  unfold f_X10_restore f_X11_restore
  cases sv with
  | false =>
    rw [if_pos (show zf m 188 x = 0 from e188)]
    exact ⟨-1, m, m, rfl, by rw [if_pos (show zf m 204 y = 0 from e204)], hrel⟩
  | true =>
    rw [if_neg (by rw [e188]; decide), zl_s, c_stop, zb_s]
    have hC1 := hC.stop hn
    have f1 := hC.2.2.2.2.1.stop.2
    have hY1 := hY.sm (f1.sm (o 1 6 (by decide)))
    generalize zfp (zfp m 45 (zR P 184 x) 0) 46 (zR P 184 x) 0 = m1 at *
    obtain ⟨g, N0, R0, Tt, hb⟩ := hC1.1
    obtain ⟨g', c1, c2, c3⟩ := hC1.2.2.1
    obtain ⟨N, R, p1, p2, hIn⟩ := c3 rfl
    have h12 := hIn.st.2.1
    have hL := hIn.ru.l
    obtain ⟨m2, k1, k2, k3, k4, k5⟩ := c_copy (hb.1.mf h12) (c1.mf h12) hb.1.2.2.1 (o 4 2 (by decide)) hb.2.1 c2 p1 p2 hIn
    have agree : ∀ j, j < 706 → uV (cpV Vs V 723) 706 0 j = Vs j := fun j hj => by rw [uV_n (by omega), cpV_lt (by omega)]
    have hou := hb.1.ou
    have hot : own (zR P 35 (zR P 180 x)) = zR P 180 x := hb.1.2.1.2.2.2.2.2.2.2.2.2.2.1
    have f3 : Fz own (zR P 180 x) m1 (zfp m2 161 (zR P 35 (zR P 180 x)) 0) := (k5.trans (Fo.zfp hot)).z
    have hb2 : bM own P (zfp m2 161 (zR P 35 (zR P 180 x)) 0) (zR P 180 x) (uV (cpV Vs V 723) 706 0) B := ⟨g, N, R, 0, hb.1, k2, (k3.updF hL (Or.inr (Or.inr (Or.inr rfl)))).cgV hL h12 agree, ⟨uV_s, by omega, zf_eq, by intro i k hi; omega⟩, by rw [zf_ne (Or.inl (by omega)), k4, agree _ (by omega)], hIn.cg agree⟩
    have e21 : zf (zfp m2 161 (zR P 35 (zR P 180 x)) 0) 21 (zR P 180 x) = nI N := by
      rw [zf_ne (Or.inl (by omega))]
      exact k3.1.1
    have hC2 := hC1.main hn f3 hb2 (Nat.le_refl B)
    have hY2 := hY1.sm (f3.sm (o 1 2 (by decide)))
    rw [zl_s, zl_s, k1, zb_s, zl_s, zl_s, zl_s, zl_s, e21]
    generalize zfp m2 161 (zR P 35 (zR P 180 x)) 0 = m3 at *
    refine ⟨nI N, m3, _, rfl, ?_, REL.chg hn (hC2.mono (by omega)) hY2 hI.1⟩
    have e204' := hY2.2.2.2.2.1.1
    have eV : za (zfp (zfp m3 205 y 0) 210 y 0) (zR P 200 y) = V := hY2.2.2.2.1
    have eM : za (zfp (zfp m3 205 y 0) 210 y 0) (zR P 201 y) = Vs := hY2.2.2.2.2.1.2
    rw [if_neg (by rw [e204']; decide), r_changes, zb_s, zl_s, zl_s, r_copies (yne ok (by decide) (by decide) (by decide)) ok.2.1 ok.1, zb_s, eV, eM, zl_s, ok.1, show zin (706 : Int32) 723 = true by decide, zgd_t, show (706 : Int32).toNatClampNeg = 706 by decide, zap_wA, zl_s, zl_s, ok.1, show zin (144 : Int32) 723 = true by decide, zgd_t, show (144 : Int32).toNatClampNeg = 144 by decide, za_wA, agree _ (by omega), hIn.st.1]
end CP

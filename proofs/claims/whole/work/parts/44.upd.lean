/-! ===== the relation, part by part anew ===== -/
theorem rng {i : Int32} {lo hi : Nat} (hh : hi < 2 ^ 30) (hl : lo < 2 ^ 30) (h1 : nI lo ≤ i) (h2 : i ≤ nI hi) : ∃ k, lo ≤ k ∧ k ≤ hi ∧ i = nI k := by
  have h0 : (0 : Int32) ≤ i := Int32.le_trans (nI_pos' (show lo < 2 ^ 31 by omega)) h1
  have h3 : i < nI (hi + 1) := Int32.lt_of_le_of_lt h2 ((n_lt (by omega) (by omega)).mpr (by omega))
  obtain ⟨d, d1, d2⟩ := i_lt_of h0 h3 (by omega)
  rw [d2] at h1 h2
  rw [n_le (by omega) (by omega)] at h1 h2
  exact ⟨d, h1, h2, d2⟩
theorem yne {P : zSt} {y : Nat} (ok : yOK P y) {i j : Nat} (hi : i ∈ yRows) (hj : j ∈ yRows) (h : i ≠ j) : zR P i y ≠ zR P j y := by
  have h11 := ok.2.2.2.2.2.2.2.2.2.2
  have key : ∀ a b : Fin 10, a ≠ b → zR P (yRows[a.val]'a.isLt) y ≠ zR P (yRows[b.val]'b.isLt) y := by
    intro a b hab q
    have e : ∀ c : Fin 10, ([zR P 200 y, zR P 201 y, zR P 202 y, zR P 203 y, zR P 206 y, zR P 208 y, zR P 209 y, zR P 211 y, zR P 215 y, zR P 217 y] : List Nat)[c.val]'c.isLt = zR P (yRows[c.val]'c.isLt) y := by
      intro c
      match c with
      | ⟨0, _⟩ => rfl
      | ⟨1, _⟩ => rfl
      | ⟨2, _⟩ => rfl
      | ⟨3, _⟩ => rfl
      | ⟨4, _⟩ => rfl
      | ⟨5, _⟩ => rfl
      | ⟨6, _⟩ => rfl
      | ⟨7, _⟩ => rfl
      | ⟨8, _⟩ => rfl
      | ⟨9, _⟩ => rfl
    rw [← e a, ← e b] at q
    exact hab (Fin.ext ((List.getElem_inj h11).mp q))
  obtain ⟨a, ha, ea⟩ := List.mem_iff_getElem.mp hi
  obtain ⟨b, hb, eb⟩ := List.mem_iff_getElem.mp hj
  have := key ⟨a, ha⟩ ⟨b, hb⟩ (fun q => h (by rw [← ea, ← eb]; congr 1; exact congrArg Fin.val q))
  rw [← ea, ← eb]
  exact this
theorem Fo_wA {own : Nat → Nat} {m : zM} {u a : Nat} {V : Nat → Int32} (h : own a = u) : Fo own u m (wA m a V) :=
  ⟨rfl, fun _ _ _ => rfl, fun b i q => by
    have : b ≠ a := fun e => q (by rw [e, h])
    rw [za_wA_ne this]⟩
section UP
variable {own : Nat → Nat} {P : zSt} {m m' : zM} {x y B B' : Nat} {V V' : Nat → Int32} {sv mk : Bool} {Vs Vm T Q : Nat → Int32} {tn pn k : Nat} {it : zIt}
theorem bY.wV (h : bY own P m y V sv Vs mk Vm tn T pn Q k it) : bY own P (wA m (yv P y) V') y V' sv Vs mk Vm tn T pn Q k it := by
  obtain ⟨h1, h2, h3, h4, ⟨h5, h5'⟩, ⟨h6, h6'⟩, ⟨h7, h7'⟩, ⟨h8, h8'⟩, ⟨h9, h9'⟩, h10, b, h11⟩ := h
  have e : ∀ j, j ∈ yRows → j ≠ 200 → za (wA m (yv P y) V') (zR P j y) = za m (zR P j y) := fun j hj hn => za_wA_ne (yne h1 hj (by decide) hn)
  exact ⟨h1, h2, h3, za_wA, ⟨h5, by rw [e _ (by decide) (by decide)]; exact h5'⟩, ⟨h6, by rw [e _ (by decide) (by decide)]; exact h6'⟩, ⟨h7, by rw [e _ (by decide) (by decide)]; exact h7'⟩, ⟨h8, fun i hi => by rw [e _ (by decide) (by decide)]; exact h8' i hi⟩, ⟨h9, fun i hi => (h9' i hi).sm (fun j => by rw [e _ (by decide) (by decide)]) (fun j => by rw [e _ (by decide) (by decide)])⟩, h10, b, h11⟩
theorem r_changes : f_X11_changes P y m = some (0, zfp (zfp m 205 y 0) 210 y 0) := by
  unfold f_X11_changes
  rw [zbo_0, zgd_t, zl_s, zl_s]
theorem bY.stop (h : bY own P m y V sv Vs mk Vm tn T pn Q k it) : bY own P (zfp (zfp m 205 y 0) 210 y 0) y V sv Vs false Vm tn T pn Q 0 it := by
  obtain ⟨h1, h2, h3, h4, ⟨h5, h5'⟩, ⟨h6, h6'⟩, ⟨h7, h7'⟩, ⟨h8, h8'⟩, ⟨h9, h9'⟩, h10, b, h11⟩ := h
  have e : ∀ f, f ≠ 205 → f ≠ 210 → zf (zfp (zfp m 205 y 0) 210 y 0) f y = zf m f y := fun f a c => by rw [zf_ne (Or.inl c), zf_ne (Or.inl a)]
  exact ⟨h1, h2, h3, h4, ⟨by rw [e _ (by decide) (by decide)]; exact h5, h5'⟩, ⟨by rw [zf_ne (Or.inl (by omega)), zf_eq]; rfl, h6'⟩, ⟨by rw [e _ (by decide) (by decide)]; exact h7, h7'⟩, ⟨by rw [e _ (by decide) (by decide)]; exact h8, h8'⟩, ⟨by rw [zf_eq]; rfl, by intro i hi; omega⟩, by rw [e _ (by decide) (by decide)]; exact h10, b, by rw [e _ (by decide) (by decide)]; exact h11⟩
theorem bY.tn0 (h : bY own P m y V sv Vs mk Vm tn T pn Q k it) : bY own P (zfp m 207 y 0) y V sv Vs mk Vm 0 T pn Q k it := by
  obtain ⟨h1, h2, h3, h4, ⟨h5, h5'⟩, ⟨h6, h6'⟩, ⟨h7, h7'⟩, ⟨h8, h8'⟩, ⟨h9, h9'⟩, h10, b, h11⟩ := h
  have e : ∀ f, f ≠ 207 → zf (zfp m 207 y 0) f y = zf m f y := fun f c => zf_ne (Or.inl c)
  exact ⟨h1, h2, h3, h4, ⟨by rw [e _ (by decide)]; exact h5, h5'⟩, ⟨by rw [e _ (by decide)]; exact h6, h6'⟩, ⟨by rw [zf_eq]; rfl, h7'⟩, ⟨by rw [e _ (by decide)]; exact h8, h8'⟩, ⟨by rw [e _ (by decide)]; exact h9, fun i hi => (h9' i hi).sm (fun _ => rfl) (fun _ => rfl)⟩, by rw [e _ (by decide)]; exact h10, b, by rw [e _ (by decide)]; exact h11⟩
/-- owners apart: which of the ten -/
theorem own_ne (hn : (owners P x y).Nodup) : y ≠ zR P 180 x ∧ y ≠ zR P 184 x ∧ y ≠ zR P 185 x ∧ y ≠ zR P 186 x ∧ y ≠ zR P 187 x ∧ y ≠ zR P 181 x ∧ y ≠ zR P 182 x ∧ y ≠ zR P 183 x ∧ y ≠ x := by
  have h := ow hn
  exact ⟨h 1 2 (by decide), h 1 6 (by decide), h 1 7 (by decide), h 1 8 (by decide), h 1 9 (by decide), h 1 3 (by decide), h 1 4 (by decide), h 1 5 (by decide), h 1 0 (by decide)⟩
theorem CX.sm (hn : (owners P x y).Nodup) (h : CX own P m x V sv Vs mk Vm tn T pn Q k it B) (f : Fz own y m m') : CX own P m' x V sv Vs mk Vm tn T pn Q k it B := by
  have o := ow hn
  obtain ⟨h1, h2, h3, h4, h5, h6, h7, h8, h9⟩ := h
  exact ⟨h1.sm (f.sm (o 2 1 (by decide))), h2.sm (f.sm (o 3 1 (by decide))), h3.sm (f.sm (o 4 1 (by decide))), h4.sm (f.sm (o 5 1 (by decide))), h5.sm (f.sm (o 6 1 (by decide))), h6.sm (f.sm (o 7 1 (by decide))), h7.sm (f.sm (o 8 1 (by decide))), h8.sm (f.sm (o 9 1 (by decide))), h9.sm (f.sm (o 0 1 (by decide)))⟩
theorem CX.main (hn : (owners P x y).Nodup) (h : CX own P m x V sv Vs mk Vm tn T pn Q k it B) (f : Fz own (zR P 180 x) m m') (hM : bM own P m' (zR P 180 x) V' B') (hB : B ≤ B') : CX own P m' x V' sv Vs mk Vm tn T pn Q k it B' := by
  have o := ow hn
  obtain ⟨h1, h2, h3, h4, h5, h6, h7, h8, h9⟩ := h
  exact ⟨hM, (h2.sm (f.sm (o 3 2 (by decide)))).mono hB, (h3.sm (f.sm (o 4 2 (by decide)))).mono hB, (h4.sm (f.sm (o 5 2 (by decide)))).off, h5.sm (f.sm (o 6 2 (by decide))), h6.sm (f.sm (o 7 2 (by decide))), h7.sm (f.sm (o 8 2 (by decide))), h8.sm (f.sm (o 9 2 (by decide))), h9.sm (f.sm (o 0 2 (by decide)))⟩
theorem CX.rec (hn : (owners P x y).Nodup) (h : CX own P m x V sv Vs mk Vm tn T pn Q k it B) (f : Fz own (zR P 184 x) m m') {mk' : Bool} {k' : Nat} {it' : zIt} (hR : bR own P m' (zR P 184 x) mk' k' it') (hmk : mk' = mk ∨ mk' = false) : CX own P m' x V sv Vs mk' Vm tn T pn Q k' it' B := by
  have o := ow hn
  obtain ⟨h1, h2, h3, h4, h5, h6, h7, h8, h9⟩ := h
  refine ⟨h1.sm (f.sm (o 2 6 (by decide))), ?_, h3.sm (f.sm (o 4 6 (by decide))), h4.sm (f.sm (o 5 6 (by decide))), hR, h6.sm (f.sm (o 7 6 (by decide))), h7.sm (f.sm (o 8 6 (by decide))), h8.sm (f.sm (o 9 6 (by decide))), h9.sm (f.sm (o 0 6 (by decide)))⟩
  rcases hmk with rfl | rfl
  · exact h2.sm (f.sm (o 3 6 (by decide)))
  · exact (h2.sm (f.sm (o 3 6 (by decide)))).off
theorem CX.txt (hn : (owners P x y).Nodup) (h : CX own P m x V sv Vs mk Vm tn T pn Q k it B) (f : Fz own (zR P 185 x) m m') {tn' : Nat} {T' : Nat → Int32} (hT : bT own P m' (zR P 185 x) tn' T') : CX own P m' x V sv Vs mk Vm tn' T' pn Q k it B := by
  have o := ow hn
  obtain ⟨h1, h2, h3, h4, h5, h6, h7, h8, h9⟩ := h
  exact ⟨h1.sm (f.sm (o 2 7 (by decide))), h2.sm (f.sm (o 3 7 (by decide))), h3.sm (f.sm (o 4 7 (by decide))), h4.sm (f.sm (o 5 7 (by decide))), h5.sm (f.sm (o 6 7 (by decide))), hT, h7.sm (f.sm (o 8 7 (by decide))), h8.sm (f.sm (o 9 7 (by decide))), h9.sm (f.sm (o 0 7 (by decide)))⟩
theorem CX.prt (hn : (owners P x y).Nodup) (h : CX own P m x V sv Vs mk Vm tn T pn Q k it B) (f : Fz own (zR P 186 x) m m') {tn' : Nat} {T' : Nat → Int32} (hT : bT own P m' (zR P 186 x) tn' T') : CX own P m' x V sv Vs mk Vm tn T tn' T' k it B := by
  have o := ow hn
  obtain ⟨h1, h2, h3, h4, h5, h6, h7, h8, h9⟩ := h
  exact ⟨h1.sm (f.sm (o 2 8 (by decide))), h2.sm (f.sm (o 3 8 (by decide))), h3.sm (f.sm (o 4 8 (by decide))), h4.sm (f.sm (o 5 8 (by decide))), h5.sm (f.sm (o 6 8 (by decide))), h6.sm (f.sm (o 7 8 (by decide))), hT, h8.sm (f.sm (o 9 8 (by decide))), h9.sm (f.sm (o 0 8 (by decide)))⟩
theorem CX.rdr (hn : (owners P x y).Nodup) (h : CX own P m x V sv Vs mk Vm tn T pn Q k it B) (f : Fo own (zR P 187 x) m m') : CX own P m' x V sv Vs mk Vm tn T pn Q k it B := by
  have o := ow hn
  have g := f
  obtain ⟨h1, h2, h3, h4, h5, h6, h7, h8, h9⟩ := h
  replace f := f.z
  refine ⟨h1.sm (f.sm (o 2 9 (by decide))), h2.sm (f.sm (o 3 9 (by decide))), h3.sm (f.sm (o 4 9 (by decide))), h4.sm (f.sm (o 5 9 (by decide))), h5.sm (f.sm (o 6 9 (by decide))), h6.sm (f.sm (o 7 9 (by decide))), h7.sm (f.sm (o 8 9 (by decide))), ?_, h9.sm (f.sm (o 0 9 (by decide)))⟩
  obtain ⟨tt, ⟨d1, d2, d3, d4, d5, d6, d7⟩, q⟩ := h8
  exact ⟨tt, ⟨d1, d2, d3, d4, d5, d6, fun t ht => by unfold zr; rw [g.1]; exact d7 t ht⟩, q⟩
theorem CX.mark (hn : (owners P x y).Nodup) (h : CX own P m x V sv Vs mk Vm tn T pn Q k it B) (f : Fz own (zR P 181 x) m m') {Vm' : Nat → Int32} {mk' : Bool} (hM : bC own P m' (zR P 181 x) mk' Vm' B) {k' : Nat} {it' : zIt} (hR : bR own P m (zR P 184 x) mk' k' it') : CX own P m' x V sv Vs mk' Vm' tn T pn Q k' it' B := by
  have o := ow hn
  obtain ⟨h1, h2, h3, h4, h5, h6, h7, h8, h9⟩ := h
  exact ⟨h1.sm (f.sm (o 2 3 (by decide))), hM, h3.sm (f.sm (o 4 3 (by decide))), h4.sm (f.sm (o 5 3 (by decide))), hR.sm (f.sm (o 6 3 (by decide))), h6.sm (f.sm (o 7 3 (by decide))), h7.sm (f.sm (o 8 3 (by decide))), h8.sm (f.sm (o 9 3 (by decide))), h9.sm (f.sm (o 0 3 (by decide)))⟩
theorem CX.save (hn : (owners P x y).Nodup) (h : CX own P m x V sv Vs mk Vm tn T pn Q k it B) (f : Fz own (zR P 182 x) m m') {Vs' : Nat → Int32} (hM : bC own P m' (zR P 182 x) true Vs' B) : CX own P (zfp m' 188 x 1) x V true Vs' mk Vm tn T pn Q k it B := by
  have o := ow hn
  obtain ⟨h1, h2, h3, h4, h5, h6, h7, h8, h9⟩ := h
  have g : Fz own x m' (zfp m' 188 x 1) := (Fo.zfp h9.1).z
  exact ⟨(h1.sm (f.sm (o 2 4 (by decide)))).sm (g.sm (o 2 0 (by decide))), (h2.sm (f.sm (o 3 4 (by decide)))).sm (g.sm (o 3 0 (by decide))), hM.sm (g.sm (o 4 0 (by decide))), (h4.sm (f.sm (o 5 4 (by decide)))).sm (g.sm (o 5 0 (by decide))), (h5.sm (f.sm (o 6 4 (by decide)))).sm (g.sm (o 6 0 (by decide))), (h6.sm (f.sm (o 7 4 (by decide)))).sm (g.sm (o 7 0 (by decide))), (h7.sm (f.sm (o 8 4 (by decide)))).sm (g.sm (o 8 0 (by decide))), (h8.sm (f.sm (o 9 4 (by decide)))).sm (g.sm (o 9 0 (by decide))), h9.1, zf_eq⟩
theorem CX.trial (hn : (owners P x y).Nodup) (h : CX own P m x V sv Vs mk Vm tn T pn Q k it B) (f : Fo own (zR P 183 x) m m') : CX own P m' x V sv Vs mk Vm tn T pn Q k it B := by
  have o := ow hn
  have f2 := f.z
  obtain ⟨h1, h2, h3, ⟨g, a1, a2, -⟩, h5, h6, h7, h8, h9⟩ := h
  exact ⟨h1.sm (f2.sm (o 2 5 (by decide))), h2.sm (f2.sm (o 3 5 (by decide))), h3.sm (f2.sm (o 4 5 (by decide))), ⟨g, a1, a2.to f.1, fun q => by cases q⟩, h5.sm (f2.sm (o 6 5 (by decide))), h6.sm (f2.sm (o 7 5 (by decide))), h7.sm (f2.sm (o 8 5 (by decide))), h8.sm (f2.sm (o 9 5 (by decide))), h9.sm (f2.sm (o 0 5 (by decide)))⟩
theorem c_stop {rc : Nat} : f_X2_stop P rc m = some (0, zfp (zfp m 45 rc 0) 46 rc 0) := by
  unfold f_X2_stop
  rw [zbo_0, zl_s, zgd_t, zl_s]
theorem bR.stop {rc : Nat} (h : bR own P m rc mk k it) : bR own P (zfp (zfp m 45 rc 0) 46 rc 0) rc false 0 it ∧ Fz own rc m (zfp (zfp m 45 rc 0) 46 rc 0) := by
  obtain ⟨h1, h2, h3, h4, h5, h6⟩ := h
  exact ⟨⟨h1, h2, h3, by rw [zf_ne (Or.inl (by omega)), zf_eq]; rfl, by rw [zf_eq]; rfl, by intro i hi; omega⟩, ((Fo.zfp h1).trans (Fo.zfp h1)).z⟩
/-- both sides drop the record -/
theorem CX.stop (hn : (owners P x y).Nodup) (h : CX own P m x V sv Vs mk Vm tn T pn Q k it B) : CX own P (zfp (zfp m 45 (zR P 184 x) 0) 46 (zR P 184 x) 0) x V sv Vs false Vm tn T pn Q 0 it B :=
  h.rec hn h.2.2.2.2.1.stop.2 h.2.2.2.2.1.stop.1 (Or.inr rfl)
theorem c_hasB {u N : Nat} {i : Int32} (hN : zf m 21 u = nI N) (h12 : N ≤ 12) : f_X1_hasBackend P u i m = some (bI (decide (0 ≤ i ∧ i < nI N)), m) := by
  unfold f_X1_hasBackend
  rw [hN, c_isWithin, zb_s, zbo_bI, zgd_t]
  dsimp only
  congr 3
  apply decide_eq_decide.mpr
  exact ⟨fun q => ⟨q.1, (i_le_pred (by omega) q.1).mp q.2⟩, fun q => ⟨q.1, (i_le_pred (by omega) q.1).mpr q.2⟩⟩
theorem c_hasR {u R : Nat} {i : Int32} (hN : zf m 24 u = nI R) (h8 : R ≤ 8) : f_X1_hasRule P u i m = some (bI (decide (0 ≤ i ∧ i < nI R)), m) := by
  unfold f_X1_hasRule
  rw [hN, c_isWithin, zb_s, zbo_bI, zgd_t]
  dsimp only
  congr 3
  apply decide_eq_decide.mpr
  exact ⟨fun q => ⟨q.1, (i_le_pred (by omega) q.1).mp q.2⟩, fun q => ⟨q.1, (i_le_pred (by omega) q.1).mpr q.2⟩⟩
theorem r_isB (ok : yOK P y) {N : Nat} {i : Int32} (hN : za m (yv P y) 144 = nI N) (h12 : N ≤ 12) : f_X11_isBackend P y i m = some (bI (decide (0 ≤ i ∧ i < nI N)), m) := by
  unfold f_X11_isBackend
  rw [zl_s, ok.1, show zin 144 723 = true by decide, zgd_t, show (144 : Int32).toNatClampNeg = 144 by decide, hN, r_isIn, zb_s, zbo_bI, zgd_t]
  dsimp only
  congr 3
  apply decide_eq_decide.mpr
  exact ⟨fun q => ⟨q.1, (i_le_pred (by omega) q.1).mp q.2⟩, fun q => ⟨q.1, (i_le_pred (by omega) q.1).mpr q.2⟩⟩
theorem r_isR (ok : yOK P y) {R : Nat} {i : Int32} (hN : za m (yv P y) 230 = nI R) (h8 : R ≤ 8) : f_X11_isRule P y i m = some (bI (decide (0 ≤ i ∧ i < nI R)), m) := by
  unfold f_X11_isRule
  rw [zl_s, ok.1, show zin 230 723 = true by decide, zgd_t, show (230 : Int32).toNatClampNeg = 230 by decide, hN, r_isIn, zb_s, zbo_bI, zgd_t]
  dsimp only
  congr 3
  apply decide_eq_decide.mpr
  exact ⟨fun q => ⟨q.1, (i_le_pred (by omega) q.1).mp q.2⟩, fun q => ⟨q.1, (i_le_pred (by omega) q.1).mpr q.2⟩⟩
theorem InV.to2 {N N' R B : Nat} (h : InV V N R B) (hs : StV V' N') (hsv : SvV V') (hb : BdV V' N' B') (hsr : SrV V' N') (hk : ∀ j, 230 ≤ j → j < 695 → V' j = V j) : InV V' N' R B' := by
  have h8 := h.2.1.2
  refine ⟨hs, ⟨by rw [hk 230 (by omega) (by omega)]; exact h.2.1.1, h8⟩, hsv, hb, hsr, fun r hr => (h.ra hr).to ⟨fun j hj => hk _ (by omega) (by omega), fun t ht => ⟨hk _ (by omega) (by omega), hk _ (by omega) (by omega)⟩⟩⟩
end UP
/-- a call: both answer alike, and the relation stays -/
def Call (own : Nat → Nat) (P : zSt) (x y : Nat) (F G : zM → Option (Int32 × zM)) : Prop := ∀ B m, B + 400 < 1000000 → REL own P x y B m → ∃ r m1 m2, F m = some (r, m1) ∧ G m1 = some (r, m2) ∧ REL own P x y (B + 5) m2

/-! ===== calls that only tell ===== -/
theorem rng_not {w : Int32} {hi : Nat} (hh : hi < 2 ^ 30) (h : ¬ (0 ≤ w ∧ w ≤ nI hi)) : w.toInt < 0 ∨ (hi : Int) < w.toInt := by
  rw [Int32.le_iff_toInt_le, Int32.le_iff_toInt_le, n_int (by omega)] at h
  have h0 : (0 : Int32).toInt = 0 := rfl
  rw [h0] at h
  omega
theorem zsw_d {w : Int32} {lo : Int} {Fs : List (Option (Int32 × zM))} {Fd : Option (Int32 × zM)} (h : w.toInt < lo ∨ lo + Fs.length ≤ w.toInt) : zsw w lo Fs Fd = Fd := by
  unfold zsw
  by_cases h1 : w.toInt < lo
  · rw [if_pos h1]
  · rw [if_neg h1, List.getElem?_eq_none (by omega)]
    rfl
theorem zsw_n {k : Nat} {lo : Nat} {Fs : List (Option (Int32 × zM))} {Fd : Option (Int32 × zM)} (hk : k < 2 ^ 31) (h : lo ≤ k) : zsw (nI k) (lo : Int) Fs Fd = (Fs[k - lo]?).getD Fd := by
  unfold zsw
  rw [n_int hk, if_neg (by omega)]
  congr 2
  omega
theorem c_bprop {P : zSt} {m : zM} {b k : Nat} (hk : k < 12) : f_X0_property P b (nI k) m = some (zf m (bsl k) b, m) := by
  unfold f_X0_property
  have hc : k = 0 ∨ k = 1 ∨ k = 2 ∨ k = 3 ∨ k = 4 ∨ k = 5 ∨ k = 6 ∨ k = 7 ∨ k = 8 ∨ k = 9 ∨ k = 10 ∨ k = 11 := by omega
  rcases hc with rfl | rfl | rfl | rfl | rfl | rfl | rfl | rfl | rfl | rfl | rfl | rfl <;> exact zsw_n (lo := 0) (by decide) (by decide)
theorem c_bprop_d {P : zSt} {m : zM} {b : Nat} {w : Int32} (h : ¬ (0 ≤ w ∧ w ≤ 11)) : f_X0_property P b w m = some (-2, m) := by
  have := rng_not (hi := 11) (by decide) h
  unfold f_X0_property
  exact zsw_d (by simp only [List.length_cons, List.length_nil]; omega)
theorem c_tprop {P : zSt} {m : zM} {b k : Nat} (hk : k < 4) : f_X6_property P b (nI k) m = some (zf m (tsl k) b, m) := by
  unfold f_X6_property
  have hc : k = 0 ∨ k = 1 ∨ k = 2 ∨ k = 3 := by omega
  rcases hc with rfl | rfl | rfl | rfl <;> exact zsw_n (lo := 0) (by decide) (by decide)
theorem c_tprop_d {P : zSt} {m : zM} {b : Nat} {w : Int32} (h : ¬ (0 ≤ w ∧ w ≤ 3)) : f_X6_property P b w m = some (-2, m) := by
  have := rng_not (hi := 3) (by decide) h
  unfold f_X6_property
  exact zsw_d (by simp only [List.length_cons, List.length_nil]; omega)
theorem ifn {α : Sort _} {p : Prop} [Decidable p] {a b : α} (h : p) : (if ¬ p then a else b) = b := if_neg (fun q => q h)
section QA
variable {own : Nat → Nat} {P : zSt} {m m' : zM} {x y B B' u N R : Nat} {g : zGr} {V V' : Nat → Int32} {sv mk : Bool} {Vs Vm T Q : Nat → Int32} {tn pn k : Nat} {it : zIt}
theorem Call.qry {F G : zM → Option (Int32 × zM)} (h : ∀ B m, REL own P x y B m → ∃ r, F m = some (r, m) ∧ G m = some (r, m)) : Call own P x y F G := by
  intro B m _ hr
  obtain ⟨r, h1, h2⟩ := h B m hr
  exact ⟨r, m, m, h1, h2, hr.same⟩
theorem L_backend {i w : Int32} : Call own P x y (f_X10_backend P x i w) (f_X11_backend P y i w) := by
  apply Call.qry
  intro B m h0
  obtain ⟨hn, V, sv, Vs, mk, Vm, tn, T, pn, Q, k, it, hC, hY, hI⟩ := h0
  obtain ⟨g, N, R, Tt, hb⟩ := hC.1
  have h12 := hb.2.2.2.2.2.1.2.1
  have ok := hY.1
  have hV := hY.2.2.2.1
  have hN : za m (yv P y) 144 = nI N := by rw [hV, hb.2.2.2.2.2.1.1]
  unfold f_X10_backend f_X11_backend
  rw [zl_s, c_hasB hb.2.2.1.1.1 h12, zb_s, r_isB ok hN h12, zb_s]
  dsimp only
  by_cases h1 : 0 ≤ i ∧ i < nI N
  · obtain ⟨b, hbN, rfl⟩ := i_lt_of h1.1 h1.2 (by omega)
    rw [decide_eq_true h1, if_neg (by decide), if_neg (by decide), zl_s, zl_s, hb.1.1.1, zin_12 (by omega), zgd_t, n_nat (by omega), hb.2.1.1 b (by omega), zl_s, r_isIn, zb_s]
    dsimp only
    by_cases h2 : 0 ≤ w ∧ w ≤ 11
    · obtain ⟨c, -, hc, rfl⟩ := rng (lo := 0) (hi := 11) (by omega) (by omega) h2.1 h2.2
      refine ⟨V (12 * b + c), ?_, ?_⟩
      · rw [c_bprop (by omega), zb_s, hb.2.2.1.2.1 b c hbN (by omega)]
      · rw [decide_eq_true h2, if_neg (by decide), r_of ok (by omega) (by omega), zb_s, hV]
    · refine ⟨-2, ?_, ?_⟩
      · rw [c_bprop_d h2, zb_s]
      · rw [decide_eq_false h2, if_pos bI_f]
  · rw [decide_eq_false h1, if_pos bI_f, if_pos bI_f]
    exact ⟨-1, rfl, rfl⟩
theorem L_remembered {i w : Int32} : Call own P x y (f_X10_remembered P x i w) (f_X11_remembered P y i w) := by
  apply Call.qry
  intro B m h0
  obtain ⟨hn, V, sv, Vs, mk, Vm, tn, T, pn, Q, k, it, hC, hY, hI⟩ := h0
  obtain ⟨g, N, R, Tt, hb⟩ := hC.1
  have ok := hY.1
  have hV := hY.2.2.2.1
  unfold f_X10_remembered f_X10_remembered_b14 f_X11_remembered f_X11_remembered_b40
  simp only [c_isService, c_isHeader, r_isIn, zb_s, bIz]
  by_cases h1 : 0 ≤ i ∧ i ≤ 3
  · rw [ifn h1, ifn h1]
    by_cases h2 : 0 ≤ w ∧ w ≤ 9
    · rw [ifn h2, ifn h2]
      obtain ⟨s, -, hs, rfl⟩ := rng (lo := 0) (hi := 3) (by omega) (by omega) h1.1 h1.2
      obtain ⟨h, -, hh, rfl⟩ := rng (lo := 0) (hi := 9) (by omega) (by omega) h2.1 h2.2
      have e : ((((145 : Int32) + ((21 : Int32) * nI s)) + (11 : Int32)) + nI h) = nI (145 + 21 * s + 11 + h) := by simp only [nlit, n_mul, n_add]
      refine ⟨V (145 + 21 * s + 11 + h), ?_, ?_⟩
      · rw [zl_s, zl_s, hb.1.1.2.1, zin_4 (by omega), zgd_t, n_nat (by omega), hb.2.1.2.1 s (by omega), zl_s, zl_s, (hb.1.1.2.2.2.2.2.2.1 s (by omega)).2, zin_10 (by omega), zgd_t, n_nat (by omega), (hb.2.2.1.2.2.1 s (by omega)).2.2.2.2 h (by omega)]
      · rw [zl_s, e, ok.1, zin_v (by omega), zgd_t, nat_v (by omega), ← hV]
    · rw [if_pos h2, if_pos h2]
      exact ⟨-2, rfl, rfl⟩
  · rw [if_pos h1, if_pos h1]
    exact ⟨-2, rfl, rfl⟩
theorem L_trace {i w : Int32} : Call own P x y (f_X10_trace P x i w) (f_X11_trace P y i w) := by
  apply Call.qry
  intro B m h0
  obtain ⟨hn, V, sv, Vs, mk, Vm, tn, T, pn, Q, k, it, hC, hY, hI⟩ := h0
  obtain ⟨g, N, R, Tt, hb⟩ := hC.1
  have ok := hY.1
  have hV := hY.2.2.2.1
  obtain ⟨t1, t2, t3, t4⟩ := hb.2.2.2.1
  have hT : za m (zR P 200 y) 706 = nI Tt := by rw [← t1, ← hV]
  unfold f_X10_trace f_X11_trace
  rw [zl_s, zl_s, t3, zl_s, ok.1, show zin (706 : Int32) 723 = true by decide, zgd_t, show (706 : Int32).toNatClampNeg = 706 by decide, hT]
  simp only [c_isWithin, r_isIn, zb_s, bIz]
  by_cases h1 : 0 ≤ i ∧ i ≤ nI Tt - 1
  · rw [ifn h1, ifn h1]
    by_cases h2 : 0 ≤ w ∧ w ≤ 3
    · rw [ifn h2, ifn h2]
      obtain ⟨s, hs, rfl⟩ := i_lt_of h1.1 ((i_le_pred (by omega) h1.1).mp h1.2) (by omega)
      obtain ⟨h, -, hh, rfl⟩ := rng (lo := 0) (hi := 3) (by omega) (by omega) h2.1 h2.2
      have e : (((707 : Int32) + ((4 : Int32) * nI s)) + nI h) = nI (707 + 4 * s + h) := by simp only [nlit, n_mul, n_add]
      refine ⟨V (707 + 4 * s + h), ?_, ?_⟩
      · rw [zl_s, zl_s, zl_s, hb.1.1.2.2.2.2.1, zin_4 (by omega), zgd_t, n_nat (by omega), hb.2.1.2.2.2.2 s (by omega), zl_s, hb.1.1.2.2.2.2.2.1 s (by omega), zin_4 (by omega), zgd_t, n_nat (by omega), t4 s h hs (by omega)]
      · rw [zl_s, e, ok.1, zin_v (by omega), zgd_t, nat_v (by omega), ← hV]
    · rw [if_pos h2, if_pos h2]
      exact ⟨-2, rfl, rfl⟩
  · rw [if_pos h1, if_pos h1]
    exact ⟨-1, rfl, rfl⟩
theorem L_printed {i : Int32} : Call own P x y (f_X10_printed P x i) (f_X11_printed P y i) := by
  apply Call.qry
  intro B m h0
  obtain ⟨hn, V, sv, Vs, mk, Vm, tn, T, pn, Q, k, it, hC, hY, hI⟩ := h0
  have ok := hY.1
  obtain ⟨t1, t2, t3, t4, t5⟩ := hC.2.2.2.2.2.2.1
  obtain ⟨y1, y2⟩ := hY.2.2.2.2.2.2.2.1
  unfold f_X10_printed f_X11_printed
  rw [zl_s, c_signAt t5 t4 t3, zb_s, y1, r_isIn, zb_s]
  dsimp only
  refine ⟨_, rfl, ?_⟩
  rw [zl_s, ok.2.2.2.2.2.2.2.1]
  unfold sAt
  by_cases h1 : 0 ≤ i ∧ i < nI pn
  · have h2 : 0 ≤ i ∧ i ≤ nI pn - 1 := ⟨h1.1, (i_le_pred (by omega) h1.1).mpr h1.2⟩
    rw [if_pos h1, decide_eq_true h2, if_neg (by decide)]
    obtain ⟨s, hs, rfl⟩ := i_lt_of h1.1 h1.2 (by omega)
    rw [zin_n (by omega) (by omega), zgd_t, n_nat (by omega), y2 s hs]
  · have h2 : ¬ (0 ≤ i ∧ i ≤ nI pn - 1) := fun q => h1 ⟨q.1, (i_le_pred (by omega) q.1).mp q.2⟩
    rw [if_neg h1, decide_eq_false h2, if_pos bI_f]
theorem zsw_0 {k : Nat} {Fs : List (Option (Int32 × zM))} {Fd : Option (Int32 × zM)} (hk : k < 2 ^ 31) : zsw (nI k) 0 Fs Fd = (Fs[k]?).getD Fd := zsw_n (lo := 0) hk (by omega)
theorem L_target {i j w : Int32} : Call own P x y (f_X10_target P x i j w) (f_X11_target_ P y i j w) := by
  apply Call.qry
  intro B m h0
  obtain ⟨hn, V, sv, Vs, mk, Vm, tn, T, pn, Q, k, it, hC, hY, hI⟩ := h0
  obtain ⟨g, N, R, Tt, hb⟩ := hC.1
  have h12 := hb.2.2.2.2.2.1.2.1
  have ok := hY.1
  have hV := hY.2.2.2.1
  have hIn := hb.2.2.2.2.2
  have h8 := hIn.2.1.2
  have hR : za m (yv P y) 230 = nI R := by rw [hV, hIn.2.1.1]
  have h24 : zf m 24 (zR P 180 x) = nI R := hb.2.2.1.1.2.2.1
  unfold f_X10_target f_X10_target_b33 f_X11_target_ f_X11_target__b34
  simp only [zl_s]
  rw [c_hasR h24 h8, zb_s, r_isR ok hR h8, zb_s]
  dsimp only
  by_cases h1 : 0 ≤ i ∧ i < nI R
  · obtain ⟨r, hr, rfl⟩ := i_lt_of h1.1 h1.2 (by omega)
    obtain ⟨-, ⟨n, hn1, hn3, hnV, -⟩, -⟩ := (hIn.ra hr).1
    have e64 : zf m 64 (gQ g r) = nI n := by rw [(hb.2.2.1.2.2.2.1 r hr).2.2.1, hnV]
    have e : (((231 : Int32) + ((58 : Int32) * nI r)) + (43 : Int32)) = nI (231 + 58 * r + 43) := by simp only [nlit, n_mul, n_add]
    have eV : za m (zR P 200 y) (231 + 58 * r + 43) = nI n := by rw [← hnV, ← hV]
    rw [decide_eq_true h1, if_neg (by decide), if_neg (by decide), hb.1.1.2.2.1, zin_8 (by omega), zgd_t, n_nat (by omega), hb.2.1.2.2.1 r (by omega), c_isWithin, zb_s, e64, e, ok.1, zin_v (by omega), zgd_t, nat_v (by omega), eV, r_isIn, zb_s]
    dsimp only
    by_cases h2 : 0 ≤ j ∧ j ≤ nI n - 1
    · obtain ⟨t, ht, rfl⟩ := i_lt_of h2.1 ((i_le_pred (by omega) h2.1).mp h2.2) (by omega)
      rw [decide_eq_true h2, if_neg (by decide), if_neg (by decide), hb.2.1.2.2.1 r (by omega), (hb.1.1.2.2.2.1 r (by omega)), zin_3 (by omega), zgd_t, n_nat (by omega), hb.2.1.2.2.2.1 r t (by omega) (by omega), zgd_t, r_isIn, zb_s]
      dsimp only
      by_cases h3 : 0 ≤ w ∧ w ≤ 3
      · obtain ⟨c, -, hc, rfl⟩ := rng (lo := 0) (hi := 3) (by omega) (by omega) h3.1 h3.2
        have e2 : (((((231 : Int32) + ((58 : Int32) * nI r)) + (44 : Int32)) + ((4 : Int32) * nI t)) + nI c) = nI (231 + 58 * r + 44 + 4 * t + c) := by simp only [nlit, n_mul, n_add]
        refine ⟨V (231 + 58 * r + 44 + 4 * t + c), ?_, ?_⟩
        · rw [c_tprop (by omega), zb_s, hb.2.2.1.2.2.2.2 r t c hr (by rw [hnV, n_nat (by omega)]; exact ht) (by omega)]
        · rw [decide_eq_true h3, if_neg (by decide), e2, zin_v (by omega), zgd_t, nat_v (by omega), ← hV]
      · refine ⟨-2, ?_, ?_⟩
        · rw [c_tprop_d h3, zb_s]
        · rw [decide_eq_false h3, if_pos bI_f]
    · rw [decide_eq_false h2, if_pos bI_f, if_pos bI_f]
      exact ⟨-1, rfl, rfl⟩
  · rw [decide_eq_false h1, if_pos bI_f, if_pos bI_f]
    exact ⟨-1, rfl, rfl⟩
/-- a service's properties -/
def sSp (V : Nat → Int32) (N s k : Nat) : Int32 := if k < 6 then V (145 + 21 * s + k) else if k < 8 then sCnt (fun i => if decide (k = 7) = true then sOut V i (nI s) else sMem V i (nI s)) N else V (145 + 21 * s + (k - 2))
theorem c_sprop {T s k : Nat} (hb : bMp own P m u g N R T V B) (hs : s < 4) (hk : k < 13) : f_X1_serviceProperty P u (nI s) (nI k) m = some (sSp V N s k, m) := by
  have hf := hb.1.mf hb.2.2.2.2.2.1.2.1
  have hp := hb.2.2.1
  obtain ⟨a1, a2, a3⟩ := PicS1.of hp.2.2.1 s hs
  have l3 := (hb.1.1.2.2.2.2.2.2.1 s hs).1
  have hcnt : ∀ o, f_X1_countMembers P u (nI s) (bI o) m = _ := fun o => c_count hb.2.1 hf hp.2.1 hp.1.1
  unfold f_X1_serviceProperty
  rw [zl_s, hb.1.1.2.1, zin_4 hs, zgd_t, n_nat (by omega), hb.2.1.2.1 s hs, zl_s, zsw_0 (by omega)]
  have hc : k = 0 ∨ k = 1 ∨ k = 2 ∨ k = 3 ∨ k = 4 ∨ k = 5 ∨ k = 6 ∨ k = 7 ∨ k = 8 ∨ k = 9 ∨ k = 10 ∨ k = 11 ∨ k = 12 := by omega
  rcases hc with rfl | rfl | rfl | rfl | rfl | rfl | rfl | rfl | rfl | rfl | rfl | rfl | rfl
  · exact congrArg (fun v => some (v, m)) (a1 0 (by omega))
  · exact congrArg (fun v => some (v, m)) (a1 1 (by omega))
  · exact congrArg (fun v => some (v, m)) (a1 2 (by omega))
  · exact congrArg (fun v => some (v, m)) (a1 3 (by omega))
  · exact congrArg (fun v => some (v, m)) (a1 4 (by omega))
  · exact congrArg (fun v => some (v, m)) (a1 5 (by omega))
  · show zb (f_X1_countMembers P u (nI s) (bI false) m) (fun r m => some (r, m)) = _
    rw [hcnt, zb_s]
    rfl
  · show zb (f_X1_countMembers P u (nI s) (bI true) m) (fun r m => some (r, m)) = _
    rw [hcnt, zb_s]
    rfl
  · exact congrArg (fun v => some (v, m)) (a1 6 (by omega))
  · exact congrArg (fun v => some (v, m)) (a1 7 (by omega))
  · show zgd (zin (nI 0) (zlen P (gX P g s))) (some (za m (gX P g s) (nI 0).toNatClampNeg, m)) = _
    rw [l3, zin_3 (by omega), zgd_t, n_nat (by omega), a2 0 (by omega)]
    rfl
  · show zgd (zin (nI 1) (zlen P (gX P g s))) (some (za m (gX P g s) (nI 1).toNatClampNeg, m)) = _
    rw [l3, zin_3 (by omega), zgd_t, n_nat (by omega), a2 1 (by omega)]
    rfl
  · show zgd (zin (nI 2) (zlen P (gX P g s))) (some (za m (gX P g s) (nI 2).toNatClampNeg, m)) = _
    rw [l3, zin_3 (by omega), zgd_t, n_nat (by omega), a2 2 (by omega)]
    rfl
theorem c_sprop_d {T s : Nat} {w : Int32} (hb : bMp own P m u g N R T V B) (hs : s < 4) (h : ¬ (0 ≤ w ∧ w ≤ 12)) : f_X1_serviceProperty P u (nI s) w m = some (-2, m) := by
  have := rng_not (hi := 12) (by decide) h
  unfold f_X1_serviceProperty
  rw [zl_s, hb.1.1.2.1, zin_4 hs, zgd_t, n_nat (by omega), hb.2.1.2.1 s hs, zl_s]
  exact zsw_d (by simp only [List.length_cons, List.length_nil]; omega)
theorem r_sprop (ok : yOK P y) {N s k : Nat} (hN : za m (yv P y) 144 = nI N) (h12 : N ≤ 12) (hs : s < 4) (hk : k < 13) : f_X11_service P y (nI s) (nI k) m = some (sSp (za m (yv P y)) N s k, m) := by
  unfold f_X11_service f_X11_service_b67
  rw [r_isIn, zb_s, r_isIn, zb_s]
  dsimp only
  rw [decide_eq_true (show (0 : Int32) ≤ nI s ∧ nI s ≤ 3 from ⟨nI_pos' (by omega), (n_le (b := 3) (by omega) (by omega)).mpr (by omega)⟩), if_neg (by decide), decide_eq_true (show (0 : Int32) ≤ nI k ∧ nI k ≤ 12 from ⟨nI_pos' (by omega), (n_le (b := 12) (by omega) (by omega)).mpr (by omega)⟩), if_neg (by decide), zl_s]
  have e1 : ((145 : Int32) + ((21 : Int32) * nI s)) + nI k = nI (145 + 21 * s + k) := by simp only [nlit, n_mul, n_add]
  unfold sSp
  by_cases h6 : k < 6
  · rw [if_neg (show ¬ (6 : Int32) ≤ nI k from fun q => by have := (n_le (a := 6) (by omega) (by omega)).mp q; omega), zl_s, e1, ok.1, zin_v (by omega), zgd_t, nat_v (by omega), if_pos h6]
  · rw [if_pos (show (6 : Int32) ≤ nI k from (n_le (a := 6) (by omega) (by omega)).mpr (by omega)), if_neg h6]
    by_cases h8 : k < 8
    · rw [if_neg (show ¬ (8 : Int32) ≤ nI k from fun q => by have := (n_le (a := 8) (by omega) (by omega)).mp q; omega), if_pos h8]
      by_cases h7 : k = 7
      · subst h7
        rw [if_pos (show nI 7 = 7 from rfl)]
        show zb (f_X11_members P y (nI s) (bI true) m) _ = _
        rw [r_members ok hN h12, zb_s]
        rfl
      · have : k = 6 := by omega
        subst this
        rw [if_neg (show ¬ nI 6 = 7 by decide)]
        show zb (f_X11_members P y (nI s) (bI false) m) _ = _
        rw [r_members ok hN h12, zb_s]
        rfl
    · have e2 : ((145 : Int32) + ((21 : Int32) * nI s)) + nI k - 2 = nI (145 + 21 * s + (k - 2)) := by
        rw [e1, show (2 : Int32) = nI 2 from rfl, n_sub _ _ (by omega)]
        congr 1
        omega
      rw [if_pos (show (8 : Int32) ≤ nI k from (n_le (a := 8) (by omega) (by omega)).mpr (by omega)), zl_s, e2, ok.1, zin_v (by omega), zgd_t, nat_v (by omega), if_neg h8]
theorem L_service {i w : Int32} : Call own P x y (f_X10_service P x i w) (f_X11_service P y i w) := by
  apply Call.qry
  intro B m h0
  obtain ⟨hn, V, sv, Vs, mk, Vm, tn, T, pn, Q, k, it, hC, hY, hI⟩ := h0
  obtain ⟨g, N, R, Tt, hb⟩ := hC.1
  have h12 := hb.2.2.2.2.2.1.2.1
  have ok := hY.1
  have hV := hY.2.2.2.1
  have hN : za m (yv P y) 144 = nI N := by rw [hV, hb.2.2.2.2.2.1.1]
  unfold f_X10_service
  rw [c_isService, zb_s]
  dsimp only
  by_cases h1 : 0 ≤ i ∧ i ≤ 3
  · obtain ⟨s, -, hs, rfl⟩ := rng (lo := 0) (hi := 3) (by omega) (by omega) h1.1 h1.2
    rw [decide_eq_true h1, if_neg (by decide), zl_s]
    by_cases h2 : 0 ≤ w ∧ w ≤ 12
    · obtain ⟨c, -, hc, rfl⟩ := rng (lo := 0) (hi := 12) (by omega) (by omega) h2.1 h2.2
      refine ⟨sSp V N s c, ?_, ?_⟩
      · rw [c_sprop hb (by omega) (by omega), zb_s]
      · rw [r_sprop ok hN h12 (by omega) (by omega), hV]
    · refine ⟨-2, ?_, ?_⟩
      · rw [c_sprop_d hb (by omega) h2, zb_s]
      · unfold f_X11_service
        rw [r_isIn, zb_s, r_isIn, zb_s]
        dsimp only
        rw [decide_eq_true h1, if_neg (by decide), decide_eq_false h2, if_pos bI_f]
        rfl
  · rw [decide_eq_false h1, if_pos bI_f]
    refine ⟨-2, rfl, ?_⟩
    unfold f_X11_service
    rw [r_isIn, zb_s]
    dsimp only
    rw [decide_eq_false h1, if_pos bI_f]
    rfl
theorem L_count {w : Int32} : Call own P x y (f_X10_count P x w) (f_X11_count P y w) := by
  apply Call.qry
  intro B m h0
  obtain ⟨hn, V, sv, Vs, mk, Vm, tn, T, pn, Q, k, it, hC, hY, hI⟩ := h0
  obtain ⟨g, N, R, Tt, hb⟩ := hC.1
  have ok := hY.1
  have hV : za m (zR P 200 y) = V := hY.2.2.2.1
  obtain ⟨q1, q2, q3, q4, q5, q6, q7⟩ := hb.2.2.1.1
  have hr := hC.2.2.2.2.1.2.2.2.1
  have hk := hY.2.2.2.2.2.2.2.2.1.1
  have ht := hC.2.2.2.2.2.1.2.2.2.2.1
  have ht2 := hY.2.2.2.2.2.2.1.1
  obtain ⟨x1, x2, x3, x4⟩ := hb.2.2.2.1
  have h27 := hb.2.2.2.2.1
  unfold f_X10_count f_X11_count
  rw [r_isIn, zb_s]
  dsimp only
  by_cases h1 : 0 ≤ w ∧ w ≤ 13
  · obtain ⟨c, -, hc, rfl⟩ := rng (lo := 0) (hi := 13) (by omega) (by omega) h1.1 h1.2
    rw [decide_eq_true h1, if_neg (by decide)]
    rw [zsw_0 (Fd := (zl (zR P 200 y) fun b122 => zgd (zin ((695 : Int32) + nI c) (zlen P b122)) <| some ((za m b122 ((695 : Int32) + nI c).toNatClampNeg), m))) (by omega)]
    have low : c < 11 → ∀ Fs Fd, zsw (nI c) 11 Fs Fd = Fd := fun q Fs Fd => zsw_d (Or.inl (by rw [n_int (by omega)]; omega))
    have prop : ∀ (v : Int32), (∃ Fs : List (Option (Int32 × zM)), f_X1_property P (zR P 180 x) (nI c) m = zsw (nI c) 0 Fs (some (-2, m)) ∧ (Fs[c]?).getD (some (-2, m)) = some (v, m)) → f_X1_property P (zR P 180 x) (nI c) m = some (v, m) := fun v q => by
      obtain ⟨Fs, q1, q2⟩ := q
      rw [q1, zsw_0 (by omega), q2]
    have mid : ∀ k, 2 ≤ k → k < 11 → (zl (zR P 200 y) fun b122 => zgd (zin ((695 : Int32) + nI k) (zlen P b122)) <| some ((za m b122 ((695 : Int32) + nI k).toNatClampNeg), m)) = some (V (695 + k), m) := fun k h2 h3 => by
      rw [zl_s, ok.1, show (695 : Int32) + nI k = nI (695 + k) from n_add 695 k, zin_v (by omega), zgd_t, nat_v (by omega), hV]
    have hcs : c = 0 ∨ c = 1 ∨ c = 2 ∨ c = 3 ∨ c = 4 ∨ c = 5 ∨ c = 6 ∨ c = 7 ∨ c = 8 ∨ c = 9 ∨ c = 10 ∨ c = 11 ∨ c = 12 ∨ c = 13 := by omega
    rcases hcs with rfl | rfl | rfl | rfl | rfl | rfl | rfl | rfl | rfl | rfl | rfl | rfl | rfl | rfl
    · rw [low (by omega), zl_s, prop (nI N) ⟨_, rfl, congrArg (fun v => some (v, m)) q1⟩, zb_s]
      refine ⟨nI N, rfl, ?_⟩
      show zgd (zin (nI 144) (zlen P (zR P 200 y))) (some (za m (zR P 200 y) (nI 144).toNatClampNeg, m)) = _
      rw [ok.1, zin_v (by omega), zgd_t, nat_v (by omega), hV, q2]
    · rw [low (by omega), zl_s, prop (nI R) ⟨_, rfl, congrArg (fun v => some (v, m)) q3⟩, zb_s]
      refine ⟨nI R, rfl, ?_⟩
      show zgd (zin (nI 230) (zlen P (zR P 200 y))) (some (za m (zR P 200 y) (nI 230).toNatClampNeg, m)) = _
      rw [ok.1, zin_v (by omega), zgd_t, nat_v (by omega), hV, q4]
    · rw [low (by omega), zl_s, prop (V (695 + 2)) ⟨_, rfl, congrArg (fun v => some (v, m)) h27⟩, zb_s]
      exact ⟨_, rfl, mid 2 (by omega) (by omega)⟩
    · rw [low (by omega), zl_s, prop (V (695 + 3)) ⟨_, rfl, congrArg (fun v => some (v, m)) (q7 28 (by omega) (by omega))⟩, zb_s]
      exact ⟨_, rfl, mid 3 (by omega) (by omega)⟩
    · rw [low (by omega), zl_s, prop (V (695 + 4)) ⟨_, rfl, congrArg (fun v => some (v, m)) (q7 29 (by omega) (by omega))⟩, zb_s]
      exact ⟨_, rfl, mid 4 (by omega) (by omega)⟩
    · rw [low (by omega), zl_s, prop (V (695 + 5)) ⟨_, rfl, congrArg (fun v => some (v, m)) (q7 30 (by omega) (by omega))⟩, zb_s]
      exact ⟨_, rfl, mid 5 (by omega) (by omega)⟩
    · rw [low (by omega), zl_s, prop (V (695 + 6)) ⟨_, rfl, congrArg (fun v => some (v, m)) (q7 31 (by omega) (by omega))⟩, zb_s]
      exact ⟨_, rfl, mid 6 (by omega) (by omega)⟩
    · rw [low (by omega), zl_s, prop (V (695 + 7)) ⟨_, rfl, congrArg (fun v => some (v, m)) (q7 32 (by omega) (by omega))⟩, zb_s]
      exact ⟨_, rfl, mid 7 (by omega) (by omega)⟩
    · rw [low (by omega), zl_s, prop (V (695 + 8)) ⟨_, rfl, congrArg (fun v => some (v, m)) (q7 33 (by omega) (by omega))⟩, zb_s]
      exact ⟨_, rfl, mid 8 (by omega) (by omega)⟩
    · rw [low (by omega), zl_s, prop (V (695 + 9)) ⟨_, rfl, congrArg (fun v => some (v, m)) (q7 34 (by omega) (by omega))⟩, zb_s]
      exact ⟨_, rfl, mid 9 (by omega) (by omega)⟩
    · rw [low (by omega), zl_s, prop (V (695 + 10)) ⟨_, rfl, congrArg (fun v => some (v, m)) q6⟩, zb_s]
      exact ⟨_, rfl, mid 10 (by omega) (by omega)⟩
    · refine ⟨nI k, ?_, congrArg (fun v => some (v, m)) hk⟩
      rw [show (11 : Int) = ((11 : Nat) : Int) from rfl, zsw_n (by omega) (by omega)]
      exact congrArg (fun v => some (v, m)) hr
    · refine ⟨nI Tt, ?_, ?_⟩
      · rw [show (11 : Int) = ((11 : Nat) : Int) from rfl, zsw_n (by omega) (by omega)]
        exact congrArg (fun v => some (v, m)) x3
      · show zgd (zin (nI 706) (zlen P (zR P 200 y))) (some (za m (zR P 200 y) (nI 706).toNatClampNeg, m)) = _
        rw [ok.1, zin_v (by omega), zgd_t, nat_v (by omega), hV, x1]
    · refine ⟨nI tn, ?_, congrArg (fun v => some (v, m)) ht2⟩
      rw [show (11 : Int) = ((11 : Nat) : Int) from rfl, zsw_n (by omega) (by omega)]
      exact congrArg (fun v => some (v, m)) ht
  · have h2 := rng_not (hi := 13) (by decide) h1
    rw [decide_eq_false h1, if_pos bI_f]
    refine ⟨-2, ?_, rfl⟩
    rw [zsw_d (by simp only [List.length_cons, List.length_nil]; omega), zl_s]
    unfold f_X1_property
    rw [zsw_d (by simp only [List.length_cons, List.length_nil]; omega), zb_s]
end QA

theorem sTrace_eq {V : Nat → Int32} {b : Nat} {gd : Bool} {z : Int32} {T : Nat} (hb : b < 12) (hT : V 706 = nI T) : sTrace V b gd z T = sAdd V T b gd (decide (V (12 * b + 1) = z)) (decide (0 < V (12 * b + 9))) := by
  unfold sTrace sAdd
  dsimp only
  rw [uV_n (show (12 * b + 1) ≠ 707 + 4 * T + 1 by omega), uV_n (show (12 * b + 1) ≠ 707 + 4 * T by omega), uV_n (show (12 * b + 9) ≠ 707 + 4 * T + 2 by omega), uV_n (show (12 * b + 9) ≠ 707 + 4 * T + 1 by omega), uV_n (show (12 * b + 9) ≠ 707 + 4 * T by omega), uV_n (show (706 : Nat) ≠ 707 + 4 * T + 3 by omega), uV_n (show (706 : Nat) ≠ 707 + 4 * T + 2 by omega), uV_n (show (706 : Nat) ≠ 707 + 4 * T + 1 by omega), uV_n (show (706 : Nat) ≠ 707 + 4 * T by omega), hT, nI_1]
theorem sTryC_b {c : Int32} {V : Nat → Int32} {N b s B : Nat} (hb : b < 12) (hN : b < N) (hs : s < 4) (hB : BdV V N B) (hB2 : B < 1000000) (hS : SvV V) :
    (∃ k, k ≤ B + 1 ∧ sTryC c V N b s (12 * b + 5) = nI k) ∧ (∃ k, k ≤ B + 1 ∧ sTryC c V N b s (12 * b + 7) = nI k) ∧ (∃ k, k ≤ B + 1 ∧ sTryC c V N b s (12 * b + 8) = nI k) ∧ (∃ k, k ≤ 20 * (B + 1) ∧ sTryC c V N b s (12 * b + 9) = nI k) ∧ sTryC c V N b s (12 * b + 10) = V (12 * b + 10) ∧
      ((!sGood V b && sEjC c (sTry0 V b) N b s) = true → 0 < sTryC c V N b s (12 * b + 9)) ∧ ((!sGood V b && sEjC c (sTry0 V b) N b s) = false → sTryC c V N b s (12 * b + 9) = V (12 * b + 9)) := by
  obtain ⟨⟨a, a1, a2⟩, ⟨f, f1, f2⟩, ⟨e, e1, e2⟩, ⟨x, x1, x2⟩, -⟩ := hB b hN
  obtain ⟨t, t1, t2, t3⟩ := (hS s hs).2
  have w5 : sTry0 V b (12 * b + 5) = nI (a + 1) := by
    unfold sTry0
    split
    · rw [uV_n (by omega), uV_n (by omega), uV_s, a2, nI_1]
    · rw [uV_n (by omega), uV_s, a2, nI_1]
  have w7 : sTry0 V b (12 * b + 7) = nI 0 ∨ sTry0 V b (12 * b + 7) = nI (f + 1) := by
    unfold sTry0
    split
    · exact Or.inl uV_s
    · exact Or.inr (by rw [uV_s, f2, nI_1])
  have w8 : sTry0 V b (12 * b + 8) = nI e := by rw [sTry0_keep (by omega), e2]
  have w9 : sTry0 V b (12 * b + 9) = V (12 * b + 9) := sTry0_keep (by omega)
  have w10 : sTry0 V b (12 * b + 10) = V (12 * b + 10) := sTry0_keep (by omega)
  have wt : sTry0 V b (145 + 21 * s + 2) = nI t := by rw [sTry0_keep (by omega), t3]
  have ht : t * (e + 1) ≤ 20 * (B + 1) := Nat.mul_le_mul t2 (by omega)
  have ht0 : 0 < t * (e + 1) := Nat.mul_pos (by omega) (by omega)
  unfold sTryC
  cases hc : (!sGood V b && sEjC c (sTry0 V b) N b s) with
  | true =>
    simp only [if_true]
    unfold sEjV
    rw [w8, wt, nI_1, n_mul]
    refine ⟨⟨a + 1, by omega, ?_⟩, ⟨0, by omega, ?_⟩, ⟨e + 1, by omega, ?_⟩, ⟨t * (e + 1), ht, ?_⟩, ?_, fun _ => ?_, fun h => by cases h⟩
    · rw [uV_n (by omega), uV_n (by omega), uV_n (by omega), uV_n (by omega), uV_n (by omega), w5]
    · rw [uV_n (by omega), uV_n (by omega), uV_n (by omega), uV_s]
      rfl
    · rw [uV_n (by omega), uV_n (by omega), uV_n (by omega), uV_n (by omega), uV_s]
    · rw [uV_n (by omega), uV_n (by omega), uV_s]
    · rw [uV_n (by omega), uV_n (by omega), uV_n (by omega), uV_n (by omega), uV_n (by omega), w10]
    · rw [uV_n (by omega), uV_n (by omega), uV_s, show (0 : Int32) = nI 0 from rfl, n_lt (by decide) (by omega)]
      exact ht0
  | false =>
    simp only [Bool.false_eq_true, if_false]
    refine ⟨⟨a + 1, by omega, ?_⟩, ?_, ⟨e, by omega, ?_⟩, ⟨x, by omega, ?_⟩, ?_, fun h => (by cases h), fun _ => ?_⟩
    · rw [uV_n (by omega), w5]
    · rw [uV_n (by omega)]
      rcases w7 with w7 | w7
      · exact ⟨0, by omega, w7⟩
      · exact ⟨f + 1, by omega, w7⟩
    · rw [uV_n (by omega), w8]
    · rw [uV_n (by omega), w9, x2]
    · rw [uV_n (by omega), w10]
    · rw [uV_n (by omega), w9]
theorem sTry_bd {c : Int32} {V : Nat → Int32} {N b s B T : Nat} {z : Int32} (h12 : N ≤ 12) (hN : b < N) (hs : s < 4) (hB : BdV V N B) (hB2 : B < 1000000) (hS : SvV V) : BdV (sTry c V N b s z T) N (B + 1) := by
  intro i hi
  by_cases e : i = b
  · subst e
    obtain ⟨h1, h2, h3, h4, h5, -, -⟩ := sTryC_b (c := c) (s := s) (show i < 12 by omega) hN hs hB hB2 hS
    rw [sTry_eq h12 (by omega) hs, sTrace_keep (by omega), sTrace_keep (by omega), sTrace_keep (by omega), sTrace_keep (by omega), sTrace_keep (by omega), h5]
    obtain ⟨k, k1, k2⟩ := (hB i hi).2.2.2.2
    exact ⟨h1, h2, h3, h4, k, by omega, k2⟩
  · rw [sTry_keep (by omega) (by omega) (by omega) (by omega) (by omega), sTry_keep (by omega) (by omega) (by omega) (by omega) (by omega), sTry_keep (by omega) (by omega) (by omega) (by omega) (by omega), sTry_keep (by omega) (by omega) (by omega) (by omega) (by omega), sTry_keep (by omega) (by omega) (by omega) (by omega) (by omega)]
    exact hB.mono (Nat.le_succ B) i hi
section CF
variable {own : Nat → Nat} {P : zSt} {m0 m : zM} {u N R T : Nat} {g : zGr} {c : Int32} {V : Nat → Int32}
theorem c_b74 (hf : Mf own P u g N) (hL : RuL V R) {b z : Nat} {gd e : Bool} (hb : b < N) (hT : T < 4) (hM : Ms own P m0 m u g N R c V T) {q : Nat → Bool} (h13 : Flg m g 13 N q) :
    ∃ m', f_X1_attempt_b74 P u (nI b) (nI z) (gB g b) (bI gd) (bI e) m = some (bI gd, m') ∧ Ms own P m0 m' u g N R c (sAdd (uV V 702 (V 702 + 1)) T b gd (decide (V (12 * b + 1) = nI z)) e) (T + 1) ∧ Flg m' g 13 N q := by
  have h12 := hf.2.2
  have h8 := hL.1
  have e32 : zf m 32 u = V 702 := hM.2.1.1.2.2.2.2.2.2 32 (by omega) (by omega)
  have hM1 := hM.updC hL hf (j := 32) (x := V 702 + 1) (by omega) (by omega)
  have hL1 : RuL (uV V 702 (V 702 + 1)) R := hL.up (fun r hr => by omega)
  have e4 : zf (zfp m 32 u (V 702 + 1)) 4 (gB g b) = V (12 * b + 1) := by
    have := hM1.2.1.2.1 b 1 hb (by omega)
    rw [uV_n (by omega)] at this
    exact this
  unfold f_X1_attempt_b74 f_X1_attempt_b104
  rw [e32, zl_s, zl_s, e4]
  by_cases h1 : V (12 * b + 1) = nI z
  · obtain ⟨m2, w1, w2, w3⟩ := c_add (b := b) (sg := gd) (n := true) (e := e) hf hL1 hT hM1 (h13.ne (by decide))
    have w1' : f_X8_add P (zR P 35 u) (nI b) (bI gd) 1 (bI e) (zfp m 32 u (V 702 + 1)) = some (0, m2) := w1
    rw [if_pos h1, w1', zb_s, zbo_bI, zgd_t, decide_eq_true h1]
    exact ⟨m2, rfl, w2, w3⟩
  · obtain ⟨m2, w1, w2, w3⟩ := c_add (b := b) (sg := gd) (n := false) (e := e) hf hL1 hT hM1 (h13.ne (by decide))
    have w1' : f_X8_add P (zR P 35 u) (nI b) (bI gd) 0 (bI e) (zfp m 32 u (V 702 + 1)) = some (0, m2) := w1
    rw [if_neg h1, w1', zb_s, zbo_bI, zgd_t, decide_eq_false h1]
    exact ⟨m2, rfl, w2, w3⟩
theorem c_mattempt (hf : Mf own P u g N) (hL : RuL V R) {b s z dn B : Nat} (hb : b < N) (hs : s < 4) (hT : T < 4) (hsv : V (12 * b) = nI s) (h9 : V (12 * b + 9) = 0) (hB : BdV V N B) (hB2 : B < 1000000) (hS : SvV V) (hM : Ms own P m0 m u g N R c V T) (h13 : Flg m g 13 N dn.testBit) :
    ∃ m', f_X1_attempt P u (nI b) (nI z) m = some (bI (sGood V b), m') ∧ Ms own P m0 m' u g N R c (sTry c V N b s (nI z) T) (T + 1) ∧ Flg m' g 13 N (dn ||| 2 ^ b).testBit := by
  have h12 := hf.2.2
  have h8 := hL.1
  obtain ⟨⟨k, k1, k2⟩, ⟨f, f1, f2⟩, -⟩ := hB b hb
  obtain ⟨-, -, -, -, -, hej1, hej0⟩ := sTryC_b (c := c) (s := s) (show b < 12 by omega) hb hs hB hB2 hS
  obtain ⟨m1, a1, a2, a3⟩ := c_battempt hf hL hb k2 (by omega) hM h13
  have hW : RuL (sTry0 V b) R := hL.to (fun r hr => ⟨sTry0_keep (by omega), sTry0_keep (by omega)⟩)
  have w702 : sTry0 V b 702 = V 702 := sTry0_keep (by omega)
  have w704 : sTry0 V b 704 = V 704 := sTry0_keep (by omega)
  have w706 : V 706 = nI T := hM.2.2.1.1
  have wz : sTry0 V b (12 * b + 1) = V (12 * b + 1) := sTry0_keep (by omega)
  have wc : sTryC c V N b s (12 * b + 1) = V (12 * b + 1) := by
    unfold sTryC sEjV
    split
    · rw [uV_n (by omega), uV_n (by omega), uV_n (by omega), uV_n (by omega), uV_n (by omega), wz]
    · rw [uV_n (by omega), wz]
  have wc6 : sTryC c V N b s 706 = nI T := by
    unfold sTryC sEjV
    split
    · rw [uV_n (by omega), uV_n (by omega), uV_n (by omega), uV_n (by omega), uV_n (by omega), sTry0_keep (by omega), w706]
    · rw [uV_n (by omega), sTry0_keep (by omega), w706]
  rw [sTry_eq h12 (by omega) hs, sTrace_eq (by omega) wc6, wc]
  unfold f_X1_attempt f_X1_attempt_b40
  rw [c_hasBackend hM.2.1.1.1 (by omega) (by omega) h12, zb_s, decide_eq_true hb]
  dsimp only
  rw [if_neg (by decide), zl_s, hf.1.1, zin_12 (by omega), zgd_t, n_nat (by omega), hM.1.1 b (by omega), zl_s, a1, zb_s]
  dsimp only
  have quiet : (!sGood V b && sEjC c (sTry0 V b) N b s) = false → ∃ m', f_X1_attempt_b41 P u (nI b) (nI z) (gB g b) (bI (sGood V b)) 0 m1 = some (bI (sGood V b), m') ∧ Ms own P m0 m' u g N R c (sAdd (sTryC c V N b s) T b (sGood V b) (decide (V (12 * b + 1) = nI z)) (decide (0 < sTryC c V N b s (12 * b + 9)))) (T + 1) ∧ Flg m' g 13 N (dn ||| 2 ^ b).testBit := by
    intro hq
    obtain ⟨m2, b1, b2, b3⟩ := c_b74 (b := b) (z := z) (gd := sGood V b) (e := false) hf hW hb hT a2 a3
    unfold f_X1_attempt_b41
    have b1' : f_X1_attempt_b74 P u (nI b) (nI z) (gB g b) (bI (sGood V b)) 0 m1 = some (bI (sGood V b), m2) := b1
    rw [if_pos rfl, b1']
    refine ⟨m2, rfl, ?_, b3⟩
    rw [wz, w702] at b2
    rw [hej0 hq, h9, show decide ((0 : Int32) < 0) = false by decide]
    unfold sTryC
    rw [if_neg (by rw [hq]; decide)]
    exact b2
  cases hg : sGood V b with
  | true =>
    rw [hg] at quiet
    rw [if_neg (by decide)]
    exact quiet rfl
  | false =>
    have hfv : sTry0 V b (12 * b + 7) = nI (f + 1) := by
      unfold sTry0
      rw [if_neg (by rw [hg]; decide), uV_s, f2, nI_1]
    have te := c_toEject (c := c) (s := s) (f := f + 1) hf hb hs (by rw [sTry0_keep (by omega)]; exact hsv) hfv (by omega) a2
    rw [if_pos bI_f, te, zb_s]
    dsimp only
    cases hc : sEjC c (sTry0 V b) N b s with
    | false =>
      rw [hg, hc] at quiet
      rw [if_pos bI_f]
      exact quiet rfl
    | true =>
      rw [if_neg (by decide)]
      have hq : (!sGood V b && sEjC c (sTry0 V b) N b s) = true := by rw [hg, hc]; rfl
      have e3 : zf m1 3 (gB g b) = nI s := by
        have := a2.2.1.2.1 b 0 hb (by omega)
        rw [sTry0_keep (by omega)] at this
        exact this.trans hsv
      have e102 : zf m1 102 (gS g s) = sTry0 V b (145 + 21 * s + 2) := (a2.2.1.2.2.1 s hs).2.2.1 2 (by omega) (by omega)
      obtain ⟨m2, d1, d2, d3⟩ := c_eject (s := s) hf hW hb hs a2 a3
      have hW2 : RuL (sEjV (sTry0 V b) b s) R := by
        unfold sEjV
        exact ((hW.up (fun r hr => by omega)).up (fun r hr => by omega)).up (fun r hr => by omega)
      have e34 : zf m2 34 u = V 704 := by
        have := d2.2.1.1.2.2.2.2.2.2 34 (by omega) (by omega)
        rw [this]
        unfold sEjV
        rw [uV_n (by omega), uV_n (by omega), uV_n (by omega), w704]
      have hM3 := d2.updC hW2 hf (j := 34) (x := V 704 + 1) (by omega) (by omega)
      have hW3 : RuL (uV (sEjV (sTry0 V b) b s) 704 (V 704 + 1)) R := hW2.up (fun r hr => by omega)
      obtain ⟨m4, b1, b2, b3⟩ := c_b74 (b := b) (z := z) (gd := false) (e := true) hf hW3 hb hT hM3 (d3.ne (by decide))
      unfold f_X1_attempt_b41
      rw [if_neg (by decide), zl_s, hf.1.2.1, e3, zin_4 hs, zgd_t, n_nat (by omega), a2.1.2.1 s hs, zl_s, e102, d1, zb_s]
      dsimp only
      have b1' : f_X1_attempt_b74 P u (nI b) (nI z) (gB g b) (bI false) 1 (zfp m2 34 u (V 704 + 1)) = some (bI false, m4) := b1
      rw [e34, zl_s, b1']
      refine ⟨m4, rfl, ?_, b3⟩
      have ez : (uV (sEjV (sTry0 V b) b s) 704 (V 704 + 1)) (12 * b + 1) = V (12 * b + 1) := by
        unfold sEjV
        rw [uV_n (by omega), uV_n (by omega), uV_n (by omega), uV_n (by omega), wz]
      have e7 : (uV (sEjV (sTry0 V b) b s) 704 (V 704 + 1)) 702 = V 702 := by
        unfold sEjV
        rw [uV_n (by omega), uV_n (by omega), uV_n (by omega), uV_n (by omega), w702]
      rw [ez, e7] at b2
      rw [decide_eq_true (hej1 hq)]
      unfold sTryC
      rw [if_pos hq]
      exact b2
theorem c_serve_l (hf : Mf own P u g N) {s r h z mo : Nat} {most : Int32} (hs : s < 4) (hr : r < 8) (hh : h < 10) (hz : z < 3) (hmo : 1 ≤ mo ∧ mo ≤ 4) (hmost : most = if c = 1 then 1 else nI mo) : ∀ k fu done att B (V : Nat → Int32) (m : zM), Ms own P m0 m u g N R c V att → RuL V R → StV V N → SvV V → BdV V N B → B + k < 1000000 → V (231 + 58 * r + 56) = nI mo → mo ≤ att + k → att < mo → done < 2 ^ N → mWo (mAv V (nI s) N) done ≠ 0 → Flg m g 13 N done.testBit → Flg m g 2 N (mWo (mAv V (nI s) N) done).testBit → k < fu →
    ∃ m' T', f_X1_serve_b95 P (f_X1_serve_b63 P fu) u (nI s) most (nI h) (nI z) (nI att) m = some ((sLoop c N s r h z k done att V).1, m') ∧ Ms own P m0 m' u g N R c (sLoop c N s r h z k done att V).2 T' ∧ RuL (sLoop c N s r h z k done att V).2 R ∧ SvV (sLoop c N s r h z k done att V).2 ∧ BdV (sLoop c N s r h z k done att V).2 N (B + k) := by
  have h12 := hf.2.2
  intro k
  induction k with
  | zero =>
    intro fu done att B V m _ _ _ _ _ _ _ h1 h2
    omega
  | succ k ih =>
    intro fu done att B V m hM hL hV hS hB hB2 hmoV hk hatt hdone hne h13 h2 hfu
    have h8 := hL.1
    obtain ⟨fu, rfl⟩ : ∃ f, fu = f + 1 := ⟨fu - 1, by omega⟩
    have hc : CandOf V N s (mWo (mAv V (nI s) N) done) := ⟨mWo_lt mAv_lt, fun i hi => av_mem h12 hi⟩
    obtain ⟨hb, hbc⟩ := sPick_lt (c := c) (V := V) (s := s) (h := h) (z := z) hc.1 hne h12
    obtain ⟨m1, p1, p2, p3⟩ := c_pick (c := c) hf hL hs hh hz hV (hS.pol hs) hc hne hM h2 h13
    have hst := sPick_st (c := c) hV hs hh hz hc.1 hne
    have kp : ∀ j, (∀ i, i < N → j ≠ 12 * i + 4) → j ≠ 145 + 21 * s + 8 + z → j ≠ 145 + 21 * s + 11 + h → (sPick c V N s h z (mWo (mAv V (nI s) N) done)).2 j = V j := fun j e1 e2 e3 => sPick_keep e1 e2 e3
    have hbm : V (12 * (sPick c V N s h z (mWo (mAv V (nI s) N) done)).1) = nI s := (of_decide_eq_true (hc.2 _ hbc)).1
    have hb9 : V (12 * (sPick c V N s h z (mWo (mAv V (nI s) N) done)).1 + 9) = 0 := by
      rw [mWo_bit (lt31 mAv_lt h12), mAv_bit] at hbc
      simp only [Bool.and_eq_true] at hbc
      have := hbc.1.2
      unfold sAv at this
      simp only [Bool.and_eq_true, decide_eq_true_eq] at this
      exact this.2
    unfold sLoop
    dsimp only
    unfold f_X1_serve_b95
    rw [p1, zb_s]
    dsimp only
    generalize hP : sPick c V N s h z (mWo (mAv V (nI s) N) done) = p at *
    have hb12 : p.1 < 12 := by omega
    have hLp : RuL p.2 R := hL.to (fun r hr => ⟨kp _ (by omega) (by omega) (by omega), kp _ (by omega) (by omega) (by omega)⟩)
    have hSp : SvV p.2 := hS.to (fun s hs => ⟨kp _ (by omega) (by omega) (by omega), kp _ (by omega) (by omega) (by omega)⟩)
    have hBp : BdV p.2 N B := hB.to (fun i k h1 h2 h3 h4 h5 => kp _ (by omega) (by omega) (by omega))
    obtain ⟨m2, t1, t2, t3⟩ := c_mattempt (c := c) (z := z) hf hLp hb hs (show att < 4 by omega) (by rw [kp _ (by omega) (by omega) (by omega)]; exact hbm) (by rw [kp _ (by omega) (by omega) (by omega)]; exact hb9) hBp (by omega) hSp p2 p3
    have hB3 := sTry_bd (c := c) (T := att) (z := nI z) h12 hb hs hBp (by omega) hSp
    have kT : ∀ j, (144 ≤ j ∧ j < 702) → sTry c p.2 N p.1 s (nI z) att j = p.2 j := fun j hj => sTry_keep (by omega) (by omega) (by omega) (by omega) hb12
    have hTst : StV (sTry c p.2 N p.1 s (nI z) att) N := sTry_st hst hb12
    have hL3 : RuL (sTry c p.2 N p.1 s (nI z) att) R := hLp.to (fun r hr => ⟨kT _ (by omega), kT _ (by omega)⟩)
    have hS3 : SvV (sTry c p.2 N p.1 s (nI z) att) := hSp.to (fun s hs => ⟨kT _ (by omega), kT _ (by omega)⟩)
    have hTmo : sTry c p.2 N p.1 s (nI z) att (231 + 58 * r + 56) = nI mo := by rw [kT _ (by omega), kp _ (by omega) (by omega) (by omega), hmoV]
    rw [t1, zb_s]
    dsimp only
    generalize hV2 : sTry c p.2 N p.1 s (nI z) att = V2 at *
    cases hg : sGood p.2 p.1 with
    | true =>
      rw [if_neg (by decide)]
      simp only [if_true]
      have e107 : zf m2 107 (gS g s) = V2 (145 + 21 * s + 7) := (t2.2.1.2.2.1 s hs).2.2.1 7 (by omega) (by omega)
      rw [zl_s, hf.1.2.1, zin_4 hs, zgd_t, n_nat (by omega), t2.1.2.1 s hs, zl_s, e107, zl_s]
      exact ⟨_, att + 1, rfl, t2.updS hL3 hf (j := 7) hs (by omega) (by omega), hL3.up (fun r hr => by omega), hS3.to (fun s hs => ⟨uV_n (by omega), uV_n (by omega)⟩), (hB3.upd (fun i k _ _ _ _ _ => by omega)).mono (by omega)⟩
    | false =>
      rw [if_pos bI_f]
      simp only [Bool.false_eq_true, if_false]
      obtain ⟨m3, g1, g2, g3, g4⟩ := c_gather (s := nI s) (dn := done ||| 2 ^ p.1) hf hL3 t2 t3
      have hd2 : done ||| 2 ^ p.1 < 2 ^ N := Nat.or_lt_two_pow hdone (Nat.pow_lt_pow_right (by decide) hb)
      have fail : ∀ x5 : Int32, (x5 = 0 ∨ most ≤ nI (att + 1)) → f_X1_serve_b161 P (f_X1_serve_b63 P (fu + 1)) u (nI s) most (nI h) (nI z) (nI att) x5 m3 = some (-6, m3) := by
        intro x5 hx
        unfold f_X1_serve_b161
        rw [nI_1, zl_s]
        unfold f_X1_serve_b63 f_X1_serve_b169
        by_cases h9 : most ≤ nI (att + 1)
        · rw [if_pos h9]
        · rw [if_neg h9]
          rcases hx with hx | hx
          · rw [if_pos hx]
          · exact absurd hx h9
      have bad : sMay c V2 N s r (done ||| 2 ^ p.1) (att + 1) = false → ∃ m' T', some ((-6 : Int32), m3) = some ((if sMay c V2 N s r (done ||| 2 ^ p.1) (att + 1) = true then sLoop c N s r h z k (done ||| 2 ^ p.1) (att + 1) (uV V2 (145 + 21 * s + 5) (V2 (145 + 21 * s + 5) - 100)) else (-6, V2)).1, m') ∧ Ms own P m0 m' u g N R c (if sMay c V2 N s r (done ||| 2 ^ p.1) (att + 1) = true then sLoop c N s r h z k (done ||| 2 ^ p.1) (att + 1) (uV V2 (145 + 21 * s + 5) (V2 (145 + 21 * s + 5) - 100)) else (-6, V2)).2 T' ∧ RuL (if sMay c V2 N s r (done ||| 2 ^ p.1) (att + 1) = true then sLoop c N s r h z k (done ||| 2 ^ p.1) (att + 1) (uV V2 (145 + 21 * s + 5) (V2 (145 + 21 * s + 5) - 100)) else (-6, V2)).2 R ∧ SvV (if sMay c V2 N s r (done ||| 2 ^ p.1) (att + 1) = true then sLoop c N s r h z k (done ||| 2 ^ p.1) (att + 1) (uV V2 (145 + 21 * s + 5) (V2 (145 + 21 * s + 5) - 100)) else (-6, V2)).2 ∧ BdV (if sMay c V2 N s r (done ||| 2 ^ p.1) (att + 1) = true then sLoop c N s r h z k (done ||| 2 ^ p.1) (att + 1) (uV V2 (145 + 21 * s + 5) (V2 (145 + 21 * s + 5) - 100)) else (-6, V2)).2 N (B + (k + 1)) := by
        intro h9
        rw [h9]
        exact ⟨m3, att + 1, rfl, g2, hL3, hS3, hB3.mono (by omega)⟩
      rw [g1, zb_s]
      dsimp only
      unfold f_X1_serve_b160
      by_cases h4 : mWo (mAv V2 (nI s) N) (done ||| 2 ^ p.1) = 0
      · rw [decide_eq_false (fun q => q h4), if_pos bI_f, fail 0 (Or.inl rfl)]
        exact bad (decide_eq_false (fun q => q.2.2.2 h4))
      · rw [decide_eq_true h4, if_neg (by decide)]
        have e105 : zf m3 105 (gS g s) = V2 (145 + 21 * s + 5) := (g2.2.1.2.2.1 s hs).2.2.1 5 (by omega) (by omega)
        rw [zl_s, hf.1.2.1, zin_4 hs, zgd_t, n_nat (by omega), g2.1.2.1 s hs, zl_s, e105]
        by_cases h5 : V2 (145 + 21 * s + 5) < 100
        · rw [if_pos h5, fail 0 (Or.inl rfl)]
          exact bad (decide_eq_false (fun q => Int32.not_le.mpr h5 q.2.2.1))
        · rw [if_neg h5]
          by_cases h6 : c = 1
          · rw [fail 1 (Or.inr (by rw [hmost, if_pos h6, show (1 : Int32) = nI 1 from rfl, n_le (by omega) (by omega)]; omega))]
            exact bad (decide_eq_false (fun q => q.1 h6))
          · by_cases h7 : mo ≤ att + 1
            · rw [fail 1 (Or.inr (by rw [hmost, if_neg h6, n_le (by omega) (by omega)]; exact h7))]
              exact bad (decide_eq_false (fun q => by have := q.2.1; rw [hTmo, n_lt (by omega) (by omega)] at this; omega))
            · have hmay : sMay c V2 N s r (done ||| 2 ^ p.1) (att + 1) = true := decide_eq_true ⟨h6, by rw [hTmo, n_lt (by omega) (by omega)]; omega, Int32.not_lt.mp h5, h4⟩
              rw [hmay]
              simp only [if_true]
              unfold f_X1_serve_b161
              rw [nI_1, zl_s]
              unfold f_X1_serve_b63
              rw [if_neg (by rw [hmost, if_neg h6, n_le (by omega) (by omega)]; exact h7), if_neg (by decide), if_neg (by rw [show (0 : Int32) = nI 0 from rfl, n_le (by omega) (by omega)]; omega), zl_s, hf.1.2.1, zin_4 hs, zgd_t, n_nat (by omega), g2.1.2.1 s hs, zl_s, e105, zl_s]
              have hmA : mAv (uV V2 (145 + 21 * s + 5) (V2 (145 + 21 * s + 5) - 100)) (nI s) N = mAv V2 (nI s) N := mAv_congr (fun j hj => uV_n (by omega)) N h12
              obtain ⟨m9, T9, z1, z2, z3, z4, z5⟩ := ih fu (done ||| 2 ^ p.1) (att + 1) (B + 1) _ _ (g2.updS hL3 hf (j := 5) (x := V2 (145 + 21 * s + 5) - 100) hs (by omega) (by omega)) (hL3.up (fun r hr => by omega)) (uV_st hTst (by omega) (by omega) (by omega) (by omega)) (hS3.to (fun s hs => ⟨uV_n (by omega), uV_n (by omega)⟩)) (hB3.upd (fun i k _ _ _ _ _ => by omega)) (by omega) (by rw [uV_n (by omega)]; exact hTmo) (by omega) (by omega) hd2 (by rw [hmA]; exact h4) (g3.ne (by decide)) (by rw [hmA]; exact g4.ne (by decide)) (by omega)
              exact ⟨m9, T9, z1, z2, z3, z4, by rw [show B + (k + 1) = B + 1 + k by omega]; exact z5⟩
end CF

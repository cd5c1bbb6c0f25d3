theorem uV_comm {V : Nat → Int32} {i j : Nat} {x y : Int32} (h : i ≠ j) : uV (uV V i x) j y = uV (uV V j y) i x := by
  funext k
  unfold uV
  by_cases h1 : k = j
  · by_cases h2 : k = i
    · omega
    · rw [if_pos h1, if_neg h2, if_pos h1]
  · by_cases h2 : k = i
    · rw [if_neg h1, if_pos h2, if_pos h2]
    · rw [if_neg h1, if_neg h2, if_neg h2, if_neg h1]
theorem uV_self {V : Nat → Int32} {i : Nat} : uV V i (V i) = V := by
  funext k
  unfold uV
  by_cases h : k = i
  · rw [if_pos h, h]
  · rw [if_neg h]
theorem sCnt_congr {p q : Nat → Bool} {n : Nat} (h : ∀ i, i < n → p i = q i) : sCnt p n = sCnt q n := by
  induction n with
  | zero => rfl
  | succ k ih => rw [sCnt_s, sCnt_s, ih (fun i hi => h i (by omega)), h k (by omega)]
/-- the condition of an ejection -/
def sEjC (c : Int32) (V : Nat → Int32) (N b s : Nat) : Bool := decide (¬ c = 2 ∧ ¬ V (12 * b + 7) < V (145 + 21 * s + 1) ∧ (sCnt (fun i => sOut V i (nI s)) N + 1) * 100 ≤ V (145 + 21 * s + 3) * sCnt (fun i => sMem V i (nI s)) N)
def sEjV (V : Nat → Int32) (b s : Nat) : Nat → Int32 :=
  uV (uV (uV V (12 * b + 8) (V (12 * b + 8) + 1)) (12 * b + 7) 0) (12 * b + 9) (V (145 + 21 * s + 2) * (V (12 * b + 8) + 1))
theorem sEject_eq {c : Int32} {V : Nat → Int32} {N b s : Nat} (hb : b < 12) (hs : s < 4) : sEject c V N b s = if sEjC c V N b s = true then uV (sEjV V b s) 704 (V 704 + 1) else V := by
  unfold sEject sEjC sEjV
  by_cases h1 : c = 2
  · simp [h1]
  · by_cases h2 : V (12 * b + 7) < V (145 + 21 * s + 1)
    · simp [h1, h2]
    · by_cases h3 : (sCnt (fun i => sOut V i (nI s)) N + 1) * 100 ≤ V (145 + 21 * s + 3) * sCnt (fun i => sMem V i (nI s)) N
      · rw [if_neg h1, if_neg h2, if_pos h3, if_pos (decide_eq_true ⟨h1, h2, h3⟩)]
        dsimp only
        rw [uV_n (show (704 : Nat) ≠ 12 * b + 9 by omega), uV_n (show (704 : Nat) ≠ 12 * b + 7 by omega), uV_n (show (704 : Nat) ≠ 12 * b + 8 by omega), uV_n (show 145 + 21 * s + 2 ≠ 12 * b + 7 by omega), uV_n (show 145 + 21 * s + 2 ≠ 12 * b + 8 by omega), uV_n (show 12 * b + 8 ≠ 12 * b + 7 by omega), uV_s]
      · rw [if_neg h1, if_neg h2, if_neg h3, if_neg]
        intro h
        exact h3 (of_decide_eq_true h).2.2
/-- an attempt without the mesh's count -/
def sTry0 (V : Nat → Int32) (b : Nat) : Nat → Int32 :=
  if sGood V b = true then uV (uV (uV V (12 * b + 5) (V (12 * b + 5) + 1)) (12 * b + 6) (V (12 * b + 6) + 1)) (12 * b + 7) 0
  else uV (uV V (12 * b + 5) (V (12 * b + 5) + 1)) (12 * b + 7) (V (12 * b + 7) + 1)
theorem sTry1_eq {V : Nat → Int32} {b : Nat} (hb : b < 12) : sTry1 V b = uV (sTry0 V b) 702 (V 702 + 1) := by
  unfold sTry1 sTry0
  dsimp only
  cases hg : sGood V b with
  | true =>
    simp only [if_true]
    rw [uV_n (show 12 * b + 6 ≠ 12 * b + 5 by omega), show bI true = (1 : Int32) from rfl, uV_n (show (702 : Nat) ≠ 12 * b + 7 by omega), uV_n (show (702 : Nat) ≠ 12 * b + 6 by omega), uV_n (show (702 : Nat) ≠ 12 * b + 5 by omega)]
  | false =>
    simp only [Bool.false_eq_true, if_false]
    rw [show bI false = (0 : Int32) from rfl, Int32.add_zero, uV_self, uV_n (show (702 : Nat) ≠ 12 * b + 7 by omega), uV_n (show (702 : Nat) ≠ 12 * b + 5 by omega), uV_n (show 12 * b + 7 ≠ 12 * b + 5 by omega)]
theorem sTry0_keep {V : Nat → Int32} {b j : Nat} (h : j ≠ 12 * b + 5 ∧ j ≠ 12 * b + 6 ∧ j ≠ 12 * b + 7) : sTry0 V b j = V j := by
  unfold sTry0
  split
  · rw [uV_n h.2.2, uV_n h.2.1, uV_n h.1]
  · rw [uV_n h.2.2, uV_n h.1]
theorem sEjC_702 {c : Int32} {V : Nat → Int32} {N b s : Nat} {x : Int32} (h12 : N ≤ 12) (hb : b < 12) (hs : s < 4) : sEjC c (uV V 702 x) N b s = sEjC c V N b s := by
  unfold sEjC
  rw [uV_n (show 12 * b + 7 ≠ 702 by omega), uV_n (show 145 + 21 * s + 1 ≠ 702 by omega), uV_n (show 145 + 21 * s + 3 ≠ 702 by omega),
    sCnt_congr (p := fun i => sOut (uV V 702 x) i (nI s)) (q := fun i => sOut V i (nI s)) (fun i hi => by unfold sOut sMem; rw [uV_n (by omega), uV_n (by omega), uV_n (by omega)]),
    sCnt_congr (p := fun i => sMem (uV V 702 x) i (nI s)) (q := fun i => sMem V i (nI s)) (fun i hi => by unfold sMem; rw [uV_n (by omega), uV_n (by omega)])]
/-- the row behind an attempt, as the class comes to it -/
def sTryC (c : Int32) (V : Nat → Int32) (N b s : Nat) : Nat → Int32 :=
  if (!sGood V b && sEjC c (sTry0 V b) N b s) = true then uV (uV (sEjV (sTry0 V b) b s) 704 (V 704 + 1)) 702 (V 702 + 1) else uV (sTry0 V b) 702 (V 702 + 1)
theorem sTry_eq {c : Int32} {V : Nat → Int32} {N b s : Nat} {z : Int32} {T : Nat} (h12 : N ≤ 12) (hb : b < 12) (hs : s < 4) : sTry c V N b s z T = sTrace (sTryC c V N b s) b (sGood V b) z T := by
  unfold sTry sTryC
  congr 1
  rw [sTry1_eq hb]
  cases hg : sGood V b with
  | true => rfl
  | false =>
    simp only [Bool.false_eq_true, if_false, Bool.not_false, Bool.true_and]
    rw [sEject_eq hb hs, sEjC_702 h12 hb hs]
    split
    · have e1 : (uV (sTry0 V b) 702 (V 702 + 1)) 704 = V 704 := by rw [uV_n (by omega), sTry0_keep (by omega)]
      rw [e1]
      unfold sEjV
      rw [uV_n (show 12 * b + 8 ≠ 702 by omega), uV_n (show 145 + 21 * s + 2 ≠ 702 by omega), uV_comm (i := 702) (j := 12 * b + 8) (by omega), uV_comm (i := 702) (j := 12 * b + 7) (by omega), uV_comm (i := 702) (j := 12 * b + 9) (by omega), uV_comm (i := 702) (j := 704) (by omega)]
    · rfl
section CD
variable {own : Nat → Nat} {P : zSt} {m0 m : zM} {u N R T : Nat} {g : zGr} {c : Int32} {V : Nat → Int32}
theorem c_hasBackend (hN : zf m 21 u = nI N) {b : Nat} (hb : b < 12) (h1 : 1 ≤ N) (h12 : N ≤ 12) : f_X1_hasBackend P u (nI b) m = some (bI (decide (b < N)), m) := by
  unfold f_X1_hasBackend
  rw [hN, c_isWithin, zb_s, zbo_bI, zgd_t]
  dsimp only
  congr 3
  apply decide_eq_decide.mpr
  rw [show (1 : Int32) = nI 1 from rfl, n_sub _ _ h1, n_le (by omega) (by omega)]
  constructor
  · rintro ⟨-, h⟩
    omega
  · intro h
    exact ⟨nI_pos' (by omega), by omega⟩
theorem c_hasBackend_neg (hN : zf m 21 u = nI N) : f_X1_hasBackend P u (-1) m = some (bI false, m) := by
  unfold f_X1_hasBackend
  rw [c_isWithin, zb_s, zbo_bI, zgd_t]
  rfl
theorem sCw_ex {a N : Nat} {V : Nat → Int32} (ha : a < 2 ^ N) (h0 : a ≠ 0) : ∃ b, (sCw bCi bWi a.testBit V N).1 = some b := by
  obtain ⟨i, hi, hb⟩ := ex_bit ha h0
  exact sCw_some hi hb
theorem c_byW (hf : Mf own P u g N) (hL : RuL V R) {a : Nat} {q : Nat → Bool} (ha : a < 2 ^ N) (h0 : a ≠ 0) (hM : Ms own P m0 m u g N R c V T) (h2 : Flg m g 2 N a.testBit) (h13 : Flg m g 13 N q) :
    ∃ m', f_X9_chooseByWeights_13 P (zR P 20 u) (zf m 21 u) m = some (nI (sByW V N a).1, m') ∧ Ms own P m0 m' u g N R c (sByW V N a).2 T ∧ Flg m' g 13 N q := by
  obtain ⟨m', h1, h3, -, h5⟩ := c_choose hf hL hM h2 h13
  obtain ⟨b, hb⟩ := sCw_ex (V := V) ha h0
  rw [hM.2.1.1.1]
  refine ⟨m', ?_, h3, h5⟩
  rw [h1]
  unfold sByW
  rw [hb]
  rfl
theorem c_sticky (hf : Mf own P u g N) (hL : RuL V R) {s h a : Nat} {q : Nat → Bool} (hs : s < 4) (hh : h < 10) (hk : ∃ o : Option Nat, V (145 + 21 * s + 11 + h) = oI o ∧ ∀ b, o = some b → b < 12) (ha : a < 2 ^ N) (h0 : a ≠ 0) (hM : Ms own P m0 m u g N R c V T) (h2 : Flg m g 2 N a.testBit) (h13 : Flg m g 13 N q) :
    ∃ m', f_X1_pickSticky P u (gS g s) (nI h) m = some (nI (if 0 ≤ V (145 + 21 * s + 11 + h) ∧ a.testBit (V (145 + 21 * s + 11 + h)).toNatClampNeg = true then ((V (145 + 21 * s + 11 + h)).toNatClampNeg, V) else ((sByW V N a).1, uV (sByW V N a).2 (145 + 21 * s + 11 + h) (nI (sByW V N a).1))).1, m') ∧
      Ms own P m0 m' u g N R c (if 0 ≤ V (145 + 21 * s + 11 + h) ∧ a.testBit (V (145 + 21 * s + 11 + h)).toNatClampNeg = true then ((V (145 + 21 * s + 11 + h)).toNatClampNeg, V) else ((sByW V N a).1, uV (sByW V N a).2 (145 + 21 * s + 11 + h) (nI (sByW V N a).1))).2 T ∧ Flg m' g 13 N q := by
  have h12 := hf.2.2
  have hx := (hf.1.2.2.2.2.2.2.1 s hs).2
  obtain ⟨o, ho1, ho2⟩ := hk
  have e0 : za m (gK P g s) h = V (145 + 21 * s + 11 + h) := (hM.2.1.2.2.1 s hs).2.2.2.2 h hh
  have hN1 : 1 ≤ N := by
    obtain ⟨i, hi, -⟩ := ex_bit ha h0
    omega
  have hLw : RuL (sByW V N a).2 R := by
    unfold sByW
    exact hL.to (fun r hr => ⟨sCwE_keep (fun i hi => by unfold bCi; omega), sCwE_keep (fun i hi => by unfold bCi; omega)⟩)
  have b27 : ∃ m', f_X1_pickSticky_b27 P u (gS g s) (nI h) m = some (nI (sByW V N a).1, m') ∧ Ms own P m0 m' u g N R c (uV (sByW V N a).2 (145 + 21 * s + 11 + h) (nI (sByW V N a).1)) T ∧ Flg m' g 13 N q := by
    obtain ⟨m1, f1, f2, f3⟩ := c_byW hf hL ha h0 hM h2 h13
    unfold f_X1_pickSticky_b27 f_X1_pickSticky_b46
    rw [zl_s, f1, zb_s]
    dsimp only
    rw [zl_s, hx, zin_10 hh, zgd_t, n_nat (by omega), zl_s]
    exact ⟨_, rfl, f2.updK hLw hf hs hh, f3⟩
  unfold f_X1_pickSticky f_X1_pickSticky_b46
  rw [zl_s, hx, zin_10 hh, zgd_t, n_nat (by omega), e0, zl_s, ho1]
  cases o with
  | none =>
    have e2 : ¬ ((0 : Int32) ≤ oI none ∧ a.testBit (oI none).toNatClampNeg = true) := fun q => absurd q.1 (by decide)
    rw [if_neg e2, show oI none = (-1 : Int32) from rfl, c_hasBackend_neg hM.2.1.1.1, zb_s]
    dsimp only
    rw [if_pos bI_f]
    exact b27
  | some b =>
    have hb := ho2 b rfl
    rw [show oI (some b) = nI b from rfl, c_hasBackend hM.2.1.1.1 hb hN1 h12, zb_s, n_nat (by omega)]
    dsimp only
    by_cases hbN : b < N
    · rw [decide_eq_true hbN, if_neg (by decide), zl_s, hf.1.1, zin_12 hb, zgd_t, hM.1.1 b hb, zl_s, h2 b hbN]
      cases hbt : a.testBit b with
      | false =>
        rw [if_pos bI_f, if_neg (by simp)]
        exact b27
      | true =>
        rw [if_neg (by decide), if_pos ⟨nI_pos' (by omega), rfl⟩]
        exact ⟨m, rfl, hM, h13⟩
    · rw [decide_eq_false hbN, if_pos bI_f, if_neg]
      · exact b27
      · intro q
        exact hbN (bit_lt ha q.2)
theorem c_pick (hf : Mf own P u g N) (hL : RuL V R) {s h z a : Nat} {q : Nat → Bool} (hs : s < 4) (hh : h < 10) (hz : z < 3) (hV : StV V N) (hpol : ∃ p, p ≤ 2 ∧ sPol c V s = nI p) (ha : CandOf V N s a) (h0 : a ≠ 0) (hM : Ms own P m0 m u g N R c V T) (h2 : Flg m g 2 N a.testBit) (h13 : Flg m g 13 N q) :
    ∃ m', f_X1_pick P u (nI s) (nI h) (nI z) m = some (nI (sPick c V N s h z a).1, m') ∧ Ms own P m0 m' u g N R c (sPick c V N s h z a).2 T ∧ Flg m' g 13 N q := by
  have h12 := hf.2.2
  obtain ⟨m1, f1, f2, f3, f4⟩ := c_narrow hf hL hs hz hV ha hM h2 h13
  obtain ⟨q1, q2, q3⟩ := sNarrow_cand (c := c) (V := V) (s := s) (z := z) ha.1 h0 h12
  have hk : ∃ o : Option Nat, (sNarrow c V N s z a).2 (145 + 21 * s + 11 + h) = oI o ∧ ∀ b, o = some b → b < 12 := by
    rw [sNarrow_keep (by omega)]
    exact hV.2.2.2.2 s h hs hh
  have hLn : RuL (sNarrow c V N s z a).2 R := hL.to (fun r hr => ⟨sNarrow_keep (by omega), sNarrow_keep (by omega)⟩)
  have hpe : sPol c (sNarrow c V N s z a).2 s = sPol c V s := by
    unfold sPol
    rw [sNarrow_keep (by omega)]
  obtain ⟨p, hp2, hp⟩ := hpol
  unfold f_X1_pick
  rw [f1, zb_s]
  dsimp only
  have e100 : zf m1 100 (gS g s) = nI p := by rw [(f2.2.1.2.2.1 s hs).1, hpe, hp]
  rw [zl_s, hf.1.2.1, zin_4 hs, zgd_t, n_nat (by omega), f2.1.2.1 s hs, zl_s, e100]
  unfold sPick
  dsimp only
  rw [hpe, hp]
  generalize sNarrow c V N s z a = nw at *
  rcases (show p = 0 ∨ p = 1 ∨ p = 2 by omega) with rfl | rfl | rfl
  · rw [if_neg (by decide), if_neg (by decide), if_neg (by decide), if_pos (show nI 0 = (0 : Int32) from rfl), zl_s]
    obtain ⟨m2, w1, w2, w3⟩ := c_byW hf hLn q1 q2 f2 f3 f4
    rw [w1, zb_s]
    exact ⟨m2, rfl, w2, w3⟩
  · rw [if_pos (show nI 1 = (1 : Int32) from rfl), if_neg (by decide), if_neg (by decide)]
    have hl := c_least f2.1 hf f2.2.1.2.1 f2.2.1.1.1 f3
    rw [hl, zb_s]
    refine ⟨m1, ?_, f2, f4⟩
    dsimp only
    cases hq : sLu nw.1.testBit nw.2 N with
    | none =>
      exfalso
      obtain ⟨i, hi, hb⟩ := ex_bit q1 q2
      have : ∀ n, i < n → sLu nw.1.testBit nw.2 n ≠ none := by
        intro n
        induction n with
        | zero => intro h; omega
        | succ k ih =>
          intro hk
          rw [sLu_s]
          by_cases hc : nw.1.testBit k = true
          · rw [if_pos hc]
            split
            · simp
            · split <;> simp
          · rw [if_neg hc]
            refine ih ?_
            by_cases e : i = k
            · subst e
              exact absurd hb hc
            · omega
      exact this N hi hq
    | some b => rfl
  · rw [if_neg (by decide), if_pos (show nI 2 = (2 : Int32) from rfl), zl_s, hf.1.2.1, zin_4 hs, zgd_t, f2.1.2.1 s hs, zl_s, if_pos (by decide)]
    obtain ⟨m2, w1, w2, w3⟩ := c_sticky hf hLn hs hh hk q1 q2 f2 f3 f4
    rw [w1, zb_s]
    exact ⟨m2, rfl, w2, w3⟩
end CD

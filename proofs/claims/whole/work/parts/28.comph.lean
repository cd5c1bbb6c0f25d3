/-! ===== what an answer keeps of the row ===== -/
def kB (j : Nat) : Prop := (j < 144 → j % 12 < 4) ∧ (145 ≤ j → j < 229 → (j - 145) % 21 < 5) ∧ j < 702
def kA (j : Nat) : Prop := (j < 144 → j % 12 < 4) ∧ (145 ≤ j → j < 229 → (j - 145) % 21 < 5) ∧ j < 698 ∧ (231 ≤ j → j < 695 → (j - 231) % 58 < 44 ∨ 56 ≤ (j - 231) % 58 ∨ ((j - 231) % 58 - 44) % 4 < 2)
theorem sLoop_keep2 {c : Int32} {N s r h z j : Nat} (hs : s < 4) (hh : h < 10) (hz : z < 3) (hj : kB j) : ∀ k done att V, StV V N → done < 2 ^ N → mWo (mAv V (nI s) N) done ≠ 0 → (sLoop c N s r h z k done att V).2 j = V j := by
  obtain ⟨j1, j2, j3⟩ := hj
  intro k
  induction k with
  | zero => intro done att V _ _ _; rfl
  | succ k ih =>
    intro done att V hV hd hne
    have h12 := hV.2.1
    obtain ⟨hb, hbc⟩ := sPick_lt (c := c) (V := V) (s := s) (h := h) (z := z) (mWo_lt (b := done) (mAv_lt (V := V) (s := nI s) (n := N))) hne h12
    have hst := sPick_st (c := c) hV hs hh hz (mWo_lt (b := done) (mAv_lt (V := V) (s := nI s) (n := N))) hne
    have e1 : (sPick c V N s h z (mWo (mAv V (nI s) N) done)).2 j = V j := sPick_keep (by omega) (by omega) (by omega)
    unfold sLoop
    dsimp only
    generalize sPick c V N s h z (mWo (mAv V (nI s) N) done) = p at *
    have hb12 : p.1 < 12 := by omega
    have e2 : sTry c p.2 N p.1 s (nI z) att j = V j := by rw [sTry_keep (by omega) (by omega) (by omega) (by omega) hb12, e1]
    have hTst : StV (sTry c p.2 N p.1 s (nI z) att) N := sTry_st hst hb12
    generalize sTry c p.2 N p.1 s (nI z) att = V2 at *
    split
    · dsimp only
      rw [uV_n (by omega), e2]
    · split
      · rename_i h5
        unfold sMay at h5
        rw [decide_eq_true_eq] at h5
        rw [ih _ _ _ (uV_st hTst (by omega) (by omega) (by omega) (by omega)) (Nat.or_lt_two_pow hd (Nat.pow_lt_pow_right (by decide) hb)) (by rw [mAv_congr (fun i hi => uV_n (by omega)) N h12]; exact h5.2.2.2), uV_n (by omega), e2]
      · exact e2
theorem sServe_keep {c : Int32} {V : Nat → Int32} {N s r h z j : Nat} (hs : s < 4) (hh : h < 10) (hz : z < 3) (hj : kB j) (hV : StV V N) (hne : mAv V (nI s) N ≠ 0) : (sServe c V N s r h z).2 j = V j ∧ StV (sServe c V N s r h z).2 N := by
  have h12 := hV.2.1
  have hj' := hj
  obtain ⟨j1, j2, j3⟩ := hj
  unfold sServe
  dsimp only
  constructor
  · rw [sLoop_keep2 hs hh hz hj' _ _ _ _ (uV_st (uV_st (uV_st hV (by omega) (by omega) (by omega) (by omega)) (by omega) (by omega) (by omega) (by omega)) (by omega) (by omega) (by omega) (by omega)) (Nat.two_pow_pos _) (by rw [mWo_z (lt31 mAv_lt h12), mAv_congr (fun j hj => by rw [uV_n (by omega), uV_n (by omega), uV_n (by omega)]) N h12]; exact hne), uV_n (by omega), uV_n (by omega), uV_n (by omega)]
  · exact sLoop_st hs hh hz _ _ _ _ (uV_st (uV_st (uV_st hV (by omega) (by omega) (by omega) (by omega)) (by omega) (by omega) (by omega) (by omega)) (by omega) (by omega) (by omega) (by omega)) (Nat.two_pow_pos _) (by rw [mWo_z (lt31 mAv_lt h12), mAv_congr (fun j hj => by rw [uV_n (by omega), uV_n (by omega), uV_n (by omega)]) N h12]; exact hne)
/-- further facts of the rules: signs, weights, shadows, and that the print has room -/
def prL (V : Nat → Int32) (r : Nat) : Nat → Nat
  | 0 => 0
  | t + 1 => prL V r t + if V (231 + 58 * r + 44 + 4 * t + 1) = 1 then 2 else 4
def prN (V : Nat → Int32) (r : Nat) : Nat := (V (231 + 58 * r)).toNatClampNeg + (if V (231 + 58 * r + 41) = 0 ∧ V (231 + 58 * r + 42) = 9 then 0 else 5) + prL V r (V (231 + 58 * r + 43)).toNatClampNeg + (if V (231 + 58 * r + 57) < 0 then 0 else 2) + if V (231 + 58 * r + 56) = 1 then 0 else 2
def RuE (V : Nat → Int32) (R : Nat) : Prop := ∀ r, r < R → (∃ lo, lo ≤ 9 ∧ V (231 + 58 * r + 41) = nI lo) ∧ (∃ hi, hi ≤ 9 ∧ V (231 + 58 * r + 42) = nI hi) ∧ (∀ k, k < 40 → ∃ ch, ch < 128 ∧ V (231 + 58 * r + 1 + k) = nI ch) ∧ (∀ t, t < (V (231 + 58 * r + 43)).toNatClampNeg → ∃ w, 1 ≤ w ∧ w ≤ 9 ∧ V (231 + 58 * r + 44 + 4 * t + 1) = nI w) ∧ (V (231 + 58 * r + 57) = -1 ∨ ∃ s, s < 4 ∧ V (231 + 58 * r + 57) = nI s) ∧ prN V r ≤ 40
theorem prL_to {V V' : Nat → Int32} {r r' : Nat} : ∀ n, (∀ t, t < n → V' (231 + 58 * r' + 44 + 4 * t + 1) = V (231 + 58 * r + 44 + 4 * t + 1)) → prL V' r' n = prL V r n := by
  intro n
  induction n with
  | zero => intro _; rfl
  | succ n ih =>
    intro h
    unfold prL
    rw [ih (fun t ht => h t (by omega)), h n (by omega)]
/-- a rule's facts stay with its fixed cells, wherever they lie -/
def RuK (V V' : Nat → Int32) (r r' : Nat) : Prop := (∀ j, j < 44 ∨ j = 56 ∨ j = 57 → V' (231 + 58 * r' + j) = V (231 + 58 * r + j)) ∧ ∀ t, t < 3 → V' (231 + 58 * r' + 44 + 4 * t) = V (231 + 58 * r + 44 + 4 * t) ∧ V' (231 + 58 * r' + 44 + 4 * t + 1) = V (231 + 58 * r + 44 + 4 * t + 1)
def RuA (V : Nat → Int32) (r : Nat) : Prop := ((∃ len, len ≤ 40 ∧ V (231 + 58 * r) = nI len) ∧ (∃ n, 1 ≤ n ∧ n ≤ 3 ∧ V (231 + 58 * r + 43) = nI n ∧ ∀ t, t < n → ∃ s, s < 4 ∧ V (231 + 58 * r + 44 + 4 * t) = nI s) ∧ ∃ mo, 1 ≤ mo ∧ mo ≤ 4 ∧ V (231 + 58 * r + 56) = nI mo) ∧ (∃ lo, lo ≤ 9 ∧ V (231 + 58 * r + 41) = nI lo) ∧ (∃ hi, hi ≤ 9 ∧ V (231 + 58 * r + 42) = nI hi) ∧ (∀ k, k < 40 → ∃ ch, ch < 128 ∧ V (231 + 58 * r + 1 + k) = nI ch) ∧ (∀ t, t < (V (231 + 58 * r + 43)).toNatClampNeg → ∃ w, 1 ≤ w ∧ w ≤ 9 ∧ V (231 + 58 * r + 44 + 4 * t + 1) = nI w) ∧ (V (231 + 58 * r + 57) = -1 ∨ ∃ s, s < 4 ∧ V (231 + 58 * r + 57) = nI s) ∧ prN V r ≤ 40
theorem RuA.to {V V' : Nat → Int32} {r r' : Nat} (h : RuA V r) (k : RuK V V' r r') : RuA V' r' := by
  obtain ⟨⟨a1, ⟨n, b1, b2, b3, b4⟩, a3⟩, c1, c2, c3, c4, c5, c6⟩ := h
  obtain ⟨k1, k2⟩ := k
  have q0 : V' (231 + 58 * r') = V (231 + 58 * r) := k1 0 (by omega)
  have q41 := k1 41 (by omega)
  have q42 := k1 42 (by omega)
  have q43 := k1 43 (by omega)
  have q56 := k1 56 (by omega)
  have q57 := k1 57 (by omega)
  have hn3 : (V (231 + 58 * r + 43)).toNatClampNeg ≤ 3 := by rw [b3, n_nat (by omega)]; exact b2
  refine ⟨⟨by rw [q0]; exact a1, ⟨n, b1, b2, by rw [q43, b3], fun t ht => by rw [(k2 t (by omega)).1]; exact b4 t ht⟩, by rw [q56]; exact a3⟩, by rw [q41]; exact c1, by rw [q42]; exact c2, fun k hk => ?_, fun t ht => ?_, by rw [q57]; exact c5, ?_⟩
  · rw [show 231 + 58 * r' + 1 + k = 231 + 58 * r' + (1 + k) by omega, k1 (1 + k) (by omega), ← Nat.add_assoc]
    exact c3 k hk
  · rw [q43] at ht
    rw [(k2 t (by omega)).2]
    exact c4 t ht
  · unfold prN
    rw [q0, q41, q42, q43, q56, q57, prL_to (V := V) (r := r) _ (fun t ht => (k2 t (by omega)).2)]
    exact c6
/-- all that a row keeps: N backends, R rules, counts below B -/
def InV (V : Nat → Int32) (N R B : Nat) : Prop := StV V N ∧ (V 230 = nI R ∧ R ≤ 8) ∧ SvV V ∧ BdV V N B ∧ SrV V N ∧ ∀ r, r < R → RuA V r
section IV
variable {V V' : Nat → Int32} {N R B : Nat}
theorem InV.st (h : InV V N R B) : StV V N := h.1
theorem InV.ru (h : InV V N R B) : RuV V R := ⟨h.2.1.1, h.2.1.2, fun r hr => (h.2.2.2.2.2 r hr).1⟩
theorem InV.sv (h : InV V N R B) : SvV V := h.2.2.1
theorem InV.bd (h : InV V N R B) : BdV V N B := h.2.2.2.1
theorem InV.sr (h : InV V N R B) : SrV V N := h.2.2.2.2.1
theorem InV.ra (h : InV V N R B) {r : Nat} (hr : r < R) : RuA V r := h.2.2.2.2.2 r hr
theorem InV.to {B' : Nat} (h : InV V N R B) (hs : StV V' N) (hb : BdV V' N B') (hk : ∀ j, kA j → V' j = V j) : InV V' N R B' := by
  have h12 := h.1.2.1
  have h8 := h.2.1.2
  refine ⟨hs, ⟨by rw [hk 230 (by unfold kA; omega)]; exact h.2.1.1, h8⟩, h.sv.to (fun s hs => ⟨hk _ (by unfold kA; omega), hk _ (by unfold kA; omega)⟩), hb, fun i hi => by rw [hk _ (by unfold kA; omega)]; exact h.sr i hi, fun r hr => (h.ra hr).to ⟨fun j hj => hk _ (by unfold kA; omega), fun t ht => ⟨hk _ (by unfold kA; omega), hk _ (by unfold kA; omega)⟩⟩⟩
end IV
theorem sTal_c {w : Int32} : sTal w = 3 ∨ sTal w = 5 ∨ sTal w = 6 := by
  unfold sTal
  split
  · split <;> omega
  · omega
theorem min_le {x : Int32} : (if x < 1000 then x else 1000) = if x ≤ 1000 then x else 1000 := by
  by_cases h : x < 1000
  · rw [if_pos h, if_pos (Int32.le_of_lt h)]
  · rw [if_neg h]
    by_cases h2 : x ≤ 1000
    · rw [if_pos h2]
      exact Int32.le_antisymm (Int32.not_lt.mp h) h2
    · rw [if_neg h2]
/-- what is another's stays (the count of requests apart) -/
def Fo (own : Nat → Nat) (u : Nat) (m m' : zM) : Prop := m'.2.2 = m.2.2 ∧ (∀ f a, own a ≠ u → zf m' f a = zf m f a) ∧ ∀ a i, own a ≠ u → za m' a i = za m a i
theorem Fr.o {own : Nat → Nat} {u : Nat} {m m' : zM} (h : Fr own u m m') : Fo own u m m' := ⟨h.1, h.2.1, h.2.2.1⟩
theorem Fo.trans {own : Nat → Nat} {u : Nat} {m m1 m2 : zM} (h1 : Fo own u m m1) (h2 : Fo own u m1 m2) : Fo own u m m2 :=
  ⟨h2.1.trans h1.1, fun f a h => (h2.2.1 f a h).trans (h1.2.1 f a h), fun a i h => (h2.2.2 a i h).trans (h1.2.2 a i h)⟩
theorem Fo.zfp {own : Nat → Nat} {u : Nat} {m : zM} {f a : Nat} {v : Int32} (h : own a = u) : Fo own u m (zfp m f a v) :=
  ⟨rfl, fun f' a' h' => zf_ne (Or.inr (fun e => h' (by rw [e]; exact h))), fun _ _ _ => rfl⟩
theorem Fo.zap {own : Nat → Nat} {u : Nat} {m : zM} {a i : Nat} {v : Int32} (h : own a = u) : Fo own u m (zap m a i v) :=
  ⟨rfl, fun _ _ _ => rfl, fun a' i' h' => za_ne (Or.inl (fun e => h' (by rw [e]; exact h)))⟩
section CH
variable {own : Nat → Nat} {P : zSt} {m0 m : zM} {u N R T : Nat} {g : zGr} {c : Int32} {V : Nat → Int32}
theorem c_clear_l (hf : Mf own P u g N) (hL : RuL V R) {i1 i2 i3 i4 : Int32} : ∀ d k fu (m : zM), k + d = N → d < fu → Ms own P m0 m u g N R c V T → (∀ i, i < k → zf m 13 (gB g i) = 0) →
    ∃ m', f_X1_serve_b27 P fu u i1 i2 i3 i4 (nI k) m = (zb (f_X1_gatherCandidates P u i1 m') fun r55 m55 => f_X1_serve_b63 P zfuel u i1 i2 i3 i4 r55 0 m55) ∧ Ms own P m0 m' u g N R c V T ∧ Flg m' g 13 N (0 : Nat).testBit := by
  have h12 := hf.2.2
  intro d
  induction d with
  | zero =>
    intro k fu m hk hfu hM h13
    obtain ⟨fu, rfl⟩ : ∃ f, fu = f + 1 := ⟨fu - 1, by omega⟩
    have : k = N := by omega
    subst this
    unfold f_X1_serve_b27
    rw [hM.2.1.1.1, if_pos (Int32.le_refl _)]
    exact ⟨m, rfl, hM, fun i hi => by rw [h13 i hi, Nat.zero_testBit]; rfl⟩
  | succ d ih =>
    intro k fu m hk hfu hM h13
    obtain ⟨fu, rfl⟩ : ∃ f, fu = f + 1 := ⟨fu - 1, by omega⟩
    have hkN : k < N := by omega
    unfold f_X1_serve_b27
    rw [hM.2.1.1.1, if_neg (by rw [n_le (by omega) (by omega)]; omega), zl_s, hf.1.1, zin_12 (by omega), zgd_t, n_nat (by omega), hM.1.1 k (by omega), zl_s, zbo_0, zgd_t, zl_s, nI_1, zl_s]
    refine ih (k + 1) fu _ (by omega) (by omega) (hM.updF hL hf hkN (Or.inr rfl)) (fun i hi => ?_)
    by_cases e : i = k
    · subst e
      rw [zf_eq]
    · rw [zf_ne (Or.inr (fun q => e (hf.2.1.1 i k (by omega) (by omega) q)))]
      exact h13 i (by omega)
theorem c_serve (hf : Mf own P u g N) (hL : RuL V R) {s r h z mo B : Nat} {most : Int32} (hs : s < 4) (hr : r < 8) (hh : h < 10) (hz : z < 3) (hmo : 1 ≤ mo ∧ mo ≤ 4) (hmost : most = if c = 1 then 1 else nI mo) (hM : Ms own P m0 m u g N R c V 0) (hV : StV V N) (hS : SvV V) (hB : BdV V N B) (hB2 : B + 4 < 1000000) (hmoV : V (231 + 58 * r + 56) = nI mo) (hne : mAv V (nI s) N ≠ 0) :
    ∃ m' T', f_X1_serve P u (nI s) most (nI h) (nI z) m = some ((sServe c V N s r h z).1, m') ∧ Ms own P m0 m' u g N R c (sServe c V N s r h z).2 T' ∧ RuL (sServe c V N s r h z).2 R ∧ SvV (sServe c V N s r h z).2 ∧ BdV (sServe c V N s r h z).2 N (B + 4) := by
  have h12 := hf.2.2
  have h8 := hL.1
  have e106 : zf m 106 (gS g s) = V (145 + 21 * s + 6) := (hM.2.1.2.2.1 s hs).2.2.1 6 (by omega) (by omega)
  have hM1 := hM.updS hL hf (j := 6) (x := V (145 + 21 * s + 6) + 1) hs (by omega) (by omega)
  have hL1 : RuL (uV V (145 + 21 * s + 6) (V (145 + 21 * s + 6) + 1)) R := hL.up (fun r hr => by omega)
  have e105 : zf (zfp m 106 (gS g s) (V (145 + 21 * s + 6) + 1)) 105 (gS g s) = uV V (145 + 21 * s + 6) (V (145 + 21 * s + 6) + 1) (145 + 21 * s + 5) := (hM1.2.1.2.2.1 s hs).2.2.1 5 (by omega) (by omega)
  have e104 : zf (zfp m 106 (gS g s) (V (145 + 21 * s + 6) + 1)) 104 (gS g s) = uV V (145 + 21 * s + 6) (V (145 + 21 * s + 6) + 1) (145 + 21 * s + 4) := (hM1.2.1.2.2.1 s hs).2.2.1 4 (by omega) (by omega)
  have er : zr (zfp m 106 (gS g s) (V (145 + 21 * s + 6) + 1)) (zR P 22 u) s = gS g s := hM1.1.2.1 s hs
  unfold f_X1_serve f_X5_earnTokens sServe
  dsimp only
  rw [zl_s, hf.1.2.1, zin_4 hs, zgd_t, n_nat (by omega), hM.1.2.1 s hs, zl_s, e106, zl_s, zl_s, hf.1.2.1, zin_4 hs, zgd_t, er, zl_s, e105, e104, min_le, zl_s, zb_s, uV_s, uV_uV]
  dsimp only
  generalize hx : uV V (145 + 21 * s + 6) (V (145 + 21 * s + 6) + 1) = V1 at *
  have hV1 : StV V1 N := by rw [← hx]; exact uV_st hV (by omega) (by omega) (by omega) (by omega)
  have hS1 : SvV V1 := by rw [← hx]; exact hS.to (fun s hs => ⟨uV_n (by omega), uV_n (by omega)⟩)
  have hB1 : BdV V1 N B := by rw [← hx]; exact hB.upd (fun i k _ _ _ _ _ => by omega)
  have hmo1 : V1 (231 + 58 * r + 56) = nI mo := by rw [← hx, uV_n (by omega)]; exact hmoV
  have hne1 : mAv V1 (nI s) N ≠ 0 := by rw [← hx, mAv_congr (fun j hj => uV_n (by omega)) N h12]; exact hne
  clear hx
  generalize (if V1 (145 + 21 * s + 5) + V1 (145 + 21 * s + 4) ≤ 1000 then V1 (145 + 21 * s + 5) + V1 (145 + 21 * s + 4) else 1000) = y at *
  have hM2 := hM1.updS hL1 hf (j := 5) (x := y) hs (by omega) (by omega)
  have hL2 : RuL (uV V1 (145 + 21 * s + 5) y) R := hL1.up (fun r hr => by omega)
  have hne2 : mAv (uV V1 (145 + 21 * s + 5) y) (nI s) N ≠ 0 := by rw [mAv_congr (fun j hj => uV_n (by omega)) N h12]; exact hne1
  have hmz : mWo (mAv (uV V1 (145 + 21 * s + 5) y) (nI s) N) 0 = mAv (uV V1 (145 + 21 * s + 5) y) (nI s) N := mWo_z (lt31 mAv_lt h12)
  obtain ⟨m3, q1, q2, q3⟩ := c_clear_l (i1 := nI s) (i2 := most) (i3 := nI h) (i4 := nI z) hf hL2 N 0 zfuel _ (by omega) (by unfold zfuel; omega) hM2 (by intro i hi; omega)
  have q1' : f_X1_serve_b27 P zfuel u (nI s) most (nI h) (nI z) 0 (zfp (zfp m 106 (gS g s) (V (145 + 21 * s + 6) + 1)) 105 (gS g s) y) = (zb (f_X1_gatherCandidates P u (nI s) m3) fun r55 m55 => f_X1_serve_b63 P zfuel u (nI s) most (nI h) (nI z) r55 0 m55) := q1
  rw [q1']
  obtain ⟨m4, g1, g2, g3, g4⟩ := c_gather (s := nI s) (dn := 0) hf hL2 q2 q3
  rw [g1, hmz, decide_eq_true hne2, zb_s]
  dsimp only
  obtain ⟨fu, hfu⟩ : ∃ f, zfuel = f + 1 := ⟨999, rfl⟩
  have hmost1 : ¬ most ≤ 0 := by
    rw [hmost]
    split
    · decide
    · rw [show (0 : Int32) = nI 0 from rfl, n_le (by omega) (by omega)]
      omega
  rw [hfu]
  unfold f_X1_serve_b63
  rw [if_neg hmost1, if_neg (by decide), if_pos (by decide)]
  obtain ⟨m', T', w1, w2, w3, w4, w5⟩ := c_serve_l (r := r) (most := most) hf hs hr hh hz hmo hmost 4 fu 0 0 B _ m4 g2 hL2 (uV_st hV1 (by omega) (by omega) (by omega) (by omega)) (hS1.to (fun s hs => ⟨uV_n (by omega), uV_n (by omega)⟩)) (hB1.upd (fun i k _ _ _ _ _ => by omega)) hB2 (by rw [uV_n (by omega)]; exact hmo1) (by omega) (by omega) (Nat.two_pow_pos _) (by rw [hmz]; exact hne2) g3 g4 (by unfold zfuel at hfu; omega)
  exact ⟨m', T', w1, w2, w3, w4, w5⟩
end CH

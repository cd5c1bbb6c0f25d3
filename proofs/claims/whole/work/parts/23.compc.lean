theorem sSw_congr {p q : Nat → Bool} {V : Nat → Int32} {n : Nat} (h : ∀ i, i < n → p i = q i) : sSw p V n = sSw q V n := by
  induction n with
  | zero => rfl
  | succ k ih => rw [sSw_s, sSw_s, ih (fun i hi => h i (by omega)), h k (by omega)]
theorem sSw_zero {p : Nat → Bool} {V : Nat → Int32} {n : Nat} (h : ∀ i, i < n → p i = false) : sSw p V n = 0 := by
  induction n with
  | zero => rfl
  | succ k ih =>
    rw [sSw_s, ih (fun i hi => h i (by omega)), if_neg (by rw [h k (by omega)]; decide)]
    rfl
theorem sSw_pos {p : Nat → Bool} {V : Nat → Int32} {n i : Nat} (h12 : n ≤ 12) (hw : ∀ i, i < n → ∃ w, w ≤ 9 ∧ V (12 * i + 2) = nI w) (hi : i < n) (hp : p i = true) (h0 : 0 < V (12 * i + 2)) : ¬ sSw p V n ≤ 0 := by
  obtain ⟨W, hW1, hW2, hW3⟩ := sSw_n (p := p) hw
  obtain ⟨w, hw9, hwv⟩ := hw i hi
  rw [hwv, show (0 : Int32) = nI 0 from rfl, n_lt (by decide) (by omega)] at h0
  have := hW3 i w hi hp hw9 hwv
  rw [hW2, show (0 : Int32) = nI 0 from rfl, n_le (by omega) (by decide)]
  omega
theorem narrow_pos {c : Int32} {V : Nat → Int32} {N s z a : Nat} (hV : StV V N) (ha : CandOf V N s a) (h1 : mNr V (nI z) a N ≠ 0) : ¬ sLm c V * sSw (mWh V (nI s) (nI z) N).testBit V N ≤ 0 := by
  obtain ⟨i, hi, hb⟩ := ex_bit mNr_lt h1
  obtain ⟨-, h12, ⟨zl, hz1, hz2, hz3⟩, hw, -⟩ := hV
  rw [mNr_bit] at hb
  simp only [Bool.and_eq_true, decide_eq_true_eq] at hb
  have hm := ha.2 i hb.2.1
  obtain ⟨w, hw9, hwv⟩ := hw i hi
  obtain ⟨W, hW1, hW2, hW3⟩ := sSw_n (p := (mWh V (nI s) (nI z) N).testBit) hw
  have hp := mem_pos hm
  rw [hwv, show (0 : Int32) = nI 0 from rfl, n_lt (by decide) (by omega)] at hp
  have hle := hW3 i w hi (by rw [mWh_bit]; simp [hi, hm, hb.2.2]) hw9 hwv
  rw [hW2]
  unfold sLm
  have hWb : W ≤ 108 := by omega
  by_cases h4 : c = 4
  · rw [if_pos h4, show (1 : Int32) = nI 1 from rfl, n_mul, show (0 : Int32) = nI 0 from rfl, n_le (by omega) (by decide)]
    omega
  · rw [if_neg h4, hz3, n_mul, show (0 : Int32) = nI 0 from rfl]
    have h5 : zl * W ≤ 100 * 108 := Nat.mul_le_mul hz2 hWb
    have h6 : 0 < zl * W := Nat.mul_pos (by omega) (by omega)
    rw [n_le (by omega) (by decide)]
    omega
section CC
variable {own : Nat → Nat} {P : zSt} {m0 m : zM} {u N R T : Nat} {g : zGr} {c : Int32} {V : Nat → Int32}
def pN (V : Nat → Int32) (a : Nat) (z : Int32) (i : Nat) : Bool := a.testBit i && decide (V (12 * i + 1) = z)
def pF (V : Nat → Int32) (a : Nat) (z : Int32) (i : Nat) : Bool := a.testBit i && !decide (V (12 * i + 1) = z)
def pW (V : Nat → Int32) (s z : Int32) (i : Nat) : Bool := sMem V i s && decide (V (12 * i + 1) = z)
theorem c_keep_l (hf : Mf own P u g N) (hL : RuL V R) {a : Nat} {q : Nat → Bool} {z : Int32} {kp : Bool} : ∀ d k fu (m : zM), k + d = N → d < fu → Ms own P m0 m u g N R c V T → (∀ i, i < N → zf m 2 (gB g i) = bI (if i < k then (a.testBit i && (decide (V (12 * i + 1) = z) == kp)) else a.testBit i)) → Flg m g 13 N q →
    ∃ m', f_X1_narrow_b140 P fu u z (bI kp) (nI k) m = some (0, m') ∧ Ms own P m0 m' u g N R c V T ∧ Flg m' g 2 N (fun i => a.testBit i && (decide (V (12 * i + 1) = z) == kp)) ∧ Flg m' g 13 N q := by
  have h12 := hf.2.2
  intro d
  induction d with
  | zero =>
    intro k fu m hk hfu hM h2 h13
    obtain ⟨fu, rfl⟩ : ∃ f, fu = f + 1 := ⟨fu - 1, by omega⟩
    have : k = N := by omega
    subst this
    unfold f_X1_narrow_b140
    rw [hM.2.1.1.1, if_pos (Int32.le_refl _)]
    exact ⟨m, rfl, hM, fun i hi => by rw [h2 i hi, if_pos hi], h13⟩
  | succ d ih =>
    intro k fu m hk hfu hM h2 h13
    obtain ⟨fu, rfl⟩ : ∃ f, fu = f + 1 := ⟨fu - 1, by omega⟩
    have hkN : k < N := by omega
    have step : ∀ x : Bool, x = (a.testBit k && (decide (V (12 * k + 1) = z) == kp)) → ∃ m', f_X1_narrow_b210 P (f_X1_narrow_b140 P fu) u z (bI kp) (nI k) (bI x) (gB g k) m = some (0, m') ∧ Ms own P m0 m' u g N R c V T ∧ Flg m' g 2 N (fun i => a.testBit i && (decide (V (12 * i + 1) = z) == kp)) ∧ Flg m' g 13 N q := by
      intro x hx
      unfold f_X1_narrow_b210
      rw [zbo_bI, zgd_t, zl_s, zl_s, nI_1]
      refine ih (k + 1) fu _ (by omega) (by omega) (hM.updF hL hf hkN (Or.inl rfl)) (fun i hi => ?_) (h13.ne (by decide))
      by_cases e : i = k
      · subst e
        rw [zf_eq, if_pos (by omega), hx]
      · rw [zf_ne (Or.inr (fun q => e (hf.2.1.1 i k (by omega) (by omega) q))), h2 i hi]
        congr 1
        by_cases h9 : i < k
        · rw [if_pos h9, if_pos (by omega)]
        · rw [if_neg h9, if_neg (by omega)]
    have e1 : zf m 4 (gB g k) = V (12 * k + 1) := hM.2.1.2.1 k 1 hkN (by omega)
    have e2 : zf m 2 (gB g k) = bI (a.testBit k) := by rw [h2 k hkN, if_neg (by omega)]
    have b178 : ∀ y : Bool, y = (decide (V (12 * k + 1) = z) == kp) → ∃ m', f_X1_narrow_b178 P (f_X1_narrow_b140 P fu) u z (bI kp) (nI k) (bI y) m = some (0, m') ∧ Ms own P m0 m' u g N R c V T ∧ Flg m' g 2 N (fun i => a.testBit i && (decide (V (12 * i + 1) = z) == kp)) ∧ Flg m' g 13 N q := by
      intro y hy
      unfold f_X1_narrow_b178 f_X1_narrow_b209
      rw [zl_s, hf.1.1, zin_12 (show k < 12 by omega), zgd_t, n_nat (by omega), hM.1.1 k (by omega), zl_s, zl_s, hf.1.1, zin_12 (show k < 12 by omega), zgd_t, hM.1.1 k (by omega), zl_s, e2]
      cases hc : a.testBit k with
      | false =>
        rw [if_pos bI_f]
        exact step false (by rw [hc]; rfl)
      | true =>
        rw [if_neg (by decide)]
        cases hy2 : y with
        | false =>
          rw [if_pos bI_f]
          exact step false (by rw [hc, ← hy, hy2]; rfl)
        | true =>
          rw [if_neg (by decide)]
          exact step true (by rw [hc, ← hy, hy2]; rfl)
    unfold f_X1_narrow_b140 f_X1_narrow_b168
    rw [hM.2.1.1.1, if_neg (by rw [n_le (by omega) (by omega)]; omega), zl_s, hf.1.1, zin_12 (show k < 12 by omega), zgd_t, n_nat (by omega), hM.1.1 k (by omega), zl_s, e1]
    by_cases h1 : V (12 * k + 1) = z
    · rw [if_pos h1]
      cases hkp : kp with
      | true =>
        rw [hkp] at b178
        rw [if_pos (show (1 : Int32) = bI true from rfl)]
        exact b178 true (by rw [decide_eq_true h1]; rfl)
      | false =>
        rw [hkp] at b178
        rw [if_neg (by decide)]
        exact b178 false (by rw [decide_eq_true h1]; rfl)
    · rw [if_neg h1]
      cases hkp : kp with
      | true =>
        rw [hkp] at b178
        rw [if_neg (by decide)]
        exact b178 false (by rw [decide_eq_false h1]; rfl)
      | false =>
        rw [hkp] at b178
        rw [if_pos (show (0 : Int32) = bI false from rfl)]
        exact b178 true (by rw [decide_eq_false h1]; rfl)
theorem c_stays (hf : Mf own P u g N) (hL : RuL V R) {s z a : Nat} {n w : Int32} (hs : s < 4) (hz : z < 3) (hM : Ms own P m0 m u g N R c V T) (h2 : Flg m g 2 N a.testBit) {q : Nat → Bool} (h13 : Flg m g 13 N q) (hpos : ¬ sLm c V * w ≤ 0) :
    ∃ (m' : zM) (V' : Nat → Int32) (kp : Bool), f_X5_staysNear P (gS g s) (nI z) n w (sLm c V) m = some (bI kp, m') ∧ Ms own P m0 m' u g N R c V' T ∧ Flg m' g 2 N a.testBit ∧ Flg m' g 13 N q ∧
      ((100 * n < sLm c V * w ∧ 100 ≤ uV V (145 + 21 * s + 8 + z) (V (145 + 21 * s + 8 + z) + 10000 * n / (sLm c V * w)) (145 + 21 * s + 8 + z) ∧ kp = true ∧ V' = uV (uV V (145 + 21 * s + 8 + z) (V (145 + 21 * s + 8 + z) + 10000 * n / (sLm c V * w))) (145 + 21 * s + 8 + z) (uV V (145 + 21 * s + 8 + z) (V (145 + 21 * s + 8 + z) + 10000 * n / (sLm c V * w)) (145 + 21 * s + 8 + z) - 100)) ∨
       (100 * n < sLm c V * w ∧ ¬ 100 ≤ uV V (145 + 21 * s + 8 + z) (V (145 + 21 * s + 8 + z) + 10000 * n / (sLm c V * w)) (145 + 21 * s + 8 + z) ∧ kp = false ∧ V' = uV V (145 + 21 * s + 8 + z) (V (145 + 21 * s + 8 + z) + 10000 * n / (sLm c V * w))) ∨
       (¬ 100 * n < sLm c V * w ∧ kp = true ∧ V' = V)) := by
  have hx3 := (hf.1.2.2.2.2.2.2.1 s hs).1
  unfold f_X5_staysNear f_X5_staysNear_b20
  rw [zl_s, if_neg hpos]
  by_cases h1 : 100 * n < sLm c V * w
  · rw [if_pos h1]
    have e0 : za m (gX P g s) z = V (145 + 21 * s + 8 + z) := (hM.2.1.2.2.1 s hs).2.2.2.1 z hz
    rw [zl_s, hx3, zin_3 hz, zgd_t, zgd_t, n_nat (by omega), zdv, if_neg (fun h => hpos (by rw [h]; exact Int32.le_refl _)), zl_s, zl_s, hx3, zin_3 hz, zgd_t, za_eq, e0]
    have hM1 := hM.updX hL hf (x := V (145 + 21 * s + 8 + z) + 10000 * n / (sLm c V * w)) hs hz
    have hL1 : RuL (uV V (145 + 21 * s + 8 + z) (V (145 + 21 * s + 8 + z) + 10000 * n / (sLm c V * w))) R := hL.up (fun r hr => by omega)
    by_cases h3 : 100 ≤ V (145 + 21 * s + 8 + z) + 10000 * n / (sLm c V * w)
    · rw [if_pos h3, zl_s, hx3, zin_3 hz, zgd_t, zgd_t, za_eq, zl_s, zbo_1, zgd_t]
      exact ⟨_, _, true, rfl, hM1.updX hL1 hf hs hz, h2, h13, Or.inl ⟨h1, by rw [uV_s]; exact h3, rfl, by rw [uV_s]⟩⟩
    · rw [if_neg h3, zbo_0, zgd_t]
      exact ⟨_, _, false, rfl, hM1, h2, h13, Or.inr (Or.inl ⟨h1, by rw [uV_s]; exact h3, rfl, rfl⟩)⟩
  · rw [if_neg h1, zbo_1, zgd_t]
    exact ⟨m, V, true, rfl, hM, h2, h13, Or.inr (Or.inr ⟨h1, rfl, rfl⟩)⟩
theorem c_narrow_l (hf : Mf own P u g N) (hL : RuL V R) {s z a : Nat} {q : Nat → Bool} (hs : s < 4) (hz : z < 3) (hV : StV V N) (ha : CandOf V N s a) (hM : Ms own P m0 m u g N R c V T) (h2 : Flg m g 2 N a.testBit) (h13 : Flg m g 13 N q) : ∀ d k fu, k + d = N → d < fu →
    ∃ m', f_X1_narrow_b11 P fu u (nI s) (nI z) (sSw (pN V a (nI z)) V k) (sSw (pF V a (nI z)) V k) (sSw (pW V (nI s) (nI z)) V k) (nI k) m = some (0, m') ∧ Ms own P m0 m' u g N R c (sNarrow c V N s z a).2 T ∧ Flg m' g 2 N (sNarrow c V N s z a).1.testBit ∧ Flg m' g 13 N q := by
  have h12 := hf.2.2
  have hp := hM.2.1.2.1
  intro d
  induction d with
  | zero =>
    intro k fu hk hfu
    obtain ⟨fu, rfl⟩ : ∃ f, fu = f + 1 := ⟨fu - 1, by omega⟩
    have : k = N := by omega
    subst this
    have hn : sSw (pN V a (nI z)) V k = sSw (mNr V (nI z) a k).testBit V k := sSw_congr (fun i hi => by rw [mNr_bit]; simp [pN, hi])
    have hw : sSw (pW V (nI s) (nI z)) V k = sSw (mWh V (nI s) (nI z) k).testBit V k := sSw_congr (fun i hi => by rw [mWh_bit]; simp [pW, hi])
    have hn0 : sSw (pN V a (nI z)) V k ≤ 0 ↔ mNr V (nI z) a k = 0 := by
      constructor
      · intro h
        refine Classical.byContradiction (fun h0 => ?_)
        obtain ⟨i, hi, hb⟩ := ex_bit mNr_lt h0
        rw [hn] at h
        have hb2 := hb
        rw [mNr_bit] at hb2
        simp only [Bool.and_eq_true] at hb2
        exact sSw_pos h12 hV.2.2.2.1 hi hb (mem_pos (ha.2 i hb2.2.1)) h
      · intro h
        rw [hn, h, sSw_zero (fun i _ => Nat.zero_testBit i)]
        exact Int32.le_refl _
    have hf0 : sSw (pF V a (nI z)) V k ≤ 0 ↔ mNr V (nI z) a k = a := by
      constructor
      · intro h
        apply Nat.eq_of_testBit_eq
        intro i
        rw [mNr_bit]
        cases hb : a.testBit i with
        | false => simp
        | true =>
          have hi := bit_lt ha.1 hb
          have : V (12 * i + 1) = nI z := by
            refine Classical.byContradiction (fun h0 => ?_)
            exact sSw_pos (i := i) h12 hV.2.2.2.1 hi (by unfold pF; rw [hb, decide_eq_false h0]; rfl) (mem_pos (ha.2 i hb)) h
          simp [hi, this]
      · intro h
        rw [sSw_zero (fun i hi => ?_)]
        · exact Int32.le_refl _
        · unfold pF
          cases hb : a.testBit i with
          | false => rfl
          | true =>
            rw [← h, mNr_bit] at hb
            simp only [Bool.and_eq_true] at hb
            rw [hb.2.2]
            rfl
    unfold f_X1_narrow_b11 sNarrow
    rw [hM.2.1.1.1, if_pos (Int32.le_refl _)]
    dsimp only
    by_cases h1 : mNr V (nI z) a k = 0
    · rw [if_pos (hn0.mpr h1), if_pos h1]
      exact ⟨m, rfl, hM, h2, h13⟩
    · rw [if_neg (fun h => h1 (hn0.mp h)), if_neg h1]
      by_cases h3 : mNr V (nI z) a k = a
      · rw [if_pos (hf0.mpr h3), if_pos h3]
        exact ⟨m, rfl, hM, h2, h13⟩
      · rw [if_neg (fun h => h3 (hf0.mp h)), if_neg h3, hn, hw, zl_s, hf.1.2.1, zin_4 hs, zgd_t, n_nat (by omega), hM.1.2.1 s hs, zl_s, hM.2.1.1.2.2.2.2.1]
        obtain ⟨m1, V1, kp, f1, f2, f3, f4, f5⟩ := c_stays (n := sSw (mNr V (nI z) a k).testBit V k) (w := sSw (mWh V (nI s) (nI z) k).testBit V k) hf hL hs hz hM h2 h13 (narrow_pos hV ha h1)
        rw [f1, zb_s]
        dsimp only
        have hV1 : ∀ i, i < k → V1 (12 * i + 1) = V (12 * i + 1) := by
          intro i hi
          rcases f5 with ⟨-, -, -, rfl⟩ | ⟨-, -, -, rfl⟩ | ⟨-, -, rfl⟩
          · rw [uV_n (by omega), uV_n (by omega)]
          · rw [uV_n (by omega)]
          · rfl
        have hL1 : RuL V1 R := by
          rcases f5 with ⟨-, -, -, rfl⟩ | ⟨-, -, -, rfl⟩ | ⟨-, -, rfl⟩
          · exact (hL.up (fun r hr => by omega)).up (fun r hr => by omega)
          · exact hL.up (fun r hr => by omega)
          · exact hL
        obtain ⟨m2, g1, g2, g3, g4⟩ := c_keep_l (a := a) (z := nI z) (kp := kp) hf hL1 k 0 zfuel m1 (by omega) (by unfold zfuel; omega) f2 (fun i hi => by rw [f3 i hi, if_neg (by omega)]) f4
        have g3' : Flg m2 g 2 k (fun i => a.testBit i && (decide (V (12 * i + 1) = nI z) == kp)) := g3.cg (fun i hi => by rw [hV1 i hi])
        rcases f5 with ⟨c1, c2, rfl, rfl⟩ | ⟨c1, c2, rfl, rfl⟩ | ⟨c1, rfl, rfl⟩
        · rw [if_pos c1, if_pos c2]
          refine ⟨m2, g1, g2, g3'.cg (fun i hi => ?_), g4⟩
          rw [mNr_bit]
          cases a.testBit i <;> cases decide (V (12 * i + 1) = nI z) <;> simp [hi]
        · rw [if_pos c1, if_neg c2]
          refine ⟨m2, g1, g2, g3'.cg (fun i hi => ?_), g4⟩
          rw [mWo_bit (lt31 ha.1 h12), mNr_bit]
          cases a.testBit i <;> cases decide (V (12 * i + 1) = nI z) <;> simp [hi]
        · rw [if_neg c1]
          refine ⟨m2, g1, g2, g3'.cg (fun i hi => ?_), g4⟩
          rw [mNr_bit]
          cases a.testBit i <;> cases decide (V1 (12 * i + 1) = nI z) <;> simp [hi]
  | succ d ih =>
    intro k fu hk hfu
    obtain ⟨fu, rfl⟩ : ∃ f, fu = f + 1 := ⟨fu - 1, by omega⟩
    have hkN : k < N := by omega
    have hg := ih (k + 1) fu (by omega) (by omega)
    rw [sSw_s, sSw_s, sSw_s] at hg
    unfold pN pF pW at hg ⊢
    have e4 : zf m 4 (gB g k) = V (12 * k + 1) := hp k 1 hkN (by omega)
    have e0 : zf m 0 (gB g k) = V (12 * k + 2) := hp k 2 hkN (by omega)
    unfold f_X1_narrow_b11 f_X1_narrow_b57 f_X1_narrow_b75 f_X1_narrow_b103
    rw [hM.2.1.1.1, if_neg (by rw [n_le (by omega) (by omega)]; omega), zl_s, hf.1.1, zin_12 (show k < 12 by omega), zgd_t, n_nat (by omega), hM.1.1 k (by omega), zl_s, h2 k hkN]
    simp only [zl_s, c_mem hp hkN, zb_s, e4, e0, nI_1]
    have a0 : ∀ x : Int32, x + 0 = x := fun x => Int32.add_zero x
    cases hc : a.testBit k <;> cases hm : sMem V k (nI s) <;> by_cases hzz : V (12 * k + 1) = nI z <;> simp only [hc, hm, hzz, Bool.false_and, Bool.true_and, decide_true, decide_false, Bool.not_true, Bool.not_false, Bool.false_eq_true, if_true, if_false, a0, show (bI false = 0) = True from eq_true rfl, show (bI true = 0) = False from eq_false (by decide)] at hg ⊢ <;> exact hg
theorem c_narrow (hf : Mf own P u g N) (hL : RuL V R) {s z a : Nat} {q : Nat → Bool} (hs : s < 4) (hz : z < 3) (hV : StV V N) (ha : CandOf V N s a) (hM : Ms own P m0 m u g N R c V T) (h2 : Flg m g 2 N a.testBit) (h13 : Flg m g 13 N q) :
    ∃ m', f_X1_narrow P u (nI s) (nI z) m = some (0, m') ∧ Ms own P m0 m' u g N R c (sNarrow c V N s z a).2 T ∧ Flg m' g 2 N (sNarrow c V N s z a).1.testBit ∧ Flg m' g 13 N q :=
  c_narrow_l hf hL hs hz hV ha hM h2 h13 N 0 zfuel (by omega) (by have := hf.2.2; unfold zfuel; omega)
end CC

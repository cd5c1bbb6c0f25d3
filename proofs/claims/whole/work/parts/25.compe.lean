/-- bounds of the backends' counts -/
def BdV (V : Nat → Int32) (N B : Nat) : Prop := ∀ i, i < N → (∃ k, k ≤ B ∧ V (12 * i + 5) = nI k) ∧ (∃ k, k ≤ B ∧ V (12 * i + 7) = nI k) ∧ (∃ k, k ≤ B ∧ V (12 * i + 8) = nI k) ∧ (∃ k, k ≤ 20 * B ∧ V (12 * i + 9) = nI k) ∧ ∃ k, k ≤ B ∧ V (12 * i + 10) = nI k
/-- the services' settings -/
def SvV (V : Nat → Int32) : Prop := ∀ s, s < 4 → (∃ p, p ≤ 2 ∧ V (145 + 21 * s) = nI p) ∧ ∃ t, 1 ≤ t ∧ t ≤ 20 ∧ V (145 + 21 * s + 2) = nI t
theorem SvV.to {V V' : Nat → Int32} (h : SvV V) (e : ∀ s, s < 4 → V' (145 + 21 * s) = V (145 + 21 * s) ∧ V' (145 + 21 * s + 2) = V (145 + 21 * s + 2)) : SvV V' := fun s hs => by rw [(e s hs).1, (e s hs).2]; exact h s hs
theorem SvV.pol {V : Nat → Int32} {c : Int32} (h : SvV V) {s : Nat} (hs : s < 4) : ∃ p, p ≤ 2 ∧ sPol c V s = nI p := by
  unfold sPol
  split
  · exact ⟨0, by omega, rfl⟩
  · exact (h s hs).1
theorem BdV.to {V V' : Nat → Int32} {N B : Nat} (h : BdV V N B) (e : ∀ i k, i < N → 5 ≤ k → k < 12 → k ≠ 6 → k ≠ 11 → V' (12 * i + k) = V (12 * i + k)) : BdV V' N B := fun i hi => by
  rw [e i 5 hi (by omega) (by omega) (by omega) (by omega), e i 7 hi (by omega) (by omega) (by omega) (by omega), e i 8 hi (by omega) (by omega) (by omega) (by omega), e i 9 hi (by omega) (by omega) (by omega) (by omega), e i 10 hi (by omega) (by omega) (by omega) (by omega)]
  exact h i hi
theorem BdV.mono {V : Nat → Int32} {N B B' : Nat} (h : BdV V N B) (e : B ≤ B') : BdV V N B' := fun i hi => by
  obtain ⟨⟨a, a1, a2⟩, ⟨b, b1, b2⟩, ⟨c, c1, c2⟩, ⟨d, d1, d2⟩, ⟨f, f1, f2⟩⟩ := h i hi
  exact ⟨⟨a, by omega, a2⟩, ⟨b, by omega, b2⟩, ⟨c, by omega, c2⟩, ⟨d, by omega, d2⟩, ⟨f, by omega, f2⟩⟩
theorem BdV.upd {V : Nat → Int32} {N B j : Nat} {x : Int32} (h : BdV V N B) (hj : ∀ i k, i < N → 5 ≤ k → k < 12 → k ≠ 6 → k ≠ 11 → j ≠ 12 * i + k) : BdV (uV V j x) N B := h.to (fun i k h1 h2 h3 h4 h5 => uV_n (Ne.symm (hj i k h1 h2 h3 h4 h5)))
theorem bit7 {k : Nat} (hk : k < 2 ^ 31) (p : Int32) : ((p >>> ((nI k &&& 7) &&& 31)) &&& 1) = sBit p (nI k) := by
  unfold sBit
  have e1 : nI k &&& 7 = nI (k % 8) := pk_andN (by omega) 3 (by decide)
  have e2 : nI k - nI k / 8 * 8 = nI (k % 8) := pk_rem hk (by decide) (by decide)
  rw [e1, e2]
section CE
variable {own : Nat → Nat} {P : zSt} {m0 m : zM} {u N R T : Nat} {g : zGr} {c : Int32} {V : Nat → Int32}
theorem c_succeeds {k : Nat} {p : Int32} (hk : k < 2 ^ 31) : f_X10_succeeds P p (nI k) m = some (bI (decide (sBit p (nI k) = 1)), m) := by
  unfold f_X10_succeeds
  rw [bit7 hk]
  by_cases h : sBit p (nI k) = 1
  · rw [if_pos h, zbo_1, zgd_t, decide_eq_true h]
    rfl
  · rw [if_neg h, zbo_0, zgd_t, decide_eq_false h]
    rfl
theorem Flg.done {dn b : Nat} (hf : Mf own P u g N) (hb : b < N) (h : Flg m g 13 N dn.testBit) : Flg (zfp m 13 (gB g b) 1) g 13 N (dn ||| 2 ^ b).testBit := by
  intro i hi
  have h12 := hf.2.2
  rw [Nat.testBit_or, Nat.testBit_two_pow]
  by_cases e : b = i
  · subst e
    rw [zf_eq]
    simp [bI]
  · rw [zf_ne (Or.inr (fun q => e (hf.2.1.1 i b (by omega) (by omega) q).symm)), h i hi]
    simp [e]
theorem c_battempt (hf : Mf own P u g N) (hL : RuL V R) {b k dn : Nat} (hb : b < N) (hk : V (12 * b + 5) = nI k) (hk31 : k < 2 ^ 31) (hM : Ms own P m0 m u g N R c V T) (h13 : Flg m g 13 N dn.testBit) :
    ∃ m', f_X0_attempt P (gB g b) m = some (bI (sGood V b), m') ∧ Ms own P m0 m' u g N R c (sTry0 V b) T ∧ Flg m' g 13 N (dn ||| 2 ^ b).testBit := by
  have h12 := hf.2.2
  have e5 : zf m 5 (gB g b) = V (12 * b + 3) := hM.2.1.2.1 b 3 hb (by omega)
  have e6 : zf m 6 (gB g b) = V (12 * b + 5) := hM.2.1.2.1 b 5 hb (by omega)
  have hM1 := hM.updF hL hf (f := 13) (x := 1) hb (Or.inr rfl)
  have h131 := Flg.done hf hb h13
  have e61 : zf (zfp m 13 (gB g b) 1) 6 (gB g b) = V (12 * b + 5) := hM1.2.1.2.1 b 5 hb (by omega)
  have hM2 := hM1.updB hL hf (k := 5) (x := V (12 * b + 5) + 1) hb (by omega)
  have hL2 : RuL (uV V (12 * b + 5) (V (12 * b + 5) + 1)) R := hL.up (fun r hr => by omega)
  have e82 : zf (zfp (zfp m 13 (gB g b) 1) 6 (gB g b) (V (12 * b + 5) + 1)) 8 (gB g b) = V (12 * b + 7) := by
    have := hM2.2.1.2.1 b 7 hb (by omega)
    rw [uV_n (by omega)] at this
    exact this
  have e72 : zf (zfp (zfp m 13 (gB g b) 1) 6 (gB g b) (V (12 * b + 5) + 1)) 7 (gB g b) = V (12 * b + 6) := by
    have := hM2.2.1.2.1 b 6 hb (by omega)
    rw [uV_n (by omega)] at this
    exact this
  unfold f_X0_attempt f_X0_attempt_b59
  rw [e5, e6, hk, c_succeeds hk31, zb_s, zbo_1, zgd_t, zl_s, e61, zl_s, ← hk]
  dsimp only
  have hgd : decide (sBit (V (12 * b + 3)) (V (12 * b + 5)) = 1) = sGood V b := rfl
  rw [hgd, e82, e72]
  unfold sTry0
  cases hg : sGood V b with
  | false =>
    rw [if_pos bI_f, zl_s, zbo_bI, zgd_t]
    simp only [Bool.false_eq_true, if_false]
    exact ⟨_, rfl, hM2.updB hL2 hf (k := 7) hb (by omega), (h131.ne (by decide)).ne (by decide)⟩
  | true =>
    rw [if_neg (by decide), zl_s, zl_s, zbo_bI, zgd_t]
    simp only [if_true]
    exact ⟨_, rfl, (hM2.updB hL2 hf (k := 6) hb (by omega)).updB (hL2.up (fun r hr => by omega)) hf (k := 7) hb (by omega), ((h131.ne (by decide)).ne (by decide)).ne (by decide)⟩
theorem c_count_l (hG : GM P m u g) (hf : Mf own P u g N) (hp : PicB m g N V) (hN : zf m 21 u = nI N) {s : Int32} {o : Bool} : ∀ d k fu, k + d = N → d < fu → f_X1_countMembers_b5 P fu u s (bI o) (sCnt (fun i => if o = true then sOut V i s else sMem V i s) k) (nI k) m = some (sCnt (fun i => if o = true then sOut V i s else sMem V i s) N, m) := by
  have h12 := hf.2.2
  intro d
  induction d with
  | zero =>
    intro k fu hk hfu
    obtain ⟨fu, rfl⟩ : ∃ f, fu = f + 1 := ⟨fu - 1, by omega⟩
    have : k = N := by omega
    subst this
    unfold f_X1_countMembers_b5
    rw [hN, if_pos (Int32.le_refl _)]
  | succ d ih =>
    intro k fu hk hfu
    obtain ⟨fu, rfl⟩ : ∃ f, fu = f + 1 := ⟨fu - 1, by omega⟩
    have hkN : k < N := by omega
    have hg := ih (k + 1) fu (by omega) (by omega)
    rw [sCnt_s] at hg
    have e3 : zf m 3 (gB g k) = V (12 * k) := hp k 0 hkN (by omega)
    have e0 : zf m 0 (gB g k) = V (12 * k + 2) := hp k 2 hkN (by omega)
    have e9 : zf m 10 (gB g k) = V (12 * k + 9) := hp k 9 hkN (by omega)
    have a0 : ∀ x : Int32, x + 0 = x := fun x => Int32.add_zero x
    unfold f_X1_countMembers_b5 f_X1_countMembers_b52 f_X1_countMembers_b55
    rw [hN, if_neg (by rw [n_le (by omega) (by omega)]; omega), zl_s, hf.1.1, zin_12 (show k < 12 by omega), zgd_t, n_nat (by omega), hG.1 k (by omega), zl_s, e3, e0, e9]
    simp only [zl_s, nI_1]
    by_cases h1 : V (12 * k) = s
    · by_cases h2 : V (12 * k + 2) ≤ 0
      · have e : (if o = true then sOut V k s else sMem V k s) = false := by
          have : sMem V k s = false := decide_eq_false (fun q => Int32.not_lt.mpr h2 q.2)
          unfold sOut
          rw [this]
          cases o <;> rfl
        rw [e, bI_f, a0] at hg
        rw [if_pos h1, if_pos h2]
        exact hg
      · have hm : sMem V k s = true := decide_eq_true ⟨h1, Int32.not_le.mp h2⟩
        rw [if_pos h1, if_neg h2]
        cases o with
        | false =>
          have e : (if (false : Bool) = true then sOut V k s else sMem V k s) = true := hm
          rw [e, bI_t] at hg
          rw [if_pos bI_f]
          exact hg
        | true =>
          rw [if_neg (by decide)]
          by_cases h3 : V (12 * k + 9) ≤ 0
          · have e : (if (true : Bool) = true then sOut V k s else sMem V k s) = false := by
              show sOut V k s = false
              unfold sOut
              rw [hm, decide_eq_false (Int32.not_lt.mpr h3)]
              rfl
            rw [e, bI_f, a0] at hg
            rw [if_pos h3]
            exact hg
          · have e : (if (true : Bool) = true then sOut V k s else sMem V k s) = true := by
              show sOut V k s = true
              unfold sOut
              rw [hm, decide_eq_true (Int32.not_le.mp h3)]
              rfl
            rw [e, bI_t] at hg
            rw [if_neg h3]
            exact hg
    · have e : (if o = true then sOut V k s else sMem V k s) = false := by
        have : sMem V k s = false := decide_eq_false (fun q => h1 q.1)
        unfold sOut
        rw [this]
        cases o <;> rfl
      rw [e, bI_f, a0] at hg
      rw [if_neg h1]
      exact hg
theorem c_count (hG : GM P m u g) (hf : Mf own P u g N) (hp : PicB m g N V) (hN : zf m 21 u = nI N) {s : Int32} {o : Bool} : f_X1_countMembers P u s (bI o) m = some (sCnt (fun i => if o = true then sOut V i s else sMem V i s) N, m) :=
  c_count_l hG hf hp hN N 0 zfuel (by omega) (by have := hf.2.2; unfold zfuel; omega)
theorem c_toEject (hf : Mf own P u g N) {b s f : Nat} (hb : b < N) (hs : s < 4) (hsv : V (12 * b) = nI s) (hfr : V (12 * b + 7) = nI f) (hf30 : f < 1073741824) (hM : Ms own P m0 m u g N R c V T) : f_X1_isToEject P u (gB g b) m = some (bI (sEjC c V N b s), m) := by
  have e3 : zf m 3 (gB g b) = V (12 * b) := hM.2.1.2.1 b 0 hb (by omega)
  have e8 : zf m 8 (gB g b) = V (12 * b + 7) := hM.2.1.2.1 b 7 hb (by omega)
  have e101 := (hM.2.1.2.2.1 s hs).2.1
  have e103 : zf m 103 (gS g s) = V (145 + 21 * s + 3) := (hM.2.1.2.2.1 s hs).2.2.1 3 (by omega) (by omega)
  have c1 := c_count (s := nI s) (o := true) hM.1 hf hM.2.1.2.1 hM.2.1.1.1
  have c0 := c_count (s := nI s) (o := false) hM.1 hf hM.2.1.2.1 hM.2.1.1.1
  rw [show bI true = (1 : Int32) from rfl] at c1
  rw [show bI false = (0 : Int32) from rfl] at c0
  unfold f_X1_isToEject f_X1_isToEject_b56
  rw [zl_s, hf.1.2.1, e3, hsv, zin_4 hs, zgd_t, n_nat (by omega), hM.1.2.1 s hs, zl_s, e8, e101, c1, zb_s]
  dsimp only
  rw [e3, hsv, c0, zb_s, e103]
  dsimp only
  unfold sEjC
  simp only [if_true, Bool.false_eq_true, if_false]
  by_cases h1 : c = 2
  · rw [if_pos h1, hfr, show (1073741824 : Int32) = nI 1073741824 from rfl, if_pos ((n_lt (by omega) (by decide)).mpr hf30), zbo_0, zgd_t, decide_eq_false (fun q => q.1 h1)]
    rfl
  · rw [if_neg h1]
    by_cases h2 : V (12 * b + 7) < V (145 + 21 * s + 1)
    · rw [if_pos h2, zbo_0, zgd_t, decide_eq_false (fun q => q.2.1 h2)]
      rfl
    · rw [if_neg h2]
      by_cases h3 : V (145 + 21 * s + 3) * sCnt (fun i => sMem V i (nI s)) N < (sCnt (fun i => sOut V i (nI s)) N + 1) * 100
      · rw [if_pos h3, zbo_0, zgd_t, decide_eq_false (fun q => Int32.not_le.mpr h3 q.2.2)]
        rfl
      · rw [if_neg h3, zbo_1, zgd_t, decide_eq_true ⟨h1, h2, Int32.not_lt.mp h3⟩]
        rfl
theorem c_eject (hf : Mf own P u g N) (hL : RuL V R) {b s : Nat} (hb : b < N) (hs : s < 4) (hM : Ms own P m0 m u g N R c V T) {q : Nat → Bool} (h13 : Flg m g 13 N q) : ∃ m', f_X0_eject P (gB g b) (V (145 + 21 * s + 2)) m = some (0, m') ∧ Ms own P m0 m' u g N R c (sEjV V b s) T ∧ Flg m' g 13 N q := by
  have h12 := hf.2.2
  have e9 : zf m 9 (gB g b) = V (12 * b + 8) := hM.2.1.2.1 b 8 hb (by omega)
  have hM1 := hM.updB hL hf (k := 8) (x := V (12 * b + 8) + 1) hb (by omega)
  have hL1 : RuL (uV V (12 * b + 8) (V (12 * b + 8) + 1)) R := hL.up (fun r hr => by omega)
  have hM2 := hM1.updB hL1 hf (k := 7) (x := 0) hb (by omega)
  have hL2 : RuL (uV (uV V (12 * b + 8) (V (12 * b + 8) + 1)) (12 * b + 7) 0) R := hL1.up (fun r hr => by omega)
  have e92 : zf (zfp (zfp m 9 (gB g b) (V (12 * b + 8) + 1)) 8 (gB g b) 0) 9 (gB g b) = V (12 * b + 8) + 1 := by
    rw [zf_ne (Or.inl (by omega)), zf_eq]
  unfold f_X0_eject sEjV
  rw [e9, zl_s, zl_s, e92, zl_s]
  exact ⟨_, rfl, hM2.updB hL2 hf (k := 9) hb (by omega), ((h13.ne (by decide)).ne (by decide)).ne (by decide)⟩
theorem Pic.o (h : Pic P m u g N R c V) (hL : RuL V R) {a i : Nat} {x : Int32} (ha : ∀ s, s < 4 → a ≠ gX P g s ∧ a ≠ gK P g s) (hz : ∀ r, r < 8 → a ≠ gZ P g r) : Pic P (zap m a i x) u g N R c V :=
  ⟨h.1, h.2.1, h.2.2.1.cg (fun _ _ _ _ => rfl) (fun s z hs _ => za_ne (Or.inl (Ne.symm (ha s hs).1))) (fun s z hs _ => za_ne (Or.inl (Ne.symm (ha s hs).2))) (fun _ _ _ => rfl), h.2.2.2.1.cg hL.1 (fun _ _ _ _ _ => rfl) (fun _ _ => rfl) (fun r k hr hk => za_ne (Or.inl (Ne.symm (hz r (by have := hL.1; omega))))) (fun r hr => (hL.2 r hr).1) (fun _ _ _ _ => rfl), h.2.2.2.2⟩
theorem Pic.up (h : Pic P m u g N R c V) (hL : RuL V R) (h12 : N ≤ 12) {j : Nat} {x : Int32} (hj : 706 ≤ j) : Pic P m u g N R c (uV V j x) := by
  have h8 := hL.1
  exact ⟨h.1.cg (fun _ _ _ => rfl) (uV_n (by omega)) (uV_n (by omega)) (uV_n (by omega)) (fun j h1 h2 => uV_n (by omega)), h.2.1.cg (fun _ _ _ _ => rfl) (fun i k hi hk => uV_n (by omega)), h.2.2.1.cg (fun _ _ _ _ => rfl) (fun _ _ _ _ => rfl) (fun _ _ _ _ => rfl) (fun j h1 h2 => uV_n (by omega)), h.2.2.2.1.cg hL.1 (fun _ _ _ _ _ => rfl) (fun _ _ => rfl) (fun _ _ _ _ => rfl) (fun r hr => (hL.2 r hr).1) (fun r j hr hj => uV_n (by omega)), h.2.2.2.2.cg (fun _ _ _ _ _ _ => rfl) (fun r hr => uV_n (by omega)) (fun r t k' hr ht hk' => by have := (hL.2 r hr).2; exact uV_n (by omega))⟩
/-- the trail's new row -/
def sAdd (V : Nat → Int32) (T b : Nat) (sg n e : Bool) : Nat → Int32 := uV (uV (uV (uV (uV V (707 + 4 * T) (nI b)) (707 + 4 * T + 1) (bI sg)) (707 + 4 * T + 2) (bI n)) (707 + 4 * T + 3) (bI e)) 706 (nI (T + 1))
theorem c_add (hf : Mf own P u g N) (hL : RuL V R) {b : Nat} {sg n e : Bool} (hT : T < 4) (hM : Ms own P m0 m u g N R c V T) {q : Nat → Bool} (h13 : Flg m g 13 N q) :
    ∃ m', f_X8_add P (zR P 35 u) (nI b) (bI sg) (bI n) (bI e) m = some (0, m') ∧ Ms own P m0 m' u g N R c (sAdd V T b sg n e) (T + 1) ∧ Flg m' g 13 N q := by
  have h12 := hf.2.2
  have e161 := hM.2.2.1.2.2.1
  have hgp : ∀ m1 : zM, m1.2.2 = m.2.2 → zr m1 (zR P 160 (zR P 35 u)) T = gP g T := fun m1 h => (hM.1.to h).2.2.2.2 T hT
  have hlen := hf.1.2.2.2.2.1
  have hrow := hf.1.2.2.2.2.2.1 T hT
  have hq : f_X8_add P (zR P 35 u) (nI b) (bI sg) (bI n) (bI e) m = some (0, zfp (zap (zap (zap (zap m (gP g T) 0 (nI b)) (gP g T) 1 (bI sg)) (gP g T) 2 (bI n)) (gP g T) 3 (bI e)) 161 (zR P 35 u) (nI T + 1)) := by
    have z0 : zin 0 4 = true := by decide
    have z1 : zin 1 4 = true := by decide
    have z2 : zin 2 4 = true := by decide
    have z3 : zin 3 4 = true := by decide
    have t0 : (0 : Int32).toNatClampNeg = 0 := by decide
    have t1 : (1 : Int32).toNatClampNeg = 1 := by decide
    have t2 : (2 : Int32).toNatClampNeg = 2 := by decide
    have t3 : (3 : Int32).toNatClampNeg = 3 := by decide
    have f1 : ∀ (m1 : zM) (a i : Nat) (x : Int32), zf (zap m1 a i x) 161 (zR P 35 u) = zf m1 161 (zR P 35 u) := fun _ _ _ _ => rfl
    have r1 : ∀ (m1 : zM) (a i : Nat) (x : Int32), zr (zap m1 a i x) (zR P 160 (zR P 35 u)) T = zr m1 (zR P 160 (zR P 35 u)) T := fun _ _ _ _ => rfl
    have g0 := hgp m rfl
    unfold f_X8_add f_X8_add_b39 f_X8_add_b59 f_X8_add_b80
    rw [e161, if_neg (by rw [show (4 : Int32) = nI 4 from rfl, n_le (by omega) (by omega)]; omega)]
    cases sg <;> cases n <;> cases e <;> simp only [zl_s, hlen, zin_4 hT, zgd_t, n_nat (show T < 2 ^ 31 by omega), g0, hrow, z0, z1, z2, z3, t0, t1, t2, t3, f1, r1, e161, bI_t, bI_f, if_true, if_false, show ¬ ((1 : Int32) = 0) by decide]
  rw [hq]
  have hne : ∀ s, s < 4 → gP g T ≠ gX P g s ∧ gP g T ≠ gK P g s := fun s hs => hf.2.1.2.2.2.2.2.2.2.1 T s hT hs
  have hnz : ∀ r, r < 8 → gP g T ≠ gZ P g r := fun r hr => Ne.symm (hf.2.1.2.2.2.2.2.2.2.2.1 r T hr hT).2.2
  have ho : own (gP g T) = u := (hf.2.1.2.2.2.2.2.2.2.2.2.2.2.2.1 T hT).2.2.2
  have hot : own (zR P 35 u) = u := hf.2.1.2.2.2.2.2.2.2.2.2.2.1
  refine ⟨_, rfl, ⟨hM.1, ?_, ?_, ((((hM.2.2.2.trans (Fr.zap ho)).trans (Fr.zap ho)).trans (Fr.zap ho)).trans (Fr.zap ho)).trans (Fr.zfp hot (by omega))⟩, ((((h13 : Flg _ g 13 N q)) : Flg (zap (zap (zap (zap m (gP g T) 0 (nI b)) (gP g T) 1 (bI sg)) (gP g T) 2 (bI n)) (gP g T) 3 (bI e)) g 13 N q)).ne (by decide)⟩
  · have p1 := (((hM.2.1.o hL (i := 0) (x := nI b) hne hnz).o hL (i := 1) (x := bI sg) hne hnz).o hL (i := 2) (x := bI n) hne hnz).o hL (i := 3) (x := bI e) hne hnz
    have p2 := p1.updF hL (f := 161) (a := zR P 35 u) (x := nI T + 1) (by omega)
    have l1 : RuL (uV V (707 + 4 * T) (nI b)) R := hL.up (fun r hr => by have := hL.1; omega)
    have l2 : RuL (uV (uV V (707 + 4 * T) (nI b)) (707 + 4 * T + 1) (bI sg)) R := l1.up (fun r hr => by have := hL.1; omega)
    have l3 : RuL (uV (uV (uV V (707 + 4 * T) (nI b)) (707 + 4 * T + 1) (bI sg)) (707 + 4 * T + 2) (bI n)) R := l2.up (fun r hr => by have := hL.1; omega)
    have l4 : RuL (uV (uV (uV (uV V (707 + 4 * T) (nI b)) (707 + 4 * T + 1) (bI sg)) (707 + 4 * T + 2) (bI n)) (707 + 4 * T + 3) (bI e)) R := l3.up (fun r hr => by have := hL.1; omega)
    exact ((((p2.up hL h12 (by omega)).up l1 h12 (by omega)).up l2 h12 (by omega)).up l3 h12 (by omega)).up l4 h12 (by omega)
  · refine ⟨uV_s, by omega, by rw [zf_eq, nI_1], fun i k hi hk => ?_⟩
    unfold sAdd
    rw [uV_n (show 707 + 4 * i + k ≠ 706 by omega)]
    show za (zap (zap (zap (zap m (gP g T) 0 (nI b)) (gP g T) 1 (bI sg)) (gP g T) 2 (bI n)) (gP g T) 3 (bI e)) (gP g i) k = _
    by_cases hi2 : i = T
    · subst hi2
      rcases (show k = 0 ∨ k = 1 ∨ k = 2 ∨ k = 3 by omega) with rfl | rfl | rfl | rfl
      · rw [za_ne (Or.inr (by omega)), za_ne (Or.inr (by omega)), za_ne (Or.inr (by omega)), za_eq, uV_n (by omega), uV_n (by omega), uV_n (by omega), Nat.add_zero, uV_s]
      · rw [za_ne (Or.inr (by omega)), za_ne (Or.inr (by omega)), za_eq, uV_n (by omega), uV_n (by omega), uV_s]
      · rw [za_ne (Or.inr (by omega)), za_eq, uV_n (by omega), uV_s]
      · rw [za_eq, uV_s]
    · have hi3 : gP g i ≠ gP g T := fun q9 => hi2 (hf.2.1.2.2.2.2.2.2.1 i T (by omega) hT q9)
      rw [za_ne (Or.inl hi3), za_ne (Or.inl hi3), za_ne (Or.inl hi3), za_ne (Or.inl hi3), uV_n (by omega), uV_n (by omega), uV_n (by omega), uV_n (by omega)]
      exact hM.2.2.1.2.2.2 i k (by omega) hk
end CE

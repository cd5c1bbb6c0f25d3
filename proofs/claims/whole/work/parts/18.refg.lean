def tB (r : Nat) : Nat := 231 + 58 * r + 44
def tCi (r t : Nat) : Nat := 231 + 58 * r + 44 + 4 * t + 2
def tWi (r t : Nat) : Nat := 231 + 58 * r + 44 + 4 * t + 1
def tCand (V : Nat → Int32) (N r t : Nat) : Bool := decide (mAv V (V (231 + 58 * r + 44 + 4 * t)) N ≠ 0)
def sChoose (V : Nat → Int32) (N r n : Nat) : Option Nat × (Nat → Int32) :=
  let q := sCwE (tCi r) (tWi r) (tCand V N r) V n
  match q.1 with
  | none => (none, q.2)
  | some t => (some t, uV q.2 (231 + 58 * r + 44 + 4 * t + 3) (q.2 (231 + 58 * r + 44 + 4 * t + 3) + 1))
def sFst (p : Nat → Bool) : Nat → Nat → Option Nat
  | 0, _ => none
  | d + 1, k => if p k = true then some k else sFst p d (k + 1)
theorem sFst_some {p : Nat → Bool} {d k b : Nat} (h : sFst p d k = some b) : k ≤ b ∧ b < k + d ∧ p b = true := by
  induction d generalizing k with
  | zero => cases h
  | succ d ih =>
    unfold sFst at h
    by_cases hp : p k = true
    · rw [if_pos hp] at h
      cases h
      exact ⟨Nat.le_refl _, by omega, hp⟩
    · rw [if_neg hp] at h
      have := ih h
      exact ⟨by omega, by omega, this.2.2⟩
/-- the rule fits the text T of tn signs and the header h -/
def sFits (V T : Nat → Int32) (tn : Nat) (h : Int32) (r : Nat) : Bool := decide ((V (231 + 58 * r)).toNatClampNeg ≤ tn ∧ (V (231 + 58 * r + 41) ≤ h ∧ h ≤ V (231 + 58 * r + 42)) ∧ ∀ k, k < (V (231 + 58 * r)).toNatClampNeg → V (231 + 58 * r + 1 + k) = T k)
/-- the rules' shape -/
def RuV (V : Nat → Int32) (R : Nat) : Prop := V 230 = nI R ∧ R ≤ 8 ∧ ∀ r, r < R → (∃ len, len ≤ 40 ∧ V (231 + 58 * r) = nI len) ∧ (∃ n, 1 ≤ n ∧ n ≤ 3 ∧ V (231 + 58 * r + 43) = nI n ∧ ∀ t, t < n → ∃ s, s < 4 ∧ V (231 + 58 * r + 44 + 4 * t) = nI s) ∧ ∃ mo, 1 ≤ mo ∧ mo ≤ 4 ∧ V (231 + 58 * r + 56) = nI mo
def sTick (V : Nat → Int32) : Nat → Nat → Int32
  | 0 => V
  | k + 1 => uV (sTick V k) (12 * k + 9) (if sTick V k (12 * k + 9) ≤ 0 then 0 else sTick V k (12 * k + 9) - 1)
theorem sTick_s {V : Nat → Int32} {k : Nat} : sTick V (k + 1) = uV (sTick V k) (12 * k + 9) (if sTick V k (12 * k + 9) ≤ 0 then 0 else sTick V k (12 * k + 9) - 1) := rfl
theorem sTick_keep {V : Nat → Int32} {k j : Nat} (h : ∀ i, i < k → j ≠ 12 * i + 9) : sTick V k j = V j := by
  induction k with
  | zero => rfl
  | succ k ih =>
    rw [sTick_s, uV_n (h k (by omega)), ih (fun i hi => h i (by omega))]
section RG
variable {P : zSt} {y : Nat} {m : zM}
theorem r_ticks_l (ok : yOK P y) {V : Nat → Int32} {N : Nat} (hN : V 144 = nI N) (h12 : N ≤ 12) : ∀ d k fu, k + d = N → d < fu → f_X11_ticks_b14 P fu y (nI k) (wA m (yv P y) (sTick V k)) = some (0, wA m (yv P y) (sTick V N)) := by
  intro d
  induction d with
  | zero =>
    intro k fu hk hf
    obtain ⟨fu, rfl⟩ : ∃ f, fu = f + 1 := ⟨fu - 1, by omega⟩
    have : k = N := by omega
    subst this
    unfold f_X11_ticks_b14
    rw [zl_s, ok.1, zin144, z144, zgd_t, za_wA, sTick_keep (by omega), hN, if_pos (Int32.le_refl _)]
  | succ d ih =>
    intro k fu hk hf
    obtain ⟨fu, rfl⟩ : ∃ f, fu = f + 1 := ⟨fu - 1, by omega⟩
    have hkN : k < 12 := by omega
    have hg := ih (k + 1) fu (by omega) (by omega)
    rw [sTick_s] at hg
    unfold f_X11_ticks_b14 f_X11_ticks_b53
    rw [zl_s, ok.1, zin144, z144, zgd_t, za_wA, sTick_keep (by omega), hN, if_neg (by rw [n_le (by omega) (by omega)]; omega), show (9 : Int32) = nI 9 from rfl, r_of ok hkN (by omega), zb_s]
    dsimp only
    rw [za_wA]
    by_cases h1 : sTick V k (12 * k + 9) ≤ 0
    · rw [if_pos h1] at hg ⊢
      rw [r_sets ok hkN (by omega), zb_s, zl_s, nI_1]
      dsimp only
      rw [za_wA, wA_wA]
      exact hg
    · rw [if_neg h1] at hg ⊢
      rw [r_of ok hkN (by omega), zb_s]
      dsimp only
      rw [r_sets ok hkN (by omega), zb_s, zl_s, nI_1]
      dsimp only
      rw [za_wA, wA_wA]
      exact hg
theorem r_ticks (ok : yOK P y) {N : Nat} (hN : za m (yv P y) 144 = nI N) (h12 : N ≤ 12) : f_X11_ticks P y m = some (0, wA m (yv P y) (sTick (uV (za m (yv P y)) 705 (za m (yv P y) 705 + 1)) N)) := by
  have h := r_ticks_l (m := m) ok (V := uV (za m (yv P y)) 705 (za m (yv P y) 705 + 1)) (by rw [uV_n (by omega)]; exact hN) h12 N 0 zfuel (by omega) (by unfold zfuel; omega)
  unfold f_X11_ticks
  simp only [nlit, n_mul, n_add, zl_s, zb_s, zgd_t, zin_v, nat_v, za_wA, wA_wA, zf_wA, zap_eq, ok.1, Nat.reduceLT] at h ⊢
  exact h
theorem r_choose_l (ok : yOK P y) {V : Nat → Int32} {N r n : Nat} (hN : V 144 = nI N) (h12 : N ≤ 12) (hr : r < 8) (hn3 : n ≤ 3) (hnV : V (231 + 58 * r + 43) = nI n) : ∀ d k fu, k + d = n → d < fu → f_X11_choosesTarget_b20 P fu y (nI r) (nI (231 + 58 * r + 44)) (oI (sCw (tCi r) (tWi r) (tCand V N r) V k).1) (sCw (tCi r) (tWi r) (tCand V N r) V k).2.1 (nI k) (wA m (yv P y) (sCw (tCi r) (tWi r) (tCand V N r) V k).2.2) = some (oI (sChoose V N r n).1, wA m (yv P y) (sChoose V N r n).2) := by
  have hr1 : 231 + 58 * r + 43 < 723 := by omega
  intro d
  induction d with
  | zero =>
    intro k fu hk hf
    obtain ⟨fu, rfl⟩ : ∃ f, fu = f + 1 := ⟨fu - 1, by omega⟩
    have : k = n := by omega
    subst this
    unfold f_X11_choosesTarget_b20 sChoose sCwE
    have e : (sCw (tCi r) (tWi r) (tCand V N r) V k).2.2 (231 + 58 * r + 43) = nI k := by rw [sCw_keep (by intro i hi; unfold tCi; omega), hnV]
    simp only [nlit, n_mul, n_add, zl_s, zb_s, zgd_t, zin_v, nat_v, za_wA, wA_wA, zf_wA, zap_eq, ok.1, hr1, e, n_le_eq, Nat.le_refl, show k < 723 by omega, bIt0, bIf0, bIt1, bIf1, if_true, if_false, reduceIte]
    cases hq : (sCw (tCi r) (tWi r) (tCand V N r) V k).1 with
    | none =>
      simp only [oI_n, neg_ge0, bIt0, bIf0, bIt1, bIf1, if_true, if_false, reduceIte]
    | some b =>
      have hb := (sCw_lt hq).1
      have h2 : 231 + 58 * r + 44 + 4 * b + 2 < 723 := by omega
      have h3 : 231 + 58 * r + 44 + 4 * b + 3 < 723 := by omega
      simp only [oI_s, n_ge0, show b < 723 by omega, bIt0, bIf0, bIt1, bIf1, if_true, if_false, reduceIte, nlit, n_mul, n_add, zl_s, zb_s, zgd_t, zin_v, nat_v, za_wA, wA_wA, zf_wA, zap_eq, ok.1, h2, h3]
      rfl
  | succ d ih =>
    intro k fu hk hf
    obtain ⟨fu, rfl⟩ : ∃ f, fu = f + 1 := ⟨fu - 1, by omega⟩
    have hkn : k < n := by omega
    have hg := ih (k + 1) fu (by omega) (by omega)
    rw [sCw_s] at hg
    unfold f_X11_choosesTarget_b20 f_X11_choosesTarget_b129 f_X11_choosesTarget_b132
    have e : (sCw (tCi r) (tWi r) (tCand V N r) V k).2.2 (231 + 58 * r + 43) = nI n := by rw [sCw_keep (by intro i hi; unfold tCi; omega), hnV]
    have e0 : (sCw (tCi r) (tWi r) (tCand V N r) V k).2.2 (231 + 58 * r + 44 + 4 * k) = V (231 + 58 * r + 44 + 4 * k) := sCw_keep (by intro i hi; unfold tCi; omega)
    have hav := r_availables (m := wA m (yv P y) (sCw (tCi r) (tWi r) (tCand V N r) V k).2.2) ok (s := V (231 + 58 * r + 44 + 4 * k)) (by rw [za_wA, sCw_keep (by intro i hi; unfold tCi; omega)]; exact hN) h12
    rw [za_wA, mAv_congr (V := V) (fun j hj => sCw_keep (by intro i hi; unfold tCi; omega)) N h12] at hav
    have h1 : 231 + 58 * r + 44 + 4 * k < 723 := by omega
    have h11 : 231 + 58 * r + 44 + 4 * k + 1 < 723 := by omega
    have h12' : 231 + 58 * r + 44 + 4 * k + 2 < 723 := by omega
    simp only [nlit, n_mul, n_add, zl_s, zb_s, zgd_t, zin_v, nat_v, za_wA, wA_wA, zf_wA, zap_eq, ok.1, hr1, e, e0, n_le_eq, show n < 723 by omega, show k < 723 by omega, show ¬ n ≤ k by omega, bIt0, bIf0, bIt1, bIf1, if_true, if_false, reduceIte, h1, h11, h12', hav]
    have h31 : mAv V (V (231 + 58 * r + 44 + 4 * k)) N < 2 ^ 31 := lt31 mAv_lt h12
    have ht : tCand V N r k = decide (mAv V (V (231 + 58 * r + 44 + 4 * k)) N ≠ 0) := rfl
    have hci : tCi r k = 231 + 58 * r + 44 + 4 * k + 2 := rfl
    have hwi : tWi r k = 231 + 58 * r + 44 + 4 * k + 1 := rfl
    by_cases hc : mAv V (V (231 + 58 * r + 44 + 4 * k)) N = 0
    · rw [if_pos (by rw [hc])]
      rw [ht, decide_eq_false (fun h => h hc)] at hg
      simp only [Bool.false_eq_true, if_false] at hg
      exact hg
    · rw [if_neg (by rw [n_inj h31 (by decide)]; exact hc)]
      rw [ht, decide_eq_true hc] at hg
      simp only [if_true] at hg
      rw [hci, hwi] at hg
      cases hq : (sCw (tCi r) (tWi r) (tCand V N r) V k).1 with
      | none =>
        rw [hq] at hg
        simp only [oI_n, neg_lt0, bIt0, bIf0, bIt1, bIf1, if_true, if_false, reduceIte]
        exact hg
      | some b =>
        have hb := (sCw_lt hq).1
        have hb2 : 231 + 58 * r + 44 + 4 * b + 2 < 723 := by omega
        rw [hq] at hg
        dsimp only at hg
        rw [show tCi r b = 231 + 58 * r + 44 + 4 * b + 2 from rfl] at hg
        simp only [oI_s, n_lt0, show b < 723 by omega, bIt0, bIf0, bIt1, bIf1, if_true, if_false, reduceIte, nlit, n_mul, n_add, zl_s, zb_s, zgd_t, zin_v, nat_v, za_wA, wA_wA, zf_wA, zap_eq, ok.1, hb2]
        generalize sCw (tCi r) (tWi r) (tCand V N r) V k = q at *
        by_cases h2 : uV q.2.2 (231 + 58 * r + 44 + 4 * k + 2) (q.2.2 (231 + 58 * r + 44 + 4 * k + 2) + q.2.2 (231 + 58 * r + 44 + 4 * k + 1)) (231 + 58 * r + 44 + 4 * b + 2) < uV q.2.2 (231 + 58 * r + 44 + 4 * k + 2) (q.2.2 (231 + 58 * r + 44 + 4 * k + 2) + q.2.2 (231 + 58 * r + 44 + 4 * k + 1)) (231 + 58 * r + 44 + 4 * k + 2)
        · rw [if_pos h2] at hg
          rw [if_neg (Int32.not_le.mpr h2)]
          exact hg
        · rw [if_neg h2] at hg
          rw [if_pos (Int32.not_lt.mp h2)]
          exact hg
theorem r_choose (ok : yOK P y) {N r n : Nat} (hN : za m (yv P y) 144 = nI N) (h12 : N ≤ 12) (hr : r < 8) (hn3 : n ≤ 3) (hnV : za m (yv P y) (231 + 58 * r + 43) = nI n) : f_X11_choosesTarget P y (nI r) m = some (oI (sChoose (za m (yv P y)) N r n).1, wA m (yv P y) (sChoose (za m (yv P y)) N r n).2) := by
  have h := r_choose_l (m := m) ok hN h12 hr hn3 hnV n 0 zfuel (by omega) (by unfold zfuel; omega)
  rw [show (sCw (tCi r) (tWi r) (tCand (za m (yv P y)) N r) (za m (yv P y)) 0).2.2 = za m (yv P y) from rfl, wA_self] at h
  unfold f_X11_choosesTarget
  have e : (((231 : Int32) + ((58 : Int32) * nI r)) + (44 : Int32)) = nI (231 + 58 * r + 44) := by
    rw [show (58 : Int32) = nI 58 from rfl, show (231 : Int32) = nI 231 from rfl, show (44 : Int32) = nI 44 from rfl, n_mul, n_add, n_add]
  rw [e, zl_s]
  exact h
theorem r_fits_l (ok : yOK P y) {r len tn : Nat} (hr : r < 8) (hl : za m (yv P y) (231 + 58 * r) = nI len) (hl40 : len ≤ 40) : ∀ d k fu, k + d = len → d < fu → f_X11_fits_b52 P fu y (nI (231 + 58 * r)) (nI k) m = some (bI (decide (∀ j, j < len → k ≤ j → za m (yv P y) (231 + 58 * r + 1 + j) = za m (zR P 206 y) j)), m) := by
  have hr1 : 231 + 58 * r < 723 := by omega
  intro d
  induction d with
  | zero =>
    intro k fu hk hf
    obtain ⟨fu, rfl⟩ : ∃ f, fu = f + 1 := ⟨fu - 1, by omega⟩
    have : k = len := by omega
    subst this
    unfold f_X11_fits_b52
    rw [zl_s, ok.1, zin_v hr1, zgd_t, nat_v hr1, hl, if_pos (Int32.le_refl _), decide_eq_true (by intro j h1 h2; omega)]
    rfl
  | succ d ih =>
    intro k fu hk hf
    obtain ⟨fu, rfl⟩ : ∃ f, fu = f + 1 := ⟨fu - 1, by omega⟩
    have hg := ih (k + 1) fu (by omega) (by omega)
    have hr2 : 231 + 58 * r + 1 + k < 723 := by omega
    unfold f_X11_fits_b52
    rw [zl_s, ok.1, zin_v hr1, zgd_t, nat_v hr1, hl, if_neg (by rw [n_le (by omega) (by omega)]; omega), zl_s, show (nI (231 + 58 * r) + (1 : Int32) + nI k) = nI (231 + 58 * r + 1 + k) by rw [nI_1, n_add], ok.1, zin_v hr2, zgd_t, nat_v hr2, zl_s, ok.2.2.2.2.1, zin_n (by omega) (by omega), n_nat (by omega), zgd_t]
    by_cases h1 : za m (yv P y) (231 + 58 * r + 1 + k) = za m (zR P 206 y) k
    · rw [if_pos h1, zl_s, nI_1, hg]
      congr 3
      apply decide_eq_decide.mpr
      constructor
      · intro h j hj1 hj2
        by_cases e : j = k
        · rw [e]
          exact h1
        · exact h j hj1 (by omega)
      · intro h j hj1 hj2
        exact h j hj1 (by omega)
    · rw [if_neg h1, decide_eq_false (fun h => h1 (h k (by omega) (Nat.le_refl _)))]
      rfl
theorem r_fits (ok : yOK P y) {r len tn : Nat} {h : Int32} (hr : r < 8) (hl : za m (yv P y) (231 + 58 * r) = nI len) (hl40 : len ≤ 40) (htn : zf m 207 y = nI tn) (htn40 : tn ≤ 40) : f_X11_fits P y (nI r) h m = some (bI (sFits (za m (yv P y)) (za m (zR P 206 y)) tn h r), m) := by
  have hr1 : 231 + 58 * r < 723 := by omega
  have hr41 : 231 + 58 * r + 41 < 723 := by omega
  have hr42 : 231 + 58 * r + 42 < 723 := by omega
  have hf := r_fits_l (m := m) ok (tn := tn) hr hl hl40 len 0 zfuel (by omega) (by unfold zfuel; omega)
  unfold f_X11_fits f_X11_fits_b47 sFits
  rw [show (231 : Int32) + (58 : Int32) * nI r = nI (231 + 58 * r) by rw [show (58 : Int32) = nI 58 from rfl, show (231 : Int32) = nI 231 from rfl, n_mul, n_add], zl_s, zl_s, ok.1, zin_v hr1, zgd_t, nat_v hr1, hl, htn, n_nat (by omega)]
  by_cases h1 : nI tn < nI len
  · rw [if_pos h1, decide_eq_false]
    · rfl
    · intro h2
      rw [n_lt (by omega) (by omega)] at h1
      omega
  · rw [if_neg h1]
    rw [n_lt (by omega) (by omega)] at h1
    rw [show nI (231 + 58 * r) + (41 : Int32) = nI (231 + 58 * r + 41) by rw [show (41 : Int32) = nI 41 from rfl, n_add], show nI (231 + 58 * r) + (42 : Int32) = nI (231 + 58 * r + 42) by rw [show (42 : Int32) = nI 42 from rfl, n_add], zl_s, ok.1, zin_v hr41, zgd_t, nat_v hr41, zl_s, ok.1, zin_v hr42, zgd_t, nat_v hr42, r_isIn, zb_s]
    dsimp only
    by_cases h2 : za m (yv P y) (231 + 58 * r + 41) ≤ h ∧ h ≤ za m (yv P y) (231 + 58 * r + 42)
    · rw [decide_eq_true h2, if_neg (by decide), show (0 : Int32) = nI 0 from rfl, hf]
      congr 3
      apply decide_eq_decide.mpr
      constructor
      · intro h3
        exact ⟨by omega, h2, fun k hk => h3 k hk (Nat.zero_le _)⟩
      · intro h3 j hj _
        exact h3.2.2 j hj
    · rw [decide_eq_false h2, if_pos bI_f, decide_eq_false (fun h3 => h2 h3.2.1)]
      rfl
theorem r_ruleOf_l (ok : yOK P y) {R tn : Nat} {h : Int32} (hR : RuV (za m (yv P y)) R) (htn : zf m 207 y = nI tn) (htn40 : tn ≤ 40) : ∀ d k fu, k + d = R → d < fu → f_X11_ruleOf_b2 P fu y h (nI k) m = some (oI (sFst (sFits (za m (yv P y)) (za m (zR P 206 y)) tn h) d k), m) := by
  obtain ⟨h1, h8, hru⟩ := hR
  intro d
  induction d with
  | zero =>
    intro k fu hk hf
    obtain ⟨fu, rfl⟩ : ∃ f, fu = f + 1 := ⟨fu - 1, by omega⟩
    have : k = R := by omega
    subst this
    unfold f_X11_ruleOf_b2 f_X11_ruleOf_b29
    rw [zl_s, ok.1, show zin (230 : Int32) 723 = true by decide, zgd_t, show (230 : Int32).toNatClampNeg = 230 by decide, h1, if_pos (Int32.le_refl _), zl_s, ok.1, show zin (230 : Int32) 723 = true by decide, zgd_t, h1, if_pos (Int32.le_refl _)]
    rfl
  | succ d ih =>
    intro k fu hk hf
    obtain ⟨fu, rfl⟩ : ∃ f, fu = f + 1 := ⟨fu - 1, by omega⟩
    have hg := ih (k + 1) fu (by omega) (by omega)
    obtain ⟨len, hlen, hl⟩ := (hru k (by omega)).1
    unfold f_X11_ruleOf_b2 f_X11_ruleOf_b29 sFst
    rw [zl_s, ok.1, show zin (230 : Int32) 723 = true by decide, zgd_t, show (230 : Int32).toNatClampNeg = 230 by decide, h1, if_neg (by rw [n_le (by omega) (by omega)]; omega), r_fits ok (by omega) hl hlen htn htn40, zb_s]
    dsimp only
    cases hp : sFits (za m (yv P y)) (za m (zR P 206 y)) tn h k with
    | false =>
      rw [if_pos bI_f, zl_s, nI_1]
      simp only [Bool.false_eq_true, if_false]
      exact hg
    | true =>
      rw [if_neg (by decide), zl_s, ok.1, show zin (230 : Int32) 723 = true by decide, zgd_t, h1, if_neg (by rw [n_le (by omega) (by omega)]; omega)]
      rfl
theorem r_ruleOf (ok : yOK P y) {R tn : Nat} {h : Int32} (hR : RuV (za m (yv P y)) R) (htn : zf m 207 y = nI tn) (htn40 : tn ≤ 40) : f_X11_ruleOf P y h m = some (oI (sFst (sFits (za m (yv P y)) (za m (zR P 206 y)) tn h) R 0), m) :=
  r_ruleOf_l ok hR htn htn40 R 0 zfuel (by omega) (by have := hR.2.1; unfold zfuel; omega)
end RG

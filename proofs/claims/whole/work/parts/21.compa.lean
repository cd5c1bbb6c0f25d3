theorem zin_12 {a : Nat} (h : a < 12) : zin (nI a) 12 = true := zin_n (by omega) h
theorem zin_4 {a : Nat} (h : a < 4) : zin (nI a) 4 = true := zin_n (by omega) h
theorem zin_3 {a : Nat} (h : a < 3) : zin (nI a) 3 = true := zin_n (by omega) h
theorem zin_10 {a : Nat} (h : a < 10) : zin (nI a) 10 = true := zin_n (by omega) h
theorem zin_8 {a : Nat} (h : a < 8) : zin (nI a) 8 = true := zin_n (by omega) h
def anyB (p : Nat → Bool) : Nat → Bool
  | 0 => false
  | k + 1 => anyB p k || p k
theorem anyB_s {p : Nat → Bool} {k : Nat} : anyB p (k + 1) = (anyB p k || p k) := rfl
theorem anyB_iff {p : Nat → Bool} {k : Nat} : anyB p k = true ↔ ∃ i, i < k ∧ p i = true := by
  induction k with
  | zero => simp [anyB]
  | succ k ih =>
    rw [anyB_s, Bool.or_eq_true, ih]
    constructor
    · rintro (⟨i, h1, h2⟩ | h)
      · exact ⟨i, by omega, h2⟩
      · exact ⟨k, by omega, h⟩
    · rintro ⟨i, h1, h2⟩
      by_cases e : i = k
      · subst e
        exact Or.inr h2
      · exact Or.inl ⟨i, by omega, h2⟩
/-- the standing of a mesh in the midst of a request -/
def Ms (own : Nat → Nat) (P : zSt) (m0 m : zM) (u : Nat) (g : zGr) (N R : Nat) (c : Int32) (V : Nat → Int32) (T : Nat) : Prop := GM P m u g ∧ Pic P m u g N R c V ∧ PicX P m u g T V ∧ Fr own u m0 m
/-- the mesh's fixed facts -/
def Mf (own : Nat → Nat) (P : zSt) (u : Nat) (g : zGr) (N : Nat) : Prop := GL P u g ∧ GD own P u g ∧ N ≤ 12
theorem Flg.ne {m : zM} {g : zGr} {f f' N a : Nat} {p : Nat → Bool} {v : Int32} (h : Flg m g f N p) (e : f ≠ f') : Flg (zfp m f' a v) g f N p := fun i hi => by rw [zf_ne (Or.inl e)]; exact h i hi
theorem Flg.cg {m : zM} {g : zGr} {f N : Nat} {p q : Nat → Bool} (h : Flg m g f N p) (e : ∀ i, i < N → p i = q i) : Flg m g f N q := fun i hi => by rw [h i hi, e i hi]
section MU
variable {own : Nat → Nat} {P : zSt} {m0 m : zM} {u N R T : Nat} {g : zGr} {c : Int32} {V : Nat → Int32}
theorem PicX.up {j : Nat} {x : Int32} (h : PicX P m u g T V) (hj : j < 706) : PicX P m u g T (uV V j x) :=
  h.cg rfl (fun _ _ _ _ => rfl) (uV_n (by omega)) (fun i k _ _ => uV_n (by omega))
theorem PicX.zf (h : PicX P m u g T V) {f a : Nat} {v : Int32} (hf : f ≠ 161) : PicX P (zfp m f a v) u g T V := h.cg (zf_ne (Or.inl (Ne.symm hf))) (fun _ _ _ _ => rfl) rfl (fun _ _ _ _ => rfl)
theorem Ms.updB (h : Ms own P m0 m u g N R c V T) (hL : RuL V R) (hf : Mf own P u g N) {i k : Nat} {x : Int32} (hi : i < N) (hk : k < 12) : Ms own P m0 (zfp m (bsl k) (gB g i) x) u g N R c (uV V (12 * i + k) x) T :=
  ⟨h.1, h.2.1.updB hL hf.2.1 hf.2.2 hi hk, (h.2.2.1.zf (by have := bsl_lt k; omega)).up (by have := hf.2.2; omega), h.2.2.2.trans (Fr.zfp (hf.2.1.2.2.2.2.2.2.2.2.2.2.2.1 i (by have := hf.2.2; omega)) (by have := bsl_lt k; omega))⟩
theorem Ms.updF (h : Ms own P m0 m u g N R c V T) (hL : RuL V R) (hf : Mf own P u g N) {f i : Nat} {x : Int32} (hi : i < N) (hff : f = 2 ∨ f = 13) : Ms own P m0 (zfp m f (gB g i) x) u g N R c V T :=
  ⟨h.1, h.2.1.updF hL (by omega), h.2.2.1.zf (by omega), h.2.2.2.trans (Fr.zfp (hf.2.1.2.2.2.2.2.2.2.2.2.2.2.1 i (by have := hf.2.2; omega)) (by omega))⟩
theorem Ms.updS (h : Ms own P m0 m u g N R c V T) (hL : RuL V R) (hf : Mf own P u g N) {s j : Nat} {x : Int32} (hs : s < 4) (hj2 : 2 ≤ j) (hj : j < 8) : Ms own P m0 (zfp m (100 + j) (gS g s) x) u g N R c (uV V (145 + 21 * s + j) x) T :=
  ⟨h.1, h.2.1.updS hL hf.2.1 hf.2.2 hs hj2 hj, (h.2.2.1.zf (by omega)).up (by omega), h.2.2.2.trans (Fr.zfp ((hf.2.1.2.2.2.2.2.2.2.2.2.2.2.2.1 s hs).1) (by omega))⟩
theorem Ms.updX (h : Ms own P m0 m u g N R c V T) (hL : RuL V R) (hf : Mf own P u g N) {s z : Nat} {x : Int32} (hs : s < 4) (hz : z < 3) : Ms own P m0 (zap m (gX P g s) z x) u g N R c (uV V (145 + 21 * s + 8 + z) x) T :=
  ⟨h.1, h.2.1.updX hL hf.2.1 hf.2.2 hs hz, (show PicX P (zap m (gX P g s) z x) u g T V from h.2.2.1.cg rfl (fun i k hi hk => za_ne (Or.inl ((hf.2.1.2.2.2.2.2.2.2.1 i s (by have := h.2.2.1.2.1; omega) hs).1))) rfl (fun _ _ _ _ => rfl)).up (by omega), h.2.2.2.trans (Fr.zap ((hf.2.1.2.2.2.2.2.2.2.2.2.2.2.2.1 s hs).2.1))⟩
theorem Ms.updK (h : Ms own P m0 m u g N R c V T) (hL : RuL V R) (hf : Mf own P u g N) {s z : Nat} {x : Int32} (hs : s < 4) (hz : z < 10) : Ms own P m0 (zap m (gK P g s) z x) u g N R c (uV V (145 + 21 * s + 11 + z) x) T :=
  ⟨h.1, h.2.1.updK hL hf.2.1 hf.2.2 hs hz, (show PicX P (zap m (gK P g s) z x) u g T V from h.2.2.1.cg rfl (fun i k hi hk => za_ne (Or.inl ((hf.2.1.2.2.2.2.2.2.2.1 i s (by have := h.2.2.1.2.1; omega) hs).2))) rfl (fun _ _ _ _ => rfl)).up (by omega), h.2.2.2.trans (Fr.zap ((hf.2.1.2.2.2.2.2.2.2.2.2.2.2.2.1 s hs).2.2.1))⟩
theorem Ms.updC (h : Ms own P m0 m u g N R c V T) (hL : RuL V R) (hf : Mf own P u g N) {j : Nat} {x : Int32} (hj1 : 28 ≤ j) (hj2 : j ≤ 34) : Ms own P m0 (zfp m j u x) u g N R c (uV V (670 + j) x) T :=
  ⟨h.1, h.2.1.updC hL hf.2.2 hj1 hj2, (h.2.2.1.zf (by omega)).up (by omega), h.2.2.2.trans (Fr.zfp hf.2.1.2.2.2.2.2.2.2.2.2.1 (by omega))⟩
theorem RuL.up (h : RuL V R) {j : Nat} {x : Int32} (hj : ∀ r, r < R → j ≠ 231 + 58 * r ∧ j ≠ 231 + 58 * r + 43) : RuL (uV V j x) R := ⟨h.1, fun r hr => by rw [uV_n (Ne.symm (hj r hr).1), uV_n (Ne.symm (hj r hr).2)]; exact h.2 r hr⟩
theorem RuL.to {V' : Nat → Int32} (h : RuL V R) (hj : ∀ r, r < R → V' (231 + 58 * r) = V (231 + 58 * r) ∧ V' (231 + 58 * r + 43) = V (231 + 58 * r + 43)) : RuL V' R := ⟨h.1, fun r hr => by rw [(hj r hr).1, (hj r hr).2]; exact h.2 r hr⟩
end MU
section CA
variable {own : Nat → Nat} {P : zSt} {m0 m : zM} {u N R T : Nat} {g : zGr} {c : Int32} {V : Nat → Int32}
theorem c_isMem {b : Nat} {s : Int32} : f_X0_isMemberOf P b s m = some (bI (decide (zf m 3 b = s ∧ 0 < zf m 0 b)), m) := by
  unfold f_X0_isMemberOf f_X0_isMemberOf_b19 bI
  by_cases h1 : zf m 3 b = s
  · by_cases h2 : zf m 0 b ≤ 0
    · have h3 : ¬ 0 < zf m 0 b := Int32.not_lt.mpr h2
      simp [h1, h2, h3, zgd, zbo]
    · have h3 : 0 < zf m 0 b := Int32.not_le.mp h2
      simp [h1, h2, h3, zgd, zbo]
  · simp [h1, zgd, zbo]
theorem c_isAv {b : Nat} {s : Int32} : f_X0_isAvailableIn P b s m = some (bI (decide (zf m 3 b = s ∧ 0 < zf m 0 b) && decide (zf m 10 b = 0)), m) := by
  unfold f_X0_isAvailableIn f_X0_isAvailableIn_b26 bI
  by_cases h1 : zf m 3 b = s
  · by_cases h2 : zf m 0 b ≤ 0
    · have h3 : ¬ 0 < zf m 0 b := Int32.not_lt.mpr h2
      simp [h1, h2, h3, zgd, zbo]
    · have h3 : 0 < zf m 0 b := Int32.not_le.mp h2
      by_cases h4 : zf m 10 b = 0 <;> simp [h1, h2, h3, h4, zgd, zbo]
  · simp [h1, zgd, zbo]
theorem c_mem (hp : PicB m g N V) {i : Nat} {s : Int32} (hi : i < N) : f_X0_isMemberOf P (gB g i) s m = some (bI (sMem V i s), m) := by
  have e0 : zf m 3 (gB g i) = V (12 * i) := hp i 0 hi (by omega)
  have e2 : zf m 0 (gB g i) = V (12 * i + 2) := hp i 2 hi (by omega)
  rw [c_isMem, e0, e2]
  rfl
theorem c_av (hp : PicB m g N V) {i : Nat} {s : Int32} (hi : i < N) : f_X0_isAvailableIn P (gB g i) s m = some (bI (sAv V i s), m) := by
  have e0 : zf m 3 (gB g i) = V (12 * i) := hp i 0 hi (by omega)
  have e2 : zf m 0 (gB g i) = V (12 * i + 2) := hp i 2 hi (by omega)
  have e9 : zf m 10 (gB g i) = V (12 * i + 9) := hp i 9 hi (by omega)
  rw [c_isAv, e0, e2, e9]
  rfl
theorem c_hasAv_l (hG : GM P m u g) (hf : Mf own P u g N) (hp : PicB m g N V) (hN : zf m 21 u = nI N) {s : Int32} : ∀ d k fu, k + d = N → d < fu → (∀ i, i < k → sAv V i s = false) → f_X1_hasAvailable_b2 P fu u s (nI k) m = some (bI (decide (mAv V s N ≠ 0)), m) := by
  have h12 := hf.2.2
  intro d
  induction d with
  | zero =>
    intro k fu hk hfu hn
    obtain ⟨fu, rfl⟩ : ∃ f, fu = f + 1 := ⟨fu - 1, by omega⟩
    have : k = N := by omega
    subst this
    unfold f_X1_hasAvailable_b2
    rw [hN, if_pos (Int32.le_refl _)]
    have e : mAv V s k = 0 := by
      apply Nat.eq_of_testBit_eq
      intro i
      rw [mAv_bit, Nat.zero_testBit]
      by_cases h : i < k
      · rw [hn i h]
        simp
      · simp [h]
    rw [e]
    rfl
  | succ d ih =>
    intro k fu hk hfu hn
    obtain ⟨fu, rfl⟩ : ∃ f, fu = f + 1 := ⟨fu - 1, by omega⟩
    have hkN : k < N := by omega
    unfold f_X1_hasAvailable_b2
    rw [hN, if_neg (by rw [n_le (by omega) (by omega)]; omega), zl_s, hf.1.1, zin_12 (by omega), zgd_t, n_nat (by omega), hG.1 k (by omega), zl_s, c_av hp hkN, zb_s]
    dsimp only
    cases hc : sAv V k s with
    | false =>
      rw [if_pos bI_f, zl_s, nI_1]
      refine ih (k + 1) fu (by omega) (by omega) (fun i hi => ?_)
      by_cases e : i = k
      · rw [e]
        exact hc
      · exact hn i (by omega)
    | true =>
      rw [if_neg (by decide)]
      have e : mAv V s N ≠ 0 := by
        intro h0
        have := mAv_bit (V := V) (s := s) (n := N) (i := k)
        rw [h0, Nat.zero_testBit, hc] at this
        simp [hkN] at this
      rw [decide_eq_true e]
      rfl
theorem c_hasAv (hG : GM P m u g) (hf : Mf own P u g N) (hp : PicB m g N V) (hN : zf m 21 u = nI N) {s : Int32} : f_X1_hasAvailable P u s m = some (bI (decide (mAv V s N ≠ 0)), m) :=
  c_hasAv_l hG hf hp hN N 0 zfuel (by omega) (by have := hf.2.2; unfold zfuel; omega) (by intro i hi; omega)
/-- candidates gathered: those available and not attempted -/
theorem c_gather_l (hf : Mf own P u g N) (hL : RuL V R) {s : Int32} {dn : Nat} : ∀ d k fu (m : zM), k + d = N → d < fu → Ms own P m0 m u g N R c V T → Flg m g 13 N dn.testBit → (∀ i, i < k → zf m 2 (gB g i) = bI (sAv V i s && !dn.testBit i)) →
    ∃ m', f_X1_gatherCandidates_b4 P fu u s (bI (anyB (fun i => sAv V i s && !dn.testBit i) k)) (nI k) m = some (bI (anyB (fun i => sAv V i s && !dn.testBit i) N), m') ∧ Ms own P m0 m' u g N R c V T ∧ Flg m' g 13 N dn.testBit ∧ Flg m' g 2 N (fun i => sAv V i s && !dn.testBit i) := by
  have h12 := hf.2.2
  intro d
  induction d with
  | zero =>
    intro k fu m hk hfu hM h13 hn
    obtain ⟨fu, rfl⟩ : ∃ f, fu = f + 1 := ⟨fu - 1, by omega⟩
    have : k = N := by omega
    subst this
    unfold f_X1_gatherCandidates_b4
    rw [hM.2.1.1.1, if_pos (Int32.le_refl _), zbo_bI]
    exact ⟨m, rfl, hM, h13, hn⟩
  | succ d ih =>
    intro k fu m hk hfu hM h13 hn
    obtain ⟨fu, rfl⟩ : ∃ f, fu = f + 1 := ⟨fu - 1, by omega⟩
    have hkN : k < N := by omega
    have hp := hM.2.1.2.1
    have step : ∀ x : Bool, x = (sAv V k s && !dn.testBit k) →
      ∃ m', f_X1_gatherCandidates_b44 P (f_X1_gatherCandidates_b4 P fu) u s (bI (anyB (fun i => sAv V i s && !dn.testBit i) k)) (nI k) (gB g k) (bI x) (gB g k) m = some (bI (anyB (fun i => sAv V i s && !dn.testBit i) N), m') ∧ Ms own P m0 m' u g N R c V T ∧ Flg m' g 13 N dn.testBit ∧ Flg m' g 2 N (fun i => sAv V i s && !dn.testBit i) := by
      intro x hx
      have hq := ih (k + 1) fu (zfp m 2 (gB g k) (bI x)) (by omega) (by omega) (hM.updF hL hf hkN (Or.inl rfl)) (h13.ne (by decide)) (fun i hi => by
        by_cases e : i = k
        · subst e
          rw [zf_eq, hx]
        · rw [zf_ne (Or.inr (fun q => e (hf.2.1.1 i k (by omega) (by omega) q)))]
          exact hn i (by omega))
      unfold f_X1_gatherCandidates_b44 f_X1_gatherCandidates_b59 f_X1_gatherCandidates_b64
      rw [zbo_bI, zgd_t, zl_s, zf_eq, nI_1, zl_s, zl_s]
      rw [anyB_s] at hq
      cases h1 : anyB (fun i => sAv V i s && !dn.testBit i) k with
      | true =>
        rw [h1] at hq
        rw [if_neg (by decide)]
        exact hq
      | false =>
        rw [h1] at hq
        rw [if_pos bI_f]
        cases hx2 : x with
        | false =>
          rw [hx2] at hq hx
          rw [← hx] at hq
          rw [if_pos bI_f]
          exact hq
        | true =>
          rw [hx2] at hq hx
          rw [← hx] at hq
          rw [if_neg (by decide)]
          exact hq
    unfold f_X1_gatherCandidates_b4 f_X1_gatherCandidates_b43
    rw [hM.2.1.1.1, if_neg (by rw [n_le (by omega) (by omega)]; omega), zl_s, hf.1.1, zin_12 (by omega), zgd_t, n_nat (by omega), hM.1.1 k (by omega), zl_s, h13 k hkN]
    cases hd : dn.testBit k with
    | false =>
      rw [if_pos bI_f, c_av hp hkN, zb_s]
      dsimp only
      cases hs : sAv V k s with
      | false =>
        rw [if_pos bI_f]
        exact step false (by rw [hs]; rfl)
      | true =>
        rw [if_neg (by decide)]
        exact step true (by rw [hs, hd]; rfl)
    | true =>
      rw [if_neg (by decide)]
      exact step false (by rw [hd]; simp)
theorem c_gather (hf : Mf own P u g N) (hL : RuL V R) {s : Int32} {dn : Nat} (hM : Ms own P m0 m u g N R c V T) (h13 : Flg m g 13 N dn.testBit) :
    ∃ m', f_X1_gatherCandidates P u s m = some (bI (decide (mWo (mAv V s N) dn ≠ 0)), m') ∧ Ms own P m0 m' u g N R c V T ∧ Flg m' g 13 N dn.testBit ∧ Flg m' g 2 N (mWo (mAv V s N) dn).testBit := by
  have h12 := hf.2.2
  obtain ⟨m', h1, h2, h3, h4⟩ := c_gather_l hf hL (s := s) (dn := dn) N 0 zfuel m (by omega) (by unfold zfuel; omega) hM h13 (by intro i hi; omega)
  have hb : ∀ i, (mWo (mAv V s N) dn).testBit i = (decide (i < N) && (sAv V i s && !dn.testBit i)) := by
    intro i
    rw [mWo_bit (lt31 mAv_lt h12), mAv_bit, Bool.and_assoc]
  refine ⟨m', ?_, h2, h3, h4.cg (fun i hi => by rw [hb]; simp [hi])⟩
  unfold f_X1_gatherCandidates
  have h1' : f_X1_gatherCandidates_b4 P zfuel u s 0 0 m = some (bI (anyB (fun i => sAv V i s && !dn.testBit i) N), m') := h1
  rw [h1']
  have e9 : anyB (fun i => sAv V i s && !dn.testBit i) N = decide (mWo (mAv V s N) dn ≠ 0) := by
    rw [Bool.eq_iff_iff, anyB_iff, decide_eq_true_eq]
    constructor
    · rintro ⟨i, hi, h⟩ h0
      have := hb i
      rw [h0, Nat.zero_testBit, h] at this
      simp [hi] at this
    · intro h
      obtain ⟨i, hi, hbi⟩ := ex_bit (N := N) (mWo_lt mAv_lt) h
      rw [hb] at hbi
      simp only [Bool.and_eq_true, decide_eq_true_eq] at hbi
      exact ⟨i, hi, by rw [Bool.and_eq_true]; exact hbi.2⟩
  rw [e9]
end CA

theorem zin_v {a : Nat} (h : a < 723) : zin (nI a) 723 = true := zin_n (by omega) h
theorem nat_v {a : Nat} (h : a < 723) : (nI a).toNatClampNeg = a := n_nat (by omega)
theorem bIt0 : (bI true = nI 0) = False := eq_false (by decide)
theorem bIf0 : (bI false = nI 0) = True := eq_true rfl
theorem bIt1 : (bI true = nI 1) = True := eq_true rfl
theorem bIf1 : (bI false = nI 1) = False := eq_false (by decide)
theorem oI_n : oI none = -nI 1 := rfl
theorem oI_s {b : Nat} : oI (some b) = nI b := rfl
theorem neg_lt0 : (-nI 1 < nI 0) = True := eq_true (by decide)
theorem neg_ge0 : (nI 0 ≤ -nI 1) = False := eq_false (by decide)
theorem n_lt0 {b : Nat} (h : b < 723) : (nI b < nI 0) = False := eq_false (nI_pos (by omega))
theorem n_ge0 {b : Nat} (h : b < 723) : (nI 0 ≤ nI b) = True := eq_true (nI_pos' (by omega))
theorem n_le_eq {a b : Nat} (ha : a < 723) (hb : b < 723) : (nI a ≤ nI b) = (a ≤ b) := propext (n_le (by omega) (by omega))
/-! ===== the shadow's backend ===== -/
def sMi (V : Nat → Int32) (s : Int32) : Nat → Option Nat
  | 0 => none
  | k + 1 =>
    if sMem V k s = true then
      match sMi V s k with
      | none => some k
      | some b => if V (12 * k + 10) < V (12 * b + 10) then some k else some b
    else sMi V s k
theorem sMi_s {V : Nat → Int32} {s : Int32} {k : Nat} : sMi V s (k + 1) = (if sMem V k s = true then
      (match sMi V s k with
      | none => some k
      | some b => if V (12 * k + 10) < V (12 * b + 10) then some k else some b)
    else sMi V s k) := rfl
theorem sMi_lt {V : Nat → Int32} {s : Int32} {n b : Nat} (h : sMi V s n = some b) : b < n ∧ sMem V b s = true := by
  induction n generalizing b with
  | zero => cases h
  | succ k ih =>
    rw [sMi_s] at h
    by_cases hc : sMem V k s = true
    · rw [if_pos hc] at h
      cases hq : sMi V s k with
      | none =>
        rw [hq] at h
        cases h
        exact ⟨by omega, hc⟩
      | some b' =>
        rw [hq] at h
        dsimp only at h
        split at h
        · cases h
          exact ⟨by omega, hc⟩
        · cases h
          have := ih hq
          exact ⟨by omega, this.2⟩
    · rw [if_neg hc] at h
      have := ih h
      exact ⟨by omega, this.2⟩
/-- attempt number a by pattern p, as the reference says it -/
def sBit (p a : Int32) : Int32 := (p >>> ((a - a / 8 * 8) &&& 31)) &&& 1
def sMirror (V : Nat → Int32) (N : Nat) (s : Int32) : Nat → Int32 :=
  match sMi V s N with
  | none => V
  | some b =>
    let V1 := uV V (12 * b + 11) (V (12 * b + 11) + sBit (V (12 * b + 3)) (V (12 * b + 10)))
    let V2 := uV V1 (12 * b + 10) (V1 (12 * b + 10) + 1)
    uV V2 703 (V2 703 + 1)
section RB
variable {P : zSt} {y : Nat} {m : zM}
theorem n80 : (nI 8 = nI 0) = False := eq_false (by decide)
theorem r_mirrors_l (ok : yOK P y) {s : Int32} {N : Nat} (hN : za m (yv P y) 144 = nI N) (h12 : N ≤ 12) : ∀ d k fu, k + d = N → d < fu → f_X11_mirrors_b4 P fu y s (oI (sMi (za m (yv P y)) s k)) (nI k) m = some (0, wA m (yv P y) (sMirror (za m (yv P y)) N s)) := by
  intro d
  induction d with
  | zero =>
    intro k fu hk hf
    obtain ⟨fu, rfl⟩ : ∃ f, fu = f + 1 := ⟨fu - 1, by omega⟩
    have : k = N := by omega
    subst this
    unfold f_X11_mirrors_b4 sMirror
    cases hq : sMi (za m (yv P y)) s k with
    | none =>
      simp only [nlit, n_mul, n_add, zl_s, zb_s, zgd_t, zin_v, nat_v, za_wA, wA_wA, zf_wA, zap_eq, ok.1, hN, n_le_eq, h12, oI_n, neg_ge0, Nat.le_refl, show k < 723 by omega, bIt0, bIf0, bIt1, bIf1, if_true, if_false, reduceIte, wA_self, Nat.reduceLT]
    | some b =>
      have hb := (sMi_lt hq).1
      have hb12 : b < 12 := by omega
      simp only [nlit, n_mul, n_add, zl_s, zb_s, zgd_t, zin_v, nat_v, za_wA, wA_wA, zf_wA, zap_eq, ok.1, hN, n_le_eq, n_ge0, oI_s, Nat.le_refl, show k < 723 by omega, show b < 723 by omega, bIt0, bIf0, bIt1, bIf1, if_true, if_false, reduceIte, r_of ok hb12, r_sets ok hb12, Nat.reduceLT, zdv, n80]
      rfl
  | succ d ih =>
    intro k fu hk hf
    obtain ⟨fu, rfl⟩ : ∃ f, fu = f + 1 := ⟨fu - 1, by omega⟩
    have hkN : k < 12 := by omega
    have hg := ih (k + 1) fu (by omega) (by omega)
    rw [sMi_s] at hg
    unfold f_X11_mirrors_b4 f_X11_mirrors_b46 f_X11_mirrors_b48
    simp only [nlit, n_mul, n_add, zl_s, zb_s, zgd_t, zin_v, nat_v, za_wA, wA_wA, zf_wA, zap_eq, ok.1, hN, n_le_eq, show k < 723 by omega, show N < 723 by omega, show ¬ N ≤ k by omega, bIt0, bIf0, bIt1, bIf1, if_true, if_false, reduceIte, Nat.reduceLT, r_isMember ok hkN]
    cases hc : sMem (za m (yv P y)) k s with
    | false =>
      rw [hc] at hg
      simp only [bIt0, bIf0, bIt1, bIf1, if_true, if_false, reduceIte] at hg ⊢
      exact hg
    | true =>
      rw [hc] at hg
      simp only [bIt0, bIf0, bIt1, bIf1, if_true, if_false, reduceIte] at hg ⊢
      cases hq : sMi (za m (yv P y)) s k with
      | none =>
        rw [hq] at hg
        simp only [oI_n, neg_lt0, bIt0, bIf0, bIt1, bIf1, if_true, if_false, reduceIte]
        exact hg
      | some b =>
        have hb := (sMi_lt hq).1
        have hb12 : b < 12 := by omega
        rw [hq] at hg
        simp only [oI_s, n_lt0, show b < 723 by omega, bIt0, bIf0, bIt1, bIf1, if_true, if_false, reduceIte, r_of ok hb12, r_of ok hkN, zb_s, Nat.reduceLT]
        dsimp only at hg
        by_cases h2 : za m (yv P y) (12 * k + 10) < za m (yv P y) (12 * b + 10)
        · rw [if_pos h2] at hg
          rw [if_neg (Int32.not_le.mpr h2)]
          exact hg
        · rw [if_neg h2] at hg
          rw [if_pos (Int32.not_lt.mp h2)]
          exact hg
theorem r_mirrors (ok : yOK P y) {s : Int32} {N : Nat} (hN : za m (yv P y) 144 = nI N) (h12 : N ≤ 12) : f_X11_mirrors P y s m = some (0, wA m (yv P y) (sMirror (za m (yv P y)) N s)) := r_mirrors_l ok hN h12 N 0 zfuel (by omega) (by unfold zfuel; omega)
end RB

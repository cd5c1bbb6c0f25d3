/-! ===== masks ===== -/
theorem and31 {i : Nat} (h : i < 32) : nI i &&& 31 = nI i := by
  have h0 : ∀ j : Fin 32, nI j &&& 31 = nI j := by decide +kernel
  exact h0 ⟨i, h⟩
theorem smod31 {i : Nat} (h : i < 32) : ((nI i).toBitVec.smod 32).toNat = i := by
  have h0 : ∀ j : Fin 32, ((nI j).toBitVec.smod 32).toNat = j := by decide +kernel
  exact h0 ⟨i, h⟩
theorem n_bit {a i : Nat} (ha : a < 2 ^ 31) (hi : i < 31) : (nI a >>> (nI i &&& 31)) &&& 1 = bI (a.testBit i) := by
  rw [and31 (by omega), pk_shrN ha _ i (smod31 (by omega)), pk_andN (Nat.lt_of_le_of_lt (Nat.div_le_self a (2 ^ i)) (by omega)) 1 rfl, ← Nat.shiftRight_eq_div_pow]
  have h1 : a.testBit i = decide ((a >>> i) % 2 = 1) := Nat.testBit_eq_decide_div_mod_eq ▸ by rw [Nat.shiftRight_eq_div_pow]
  rw [h1]
  have h2 := Nat.mod_two_eq_zero_or_one (a >>> i)
  rcases h2 with h2 | h2 <;> simp [h2, bI] <;> rfl
theorem n_shl {i : Nat} (hi : i < 31) : (1 : Int32) <<< (nI i &&& 31) = nI (2 ^ i) := by
  have h0 : ∀ j : Fin 31, (1 : Int32) <<< (nI j &&& 31) = nI (2 ^ (j : Nat)) := by decide +kernel
  exact h0 ⟨i, hi⟩
theorem n_tn {n : Nat} (h : n < 2 ^ 32) : (nI n).toBitVec = BitVec.ofNat 32 n := by
  apply BitVec.eq_of_toNat_eq
  rw [pk_tn h, BitVec.toNat_ofNat, Nat.mod_eq_of_lt h]
theorem n_or {a b : Nat} (ha : a < 2 ^ 31) (hb : b < 2 ^ 31) : nI a ||| nI b = nI (a ||| b) := by
  have hab : a ||| b < 2 ^ 31 := Nat.or_lt_two_pow ha hb
  apply Int32.toBitVec_inj.mp
  apply BitVec.eq_of_toNat_eq
  rw [Int32.toBitVec_or, BitVec.toNat_or, pk_tn (by omega), pk_tn (by omega), pk_tn (by omega)]
theorem n_and {a b : Nat} (ha : a < 2 ^ 31) (hb : b < 2 ^ 31) : nI a &&& nI b = nI (a &&& b) := by
  have hab : a &&& b < 2 ^ 31 := Nat.and_lt_two_pow a hb
  apply Int32.toBitVec_inj.mp
  apply BitVec.eq_of_toNat_eq
  rw [Int32.toBitVec_and, BitVec.toNat_and, pk_tn (by omega), pk_tn (by omega), pk_tn (by omega)]
/-- a without b -/
def mWo (a b : Nat) : Nat := a &&& (b ^^^ (2 ^ 31 - 1))
theorem mWo_bit {a b i : Nat} (ha : a < 2 ^ 31) : (mWo a b).testBit i = (a.testBit i && !b.testBit i) := by
  unfold mWo
  rw [Nat.testBit_and, Nat.testBit_xor, Nat.testBit_two_pow_sub_one]
  by_cases hi : i < 31
  · simp [hi]
  · have : a.testBit i = false := Nat.testBit_lt_two_pow (Nat.lt_of_lt_of_le ha (Nat.pow_le_pow_right (by decide) (by omega)))
    simp [this]
theorem n_wo {a b : Nat} (ha : a < 2 ^ 31) (hb : b < 2 ^ 31) : nI a &&& (nI b ^^^ (-1)) = nI (mWo a b) := by
  have hl : mWo a b < 2 ^ 31 := Nat.lt_of_le_of_lt Nat.and_le_left ha
  apply Int32.toBitVec_inj.mp
  apply BitVec.eq_of_getLsbD_eq
  intro i hi
  rw [Int32.toBitVec_and, Int32.toBitVec_xor, BitVec.getLsbD_and, BitVec.getLsbD_xor, n_tn (by omega), n_tn (by omega), n_tn (by omega)]
  have e1 : (Int32.toBitVec (-1)) = BitVec.allOnes 32 := by decide
  rw [e1]
  simp only [BitVec.getLsbD_ofNat, BitVec.getLsbD_allOnes, hi, decide_true, Bool.true_and, mWo_bit ha, Bool.xor_true]
/-! ===== what the reference does to its row, in words of the row alone ===== -/
def oI : Option Nat → Int32
  | none => -1
  | some k => nI k
def mAv (V : Nat → Int32) (s : Int32) : Nat → Nat
  | 0 => 0
  | k + 1 => mAv V s k ||| (if sAv V k s = true then 2 ^ k else 0)
def sCw (ci wi : Nat → Nat) (cand : Nat → Bool) (V : Nat → Int32) : Nat → Option Nat × Int32 × (Nat → Int32)
  | 0 => (none, 0, V)
  | k + 1 =>
    let q := sCw ci wi cand V k
    if cand k = true then
      let V1 := uV q.2.2 (ci k) (q.2.2 (ci k) + q.2.2 (wi k))
      ((match q.1 with
        | none => some k
        | some b => if V1 (ci b) < V1 (ci k) then some k else some b), q.2.1 + V1 (wi k), V1)
    else q
def sCwE (ci wi : Nat → Nat) (cand : Nat → Bool) (V : Nat → Int32) (n : Nat) : Option Nat × (Nat → Int32) :=
  let q := sCw ci wi cand V n
  match q.1 with
  | none => (none, q.2.2)
  | some b => (some b, uV q.2.2 (ci b) (q.2.2 (ci b) - q.2.1))
def bCi (i : Nat) : Nat := 12 * i + 4
def bWi (i : Nat) : Nat := 12 * i + 2
def sLu (cand : Nat → Bool) (V : Nat → Int32) : Nat → Option Nat
  | 0 => none
  | k + 1 =>
    let q := sLu cand V k
    if cand k = true then
      match q with
      | none => some k
      | some b => if V (12 * k + 5) * V (12 * b + 2) < V (12 * b + 5) * V (12 * k + 2) then some k else some b
    else q
def sSw (p : Nat → Bool) (V : Nat → Int32) : Nat → Int32
  | 0 => 0
  | k + 1 => sSw p V k + (if p k = true then V (12 * k + 2) else 0)
theorem mAv_s {V : Nat → Int32} {s : Int32} {k : Nat} : mAv V s (k + 1) = mAv V s k ||| (if sAv V k s = true then 2 ^ k else 0) := rfl
theorem sSw_s {p : Nat → Bool} {V : Nat → Int32} {k : Nat} : sSw p V (k + 1) = sSw p V k + (if p k = true then V (12 * k + 2) else 0) := rfl
theorem sLu_s {cand : Nat → Bool} {V : Nat → Int32} {k : Nat} : sLu cand V (k + 1) = (if cand k = true then (match sLu cand V k with
      | none => some k
      | some b => if V (12 * k + 5) * V (12 * b + 2) < V (12 * b + 5) * V (12 * k + 2) then some k else some b) else sLu cand V k) := rfl
theorem sCw_s {ci wi : Nat → Nat} {cand : Nat → Bool} {V : Nat → Int32} {k : Nat} : sCw ci wi cand V (k + 1) = (if cand k = true then ((match (sCw ci wi cand V k).1 with
        | none => some k
        | some b => if uV (sCw ci wi cand V k).2.2 (ci k) ((sCw ci wi cand V k).2.2 (ci k) + (sCw ci wi cand V k).2.2 (wi k)) (ci b) < uV (sCw ci wi cand V k).2.2 (ci k) ((sCw ci wi cand V k).2.2 (ci k) + (sCw ci wi cand V k).2.2 (wi k)) (ci k) then some k else some b),
        (sCw ci wi cand V k).2.1 + uV (sCw ci wi cand V k).2.2 (ci k) ((sCw ci wi cand V k).2.2 (ci k) + (sCw ci wi cand V k).2.2 (wi k)) (wi k), uV (sCw ci wi cand V k).2.2 (ci k) ((sCw ci wi cand V k).2.2 (ci k) + (sCw ci wi cand V k).2.2 (wi k))) else sCw ci wi cand V k) := rfl
theorem mAv_lt {V : Nat → Int32} {s : Int32} {n : Nat} : mAv V s n < 2 ^ n := by
  induction n with
  | zero => exact Nat.one_pos
  | succ k ih =>
    unfold mAv
    refine Nat.or_lt_two_pow (Nat.lt_of_lt_of_le ih (Nat.pow_le_pow_right (by decide) (by omega))) ?_
    split
    · exact Nat.pow_lt_pow_right (by decide) (by omega)
    · exact Nat.two_pow_pos _
theorem mAv_bit {V : Nat → Int32} {s : Int32} {n i : Nat} : (mAv V s n).testBit i = (decide (i < n) && sAv V i s) := by
  induction n with
  | zero => simp [mAv]
  | succ k ih =>
    unfold mAv
    rw [Nat.testBit_or, ih]
    by_cases h : sAv V k s = true
    · rw [if_pos h, Nat.testBit_two_pow]
      by_cases h2 : k = i
      · subst h2
        simp [h]
      · have e : (decide (i < k + 1)) = decide (i < k) := by
          apply decide_eq_decide.mpr
          omega
        simp [h2, e]
    · rw [if_neg h]
      by_cases h2 : k = i
      · subst h2
        simp [h]
      · have e : (decide (i < k + 1)) = decide (i < k) := by
          apply decide_eq_decide.mpr
          omega
        simp [e]

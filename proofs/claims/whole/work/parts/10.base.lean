/-! ===== numbers ===== -/
theorem nlit (n : Nat) : (no_index (OfNat.ofNat n) : Int32) = nI (OfNat.ofNat n) := rfl
theorem n_add (a b : Nat) : nI a + nI b = nI (a + b) := (Int32.ofNat_add a b).symm
theorem n_mul (a b : Nat) : nI a * nI b = nI (a * b) := (Int32.ofNat_mul a b).symm
theorem n_sub (a b : Nat) (h : b ≤ a) : nI a - nI b = nI (a - b) := (Int32.ofNat_sub a b h).symm
theorem n_lt {a b : Nat} (ha : a < 2 ^ 31) (hb : b < 2 ^ 31) : nI a < nI b ↔ a < b := Int32.ofNat_lt_iff_lt ha hb
theorem n_le {a b : Nat} (ha : a < 2 ^ 31) (hb : b < 2 ^ 31) : nI a ≤ nI b ↔ a ≤ b := Int32.ofNat_le_iff_le ha hb
theorem n_inj {a b : Nat} (ha : a < 2 ^ 31) (hb : b < 2 ^ 31) : nI a = nI b ↔ a = b := by
  constructor
  · intro h
    have h1 := congrArg Int32.toNatClampNeg h
    unfold nI at h1
    rw [Int32.toNatClampNeg_ofNat_of_lt ha, Int32.toNatClampNeg_ofNat_of_lt hb] at h1
    exact h1
  · intro h
    rw [h]
theorem n_nat {a : Nat} (ha : a < 2 ^ 31) : (nI a).toNatClampNeg = a := Int32.toNatClampNeg_ofNat_of_lt ha
theorem n_int {a : Nat} (ha : a < 2 ^ 31) : (nI a).toInt = (a : Int) := Int32.toInt_ofNat_of_lt ha
theorem zin_n {a n : Nat} (ha : a < 2 ^ 31) (h : a < n) : zin (nI a) n = true := by
  unfold zin
  rw [decide_eq_true_eq, n_nat ha]
  intro q
  rcases q with q | q
  · rw [show (0 : Int32) = nI 0 from rfl, n_lt ha (by decide)] at q
    omega
  · omega
def bI (b : Bool) : Int32 := if b = true then 1 else 0
theorem bI_t : bI true = 1 := rfl
theorem bI_f : bI false = 0 := rfl
theorem bI_z {b : Bool} : bI b = 0 ↔ b = false := by cases b <;> decide
theorem bI_o {b : Bool} : bI b = 1 ↔ b = true := by cases b <;> decide
theorem zbo_bI (b : Bool) : zbo (bI b) = true := by cases b <;> rfl
theorem zbo_0 : zbo 0 = true := rfl
theorem zbo_1 : zbo 1 = true := rfl
theorem zgd_t {F : Option (Int32 × zM)} : zgd true F = F := rfl
theorem zb_s {q : Int32 × zM} {k : Int32 → zM → Option (Int32 × zM)} : zb (some q) k = k q.1 q.2 := rfl
theorem zl_s {α β : Type} {x : α} {k : α → β} : zl x k = k x := rfl
theorem il_lt {a b : Int32} : ¬ a < b ↔ b ≤ a := Int32.not_lt
theorem il_le {a b : Int32} : ¬ a ≤ b ↔ b < a := Int32.not_le
/-! ===== one row of ints, rewritten whole ===== -/
def uV (V : Nat → Int32) (k : Nat) (x : Int32) : Nat → Int32 := fun j => if j = k then x else V j
theorem uV_s {V : Nat → Int32} {k : Nat} {x : Int32} : uV V k x k = x := if_pos rfl
theorem uV_n {V : Nat → Int32} {k j : Nat} {x : Int32} (h : j ≠ k) : uV V k x j = V j := if_neg h
def wA (m : zM) (a : Nat) (V : Nat → Int32) : zM := (m.1, (fun b j => if b = a then V j else m.2.1 b j), m.2.2)
theorem za_wA {m : zM} {a : Nat} {V : Nat → Int32} : za (wA m a V) a = V := by
  funext j
  simp [za, wA]
theorem za_wA_ne {m : zM} {a b : Nat} {V : Nat → Int32} (h : b ≠ a) : za (wA m a V) b = za m b := by
  funext j
  simp [za, wA, h]
theorem zf_wA {m : zM} {a f b : Nat} {V : Nat → Int32} : zf (wA m a V) f b = zf m f b := rfl
theorem zr_wA {m : zM} {a b i : Nat} {V : Nat → Int32} : zr (wA m a V) b i = zr m b i := rfl
theorem wA_wA {m : zM} {a : Nat} {V V' : Nat → Int32} : wA (wA m a V) a V' = wA m a V' := by
  unfold wA
  congr 2
  funext b j
  by_cases h : b = a <;> simp [h]
theorem wA_self {m : zM} {a : Nat} : wA m a (za m a) = m := by
  unfold wA za
  have : (fun b j => if b = a then m.2.1 a j else m.2.1 b j) = m.2.1 := by
    funext b j
    by_cases h : b = a <;> simp [h]
  rw [this]
theorem zap_wA {m : zM} {a k : Nat} {V : Nat → Int32} {x : Int32} : zap (wA m a V) a k x = wA m a (uV V k x) := by
  unfold zap wA
  congr 2
  funext b j
  unfold zu uV
  by_cases h : b = a <;> by_cases h2 : j = k <;> simp [h, h2]
theorem zap_eq {m : zM} {a k : Nat} {x : Int32} : zap m a k x = wA m a (uV (za m a) k x) := by
  rw [← zap_wA, wA_self]
theorem zfp_wA {m : zM} {a f b : Nat} {V : Nat → Int32} {x : Int32} : zfp (wA m a V) f b x = wA (zfp m f b x) a V := rfl
theorem za_zfp {m : zM} {a f b : Nat} {x : Int32} : za (zfp m f b x) a = za m a := rfl
/-! ===== the reference's own rows ===== -/
abbrev yv (P : zSt) (y : Nat) : Nat := zR P 200 y
def yOK (P : zSt) (y : Nat) : Prop := zlen P (zR P 200 y) = 723 ∧ zlen P (zR P 201 y) = 723 ∧ zlen P (zR P 202 y) = 723 ∧ zlen P (zR P 203 y) = 723 ∧ zlen P (zR P 206 y) = 40 ∧ zlen P (zR P 208 y) = 240 ∧ zlen P (zR P 209 y) = 2400 ∧ zlen P (zR P 211 y) = 80 ∧ zlen P (zR P 215 y) = 58 ∧ zlen P (zR P 217 y) = 40 ∧
  ([zR P 200 y, zR P 201 y, zR P 202 y, zR P 203 y, zR P 206 y, zR P 208 y, zR P 209 y, zR P 211 y, zR P 215 y, zR P 217 y] : List Nat).Nodup
theorem r_isIn {P : zSt} {x l h : Int32} {m : zM} : f_X11_isIn P x l h m = some (bI (decide (l ≤ x ∧ x ≤ h)), m) := by
  unfold f_X11_isIn f_X11_isIn_b14 bI
  by_cases h1 : x < l
  · have h2 : ¬ l ≤ x := Int32.not_le.mpr h1
    simp [h1, h2, zgd, zbo]
  · have h2 : l ≤ x := Int32.not_lt.mp h1
    by_cases h3 : h < x
    · have h4 : ¬ x ≤ h := Int32.not_le.mpr h3
      simp [h1, h2, h3, h4, zgd, zbo]
    · have h4 : x ≤ h := Int32.not_lt.mp h3
      simp [h1, h2, h3, h4, zgd, zbo]
theorem c_isWithin {P : zSt} {x l h : Int32} {m : zM} : f_X10_isWithin P x l h m = some (bI (decide (l ≤ x ∧ x ≤ h)), m) := by
  unfold f_X10_isWithin f_X10_isWithin_b14 bI
  by_cases h1 : x < l
  · have h2 : ¬ l ≤ x := Int32.not_le.mpr h1
    simp [h1, h2, zgd, zbo]
  · have h2 : l ≤ x := Int32.not_lt.mp h1
    by_cases h3 : h < x
    · have h4 : ¬ x ≤ h := Int32.not_le.mpr h3
      simp [h1, h2, h3, h4, zgd, zbo]
    · have h4 : x ≤ h := Int32.not_lt.mp h3
      simp [h1, h2, h3, h4, zgd, zbo]
section RY
variable {P : zSt} {y : Nat} {m : zM}
theorem r_of (ok : yOK P y) {i k : Nat} (hi : i < 12) (hk : k < 12) : f_X11_of P y (nI i) (nI k) m = some (za m (yv P y) (12 * i + k), m) := by
  have e : (((0 : Int32) + ((12 : Int32) * nI i)) + nI k) = nI (12 * i + k) := by
    simp only [nlit, n_mul, n_add]
    congr 1
    simp
  unfold f_X11_of
  rw [zl_s, e, ok.1, zin_n (by omega) (by omega), n_nat (by omega)]
  rfl
theorem r_sets (ok : yOK P y) {i k : Nat} {x : Int32} (hi : i < 12) (hk : k < 12) : f_X11_sets P y (nI i) (nI k) x m = some (0, wA m (yv P y) (uV (za m (yv P y)) (12 * i + k) x)) := by
  have e : (((0 : Int32) + ((12 : Int32) * nI i)) + nI k) = nI (12 * i + k) := by
    simp only [nlit, n_mul, n_add]
    congr 1
    simp
  unfold f_X11_sets
  rw [zl_s, e, ok.1, zin_n (by omega) (by omega), n_nat (by omega), zap_eq]
  rfl
/-- a member of service s -/
def sMem (V : Nat → Int32) (i : Nat) (s : Int32) : Bool := decide (V (12 * i) = s ∧ 0 < V (12 * i + 2))
def sAv (V : Nat → Int32) (i : Nat) (s : Int32) : Bool := sMem V i s && decide (V (12 * i + 9) = 0)
theorem r_isMember (ok : yOK P y) {i : Nat} {s : Int32} (hi : i < 12) : f_X11_isMember P y (nI i) s m = some (bI (sMem (za m (yv P y)) i s), m) := by
  unfold f_X11_isMember f_X11_isMember_b23
  rw [show (0 : Int32) = nI 0 from rfl, show (2 : Int32) = nI 2 from rfl, r_of ok hi (by omega), zb_s]
  dsimp only
  rw [r_of ok hi (by omega), zb_s]
  unfold sMem bI
  by_cases h1 : za m (yv P y) (12 * i + 0) = s
  · by_cases h2 : za m (yv P y) (12 * i + 2) ≤ nI 0
    · have h3 : ¬ 0 < za m (yv P y) (12 * i + 2) := Int32.not_lt.mpr h2
      simp only [h1, h2, h3]
      simp [zgd, zbo, nI]
    · have h3 : 0 < za m (yv P y) (12 * i + 2) := Int32.not_le.mp h2
      have h1' : za m (yv P y) (12 * i) = s := h1
      simp [h1, h1', h2, h3, zgd, zbo]
  · have h1' : ¬ za m (yv P y) (12 * i) = s := h1
    simp [h1, h1', zgd, zbo, nI]
end RY

/-! ===== finer frames ===== -/
def Fp (S A : Nat → Nat → Prop) (m m' : zM) : Prop := m'.2.2 = m.2.2 ∧ (∀ f a, ¬ S f a → zf m' f a = zf m f a) ∧ ∀ a i, ¬ A a i → za m' a i = za m a i
section FP
variable {S A S' A' : Nat → Nat → Prop} {m m1 m2 : zM} {own : Nat → Nat} {u : Nat}
theorem Fp.rfl' : Fp S A m m := ⟨rfl, fun _ _ _ => rfl, fun _ _ _ => rfl⟩
theorem Fp.trans (h1 : Fp S A m m1) (h2 : Fp S A m1 m2) : Fp S A m m2 := ⟨h2.1.trans h1.1, fun f a h => (h2.2.1 f a h).trans (h1.2.1 f a h), fun a i h => (h2.2.2 a i h).trans (h1.2.2 a i h)⟩
theorem Fp.put (h : Fp S A m m1) {f a : Nat} {v : Int32} (hs : S f a) : Fp S A m (zfp m1 f a v) := ⟨h.1, fun f' a' h' => by
  rw [zf_ne, h.2.1 f' a' h']
  by_cases e1 : f' = f
  · by_cases e2 : a' = a
    · exact absurd (by rw [e1, e2]; exact hs) h'
    · exact Or.inr e2
  · exact Or.inl e1, h.2.2⟩
theorem Fp.pua (h : Fp S A m m1) {a i : Nat} {v : Int32} (hs : A a i) : Fp S A m (zap m1 a i v) := ⟨h.1, h.2.1, fun a' i' h' => by
  rw [za_ne, h.2.2 a' i' h']
  by_cases e1 : a' = a
  · by_cases e2 : i' = i
    · exact absurd (by rw [e1, e2]; exact hs) h'
    · exact Or.inr e2
  · exact Or.inl e1⟩
theorem Fp.mono (h : Fp S A m m1) (hs : ∀ f a, S f a → S' f a) (ha : ∀ a i, A a i → A' a i) : Fp S' A' m m1 := ⟨h.1, fun f a q => h.2.1 f a (fun q2 => q (hs f a q2)), fun a i q => h.2.2 a i (fun q2 => q (ha a i q2))⟩
theorem Fp.fo (h : Fp S A m m1) (hs : ∀ f a, S f a → own a = u) (ha : ∀ a i, A a i → own a = u) : Fo own u m m1 := ⟨h.1, fun f a q => h.2.1 f a (fun q2 => q (hs f a q2)), fun a i q => h.2.2 a i (fun q2 => q (ha a i q2))⟩
theorem Fo.rfl' : Fo own u m m := ⟨rfl, fun _ _ _ => rfl, fun _ _ _ => rfl⟩
end FP
/-! ===== texts ===== -/
theorem nar_char {c : Nat} (h : c < 128) : vp_nar .char (((nI c).toUInt32 % 65536).toInt32) = nI c := by
  have key : ∀ c : Fin 128, vp_nar .char (((nI c).toUInt32 % 65536).toInt32) = nI c := by decide
  exact key ⟨c, h⟩
def TxP (P : zSt) (m : zM) (t n : Nat) (w : Nat → Int32) : Prop := zf m 141 t = nI n ∧ ∀ k, k < n → za m (zR P 140 t) k = w k
def sPs (c : Int32) : Bool := decide (c = 47 ∨ (97 ≤ c ∧ c ≤ 122))
def sAt (n : Nat) (w : Nat → Int32) (i : Int32) : Int32 := if 0 ≤ i ∧ i < nI n then w i.toNatClampNeg else -1
def sPath (n : Nat) (w : Nat → Int32) : Bool := decide (0 < n ∧ w 0 = 47 ∧ ∀ k, k < n → sPs (w k) = true)
theorem i_lt_of {i : Int32} {n : Nat} (h0 : 0 ≤ i) (h : i < nI n) (hn : n < 2 ^ 31) : ∃ k, k < n ∧ i = nI k := by
  refine ⟨i.toNatClampNeg, ?_, ?_⟩
  · rw [Int32.lt_iff_toInt_lt, n_int hn] at h
    rw [Int32.le_iff_toInt_le, show (0 : Int32).toInt = 0 from rfl] at h0
    unfold Int32.toNatClampNeg
    omega
  · rw [Int32.le_iff_toInt_le, show (0 : Int32).toInt = 0 from rfl] at h0
    apply Int32.toInt_inj.mp
    have h9 : i.toNatClampNeg < 2 ^ 31 := by
      rw [Int32.lt_iff_toInt_lt, n_int hn] at h
      unfold Int32.toNatClampNeg
      omega
    rw [n_int h9]
    unfold Int32.toNatClampNeg
    omega
theorem i_le_pred {i : Int32} {n : Nat} (hn : n < 2 ^ 31) (h0 : 0 ≤ i) : i ≤ nI n - 1 ↔ i < nI n := by
  by_cases h : n = 0
  · subst h
    rw [show nI 0 - 1 = -1 from rfl]
    constructor
    · intro q
      exact absurd (Int32.le_trans h0 q) (by decide)
    · intro q
      exact absurd (Int32.lt_of_le_of_lt h0 q) (by decide)
  · rw [show (1 : Int32) = nI 1 from rfl, n_sub _ _ (by omega), Int32.le_iff_toInt_le, Int32.lt_iff_toInt_lt, n_int hn, n_int (by omega)]
    omega
section TX
variable {P : zSt} {m : zM} {t n : Nat} {w : Nat → Int32}
theorem c_signAt (hx : TxP P m t n w) (hn : n ≤ 40) (hl : zlen P (zR P 140 t) = 40) {i : Int32} : f_X7_signAt P t i m = some (sAt n w i, m) := by
  unfold f_X7_signAt sAt
  rw [hx.1, c_isWithin, zb_s]
  dsimp only
  by_cases h0 : 0 ≤ i
  · by_cases h1 : i < nI n
    · obtain ⟨k, hk, rfl⟩ := i_lt_of h0 h1 (by omega)
      rw [decide_eq_true ⟨h0, (i_le_pred (by omega) h0).mpr h1⟩, if_neg (by decide), zl_s, hl, zin_n (by omega) (by omega), zgd_t, if_pos ⟨h0, h1⟩, n_nat (by omega), hx.2 k hk]
    · rw [decide_eq_false (fun q => h1 ((i_le_pred (by omega) h0).mp q.2)), if_pos bI_f, if_neg (fun q => h1 q.2)]
  · rw [decide_eq_false (fun q => h0 q.1), if_pos bI_f, if_neg (fun q => h0 q.1)]
theorem sAt_n {k : Nat} (h : k < n) (hn : n ≤ 40) : sAt n w (nI k) = w k := by
  unfold sAt
  rw [if_pos ⟨nI_pos' (by omega), (n_lt (by omega) (by omega)).mpr h⟩, n_nat (by omega)]
theorem sAt_o {k : Nat} (h : n ≤ k) (hk : k < 2 ^ 31) : sAt n w (nI k) = -1 := by
  unfold sAt
  rw [if_neg]
  rintro ⟨-, q⟩
  rw [n_lt hk (by omega)] at q
  omega
theorem c_isPathSign {c : Int32} : f_X10_isPathSign P c m = some (bI (sPs c), m) := by
  unfold f_X10_isPathSign f_X10_isPathSign_b17 sPs
  by_cases h1 : c = 47
  · rw [if_pos h1, zbo_1, zgd_t, decide_eq_true (Or.inl h1)]
    rfl
  · rw [if_neg h1, c_isWithin, zb_s, zbo_0, zbo_1, zgd_t, zgd_t]
    dsimp only
    by_cases h2 : 97 ≤ c ∧ c ≤ 122
    · rw [decide_eq_true h2, if_neg (by decide), decide_eq_true (Or.inr h2)]
      rfl
    · rw [decide_eq_false h2, if_pos bI_f, decide_eq_false (fun q => q.elim h1 h2)]
      rfl
theorem c_isPath_l (hx : TxP P m t n w) (hn : n ≤ 40) (hl : zlen P (zR P 140 t) = 40) : ∀ d k fu, k + d = n → d < fu → (∀ j, j < k → sPs (w j) = true) → f_X7_isPath_b2 P fu t (nI k) m = some (bI (sPath n w), m) := by
  intro d
  induction d with
  | zero =>
    intro k fu hk hfu hq
    obtain ⟨fu, rfl⟩ : ∃ f, fu = f + 1 := ⟨fu - 1, by omega⟩
    have : k = n := by omega
    subst this
    unfold f_X7_isPath_b2 sPath
    rw [hx.1, if_pos (Int32.le_refl _), c_signAt hx hn hl, zb_s, zbo_1, zbo_0, zgd_t, zgd_t]
    dsimp only
    by_cases hk0 : 0 < k
    · have e : sAt k w 0 = w 0 := sAt_n (k := 0) hk0 hn
      rw [e]
      by_cases h1 : w 0 = 47
      · rw [if_pos h1, decide_eq_true ⟨hk0, h1, hq⟩]
        rfl
      · rw [if_neg h1, decide_eq_false (fun q => h1 q.2.1)]
        rfl
    · have e : sAt k w 0 = -1 := sAt_o (k := 0) (by omega) (by decide)
      rw [e, if_neg (by decide), decide_eq_false (fun q => hk0 q.1)]
      rfl
  | succ d ih =>
    intro k fu hk hfu hq
    obtain ⟨fu, rfl⟩ : ∃ f, fu = f + 1 := ⟨fu - 1, by omega⟩
    have hkn : k < n := by omega
    unfold f_X7_isPath_b2
    rw [hx.1, if_neg (by rw [n_le (by omega) (by omega)]; omega), zl_s, hl, zin_n (by omega) (by omega), zgd_t, n_nat (by omega), hx.2 k hkn, c_isPathSign, zb_s, zbo_0, zgd_t]
    dsimp only
    cases hc : sPs (w k) with
    | false =>
      rw [if_pos bI_f]
      unfold sPath
      rw [decide_eq_false]
      · rfl
      · intro q
        have := q.2.2 k hkn
        rw [hc] at this
        cases this
    | true =>
      rw [if_neg (by decide), zl_s, nI_1]
      refine ih (k + 1) fu (by omega) (by omega) (fun j hj => ?_)
      by_cases e : j = k
      · rw [e]
        exact hc
      · exact hq j (by omega)
theorem c_isPath (hx : TxP P m t n w) (hn : n ≤ 40) (hl : zlen P (zR P 140 t) = 40) : f_X7_isPath P t m = some (bI (sPath n w), m) :=
  c_isPath_l hx hn hl n 0 zfuel (by omega) (by unfold zfuel; omega) (by intro j hj; omega)
theorem c_begins_l {p l : Nat} {v : Nat → Int32} (hx : TxP P m t n w) (hn : n ≤ 40) (hl : zlen P (zR P 140 t) = 40) (hp : TxP P m p l v) (hl40 : l ≤ 40) (hlp : zlen P (zR P 140 p) = 40) (hv : ∀ k, k < l → ∃ c, c < 128 ∧ v k = nI c) : ∀ d k fu, k + d = l → d < fu → f_X7_beginsWith_b2 P fu t p (nI k) m = some (bI (decide (∀ j, j < l → k ≤ j → j < n ∧ v j = w j)), m) := by
  intro d
  induction d with
  | zero =>
    intro k fu hk hfu
    obtain ⟨fu, rfl⟩ : ∃ f, fu = f + 1 := ⟨fu - 1, by omega⟩
    have : k = l := by omega
    subst this
    unfold f_X7_beginsWith_b2
    rw [hp.1, if_pos (Int32.le_refl _), zbo_1, zgd_t, decide_eq_true (fun j hj hj2 => absurd hj (by omega))]
    rfl
  | succ d ih =>
    intro k fu hk hfu
    obtain ⟨fu, rfl⟩ : ∃ f, fu = f + 1 := ⟨fu - 1, by omega⟩
    have hkl : k < l := by omega
    unfold f_X7_beginsWith_b2
    rw [hp.1, if_neg (by rw [n_le (by omega) (by omega)]; omega), c_signAt hx hn hl, zb_s]
    dsimp only
    rw [zl_s, hlp, zin_n (by omega) (by omega), zgd_t, n_nat (by omega), hp.2 k hkl, zl_s, nI_1, ih (k + 1) fu (by omega) (by omega), zbo_0, zgd_t]
    obtain ⟨c, hc, hvc⟩ := hv k hkl
    by_cases hkn : k < n
    · rw [sAt_n hkn hn]
      by_cases h1 : w k = v k
      · rw [if_pos h1]
        congr 3
        apply decide_eq_decide.mpr
        constructor
        · intro q j hj hkj
          by_cases e : j = k
          · subst e
            exact ⟨hkn, h1.symm⟩
          · exact q j hj (by omega)
        · intro q j hj hkj
          exact q j hj (by omega)
      · rw [if_neg h1, decide_eq_false (fun q => h1 (q k hkl (Nat.le_refl _)).2.symm)]
        rfl
    · rw [sAt_o (by omega) (by omega), if_neg (by rw [hvc]; exact fun q => nI_pos (show c < 2 ^ 31 by omega) (by rw [← q]; decide)), decide_eq_false (fun q => hkn (q k hkl (Nat.le_refl _)).1)]
      rfl
theorem c_begins {p l : Nat} {v : Nat → Int32} (hx : TxP P m t n w) (hn : n ≤ 40) (hl : zlen P (zR P 140 t) = 40) (hp : TxP P m p l v) (hl40 : l ≤ 40) (hlp : zlen P (zR P 140 p) = 40) (hv : ∀ k, k < l → ∃ c, c < 128 ∧ v k = nI c) : f_X7_beginsWith P t p m = some (bI (decide (l ≤ n ∧ ∀ j, j < l → v j = w j)), m) := by
  have h := c_begins_l hx hn hl hp hl40 hlp hv l 0 zfuel (by omega) (by unfold zfuel; omega)
  unfold f_X7_beginsWith
  rw [show (0 : Int32) = nI 0 from rfl, h]
  congr 3
  apply decide_eq_decide.mpr
  constructor
  · intro q
    refine ⟨?_, fun j hj => (q j hj (by omega)).2⟩
    by_cases e : l = 0
    · omega
    · have := (q (l - 1) (by omega) (by omega)).1
      omega
  · rintro ⟨q1, q2⟩ j hj -
    exact ⟨by omega, q2 j hj⟩
/-- one sign put -/
theorem c_put (hx : TxP P m t n w) (hn : n < 40) (hl : zlen P (zR P 140 t) = 40) {c : Nat} (hc : c < 128) : f_X7_put P t (nI c) m = some (0, zfp (zap m (zR P 140 t) n (nI c)) 141 t (nI (n + 1))) := by
  unfold f_X7_put
  rw [hx.1, if_neg (by rw [show (40 : Int32) = nI 40 from rfl, n_le (by omega) (by omega)]; omega), zl_s, hl, zin_n (by omega) hn, zgd_t, n_nat (by omega), zl_s, nar_char hc, zl_s]
  have e : zf (zap m (zR P 140 t) n (nI c)) 141 t = nI n := hx.1
  rw [e, nI_1]
theorem TxP.put (hx : TxP P m t n w) (hn : n < 40) {c : Int32} : TxP P (zfp (zap m (zR P 140 t) n c) 141 t (nI (n + 1))) t (n + 1) (uV w n c) := by
  refine ⟨zf_eq, fun k hk => ?_⟩
  show za (zap m (zR P 140 t) n c) (zR P 140 t) k = _
  by_cases e : k = n
  · subst e
    rw [za_eq, uV_s]
  · rw [za_ne (Or.inr e), uV_n e]
    exact hx.2 k (by omega)
theorem c_putT (hx : TxP P m t n w) (hn : n < 40) (hl : zlen P (zR P 140 t) = 40) {c : Nat} (hc : c < 128) : ∃ m', f_X7_put P t (nI c) m = some (0, m') ∧ TxP P m' t (n + 1) (uV w n (nI c)) ∧ Fp (fun f a => f = 141 ∧ a = t) (fun a _ => a = zR P 140 t) m m' :=
  ⟨_, c_put hx hn hl hc, hx.put hn, Fp.put (S := fun f a => f = 141 ∧ a = t) (Fp.pua (A := fun a _ => a = zR P 140 t) Fp.rfl' rfl) (And.intro rfl rfl)⟩
def sCat (n : Nat) (w v : Nat → Int32) (j : Nat) : Int32 := if j < n then w j else v (j - n)
theorem c_putAll_l {p l n0 : Nat} {v : Nat → Int32} (hl : zlen P (zR P 140 t) = 40) (hl40 : n0 + l ≤ 40) (hlp : zlen P (zR P 140 p) = 40) (hv : ∀ k, k < l → ∃ c, c < 128 ∧ v k = nI c) (htp : p ≠ t) (hap : zR P 140 p ≠ zR P 140 t) : ∀ d k fu (m : zM), k + d = l → d < fu → TxP P m p l v → TxP P m t (n0 + k) (sCat n0 w v) →
    ∃ m', f_X7_putAll_b2 P fu t p (nI k) m = some (0, m') ∧ TxP P m' t (n0 + l) (sCat n0 w v) ∧ Fp (fun f a => f = 141 ∧ a = t) (fun a _ => a = zR P 140 t) m m' := by
  intro d
  induction d with
  | zero =>
    intro k fu m hk hfu hp hx
    obtain ⟨fu, rfl⟩ : ∃ f, fu = f + 1 := ⟨fu - 1, by omega⟩
    have : k = l := by omega
    subst this
    unfold f_X7_putAll_b2
    rw [hp.1, if_pos (Int32.le_refl _)]
    exact ⟨m, rfl, hx, Fp.rfl'⟩
  | succ d ih =>
    intro k fu m hk hfu hp hx
    obtain ⟨fu, rfl⟩ : ∃ f, fu = f + 1 := ⟨fu - 1, by omega⟩
    have hkl : k < l := by omega
    obtain ⟨c, hc, hvc⟩ := hv k hkl
    obtain ⟨m1, p1, p2, p3⟩ := c_putT hx (by omega) hl hc
    have hp1 : TxP P m1 p l v := ⟨by rw [p3.2.1 141 p (fun q => htp q.2)]; exact hp.1, fun j hj => by rw [p3.2.2 _ j hap]; exact hp.2 j hj⟩
    have hx1 : TxP P m1 t (n0 + (k + 1)) (sCat n0 w v) := by
      refine ⟨p2.1, fun j hj => ?_⟩
      rw [p2.2 j (by omega)]
      by_cases e : j = n0 + k
      · subst e
        rw [uV_s]
        unfold sCat
        rw [if_neg (by omega), show n0 + k - n0 = k by omega, hvc]
      · rw [uV_n e]
    obtain ⟨m2, q1, q2, q3⟩ := ih (k + 1) fu m1 (by omega) (by omega) hp1 hx1
    unfold f_X7_putAll_b2
    rw [hp.1, if_neg (by rw [n_le (by omega) (by omega)]; omega), zl_s, hlp, zin_n (by omega) (by omega), zgd_t, n_nat (by omega), hp.2 k hkl, hvc, p1, zb_s, zl_s, nI_1]
    exact ⟨m2, q1, q2, p3.trans q3⟩
theorem c_putAll {p l : Nat} {v : Nat → Int32} (hx : TxP P m t n w) (hl : zlen P (zR P 140 t) = 40) (hl40 : n + l ≤ 40) (hp : TxP P m p l v) (hlp : zlen P (zR P 140 p) = 40) (hv : ∀ k, k < l → ∃ c, c < 128 ∧ v k = nI c) (htp : p ≠ t) (hap : zR P 140 p ≠ zR P 140 t) :
    ∃ m', f_X7_putAll P t p m = some (0, m') ∧ TxP P m' t (n + l) (sCat n w v) ∧ Fp (fun f a => f = 141 ∧ a = t) (fun a _ => a = zR P 140 t) m m' :=
  c_putAll_l hl hl40 hlp hv htp hap l 0 zfuel m (by omega) (by unfold zfuel; omega) hp ⟨hx.1, fun k hk => by rw [hx.2 k (by omega)]; unfold sCat; rw [if_pos (by omega)]⟩
end TX

/-! ===== reading a rule: what is asked, and the reference ===== -/
abbrev zW0 : Type := Bool × Nat × (Nat → Int32)
def pH (tn : Nat) (T : Nat → Int32) (o : Nat) : Int32 := if o < tn then T o else -1
def pD (H : Nat → Int32) (lo hi : Int32) (o : Nat) : Bool := decide (lo ≤ H o - 48 ∧ H o - 48 ≤ hi)
def pB (x : zW0) (k : Nat → (Nat → Int32) → zW0) : zW0 := if x.1 = true then k x.2.1 x.2.2 else x
def pRange (H : Nat → Int32) (o : Nat) (W : Nat → Int32) : zW0 :=
  if H o = 91 then
    if pD H 0 9 (o + 1) = true then
      if H (o + 2) = 45 then
        if pD H (H (o + 1) - 48) 9 (o + 3) = true then
          if H (o + 4) = 93 then (true, o + 5, uV (uV W 41 (H (o + 1) - 48)) 42 (H (o + 3) - 48)) else (false, o + 4, W)
        else (false, o + 3, W)
      else (false, o + 2, W)
    else (false, o + 1, W)
  else (true, o, W)
def pEq (H : Nat → Int32) (o : Nat) (W : Nat → Int32) : zW0 := if H o = 61 then (true, o + 1, W) else (false, o, W)
def pHas (W : Nat → Int32) (s : Int32) (n : Nat) : Bool := anyB (fun t => decide (W (44 + 4 * t) = s)) n
def pPut (W : Nat → Int32) (n : Nat) (s w : Int32) : Nat → Int32 := uV (uV (uV W (44 + 4 * n) s) (44 + 4 * n + 1) w) 43 (nI (n + 1))
def pTgt (H : Nat → Int32) (o : Nat) (W : Nat → Int32) (n : Nat) : zW0 :=
  if pD H 0 3 o = true ∧ pHas W (H o - 48) n = false then
    if H (o + 1) = 58 then
      if pD H 1 9 (o + 2) = true then (true, o + 3, pPut W n (H o - 48) (H (o + 2) - 48)) else (false, o + 2, W)
    else (true, o + 1, pPut W n (H o - 48) 1)
  else (false, o, W)
def pTgs (H : Nat → Int32) : Nat → Nat → (Nat → Int32) → Nat → zW0
  | 0, o, W, _ => (true, o, W)
  | d + 1, o, W, n => pB (pTgt H o W n) fun o' W' => if H o' = 44 ∧ 0 < d then pTgs H d (o' + 1) W' (n + 1) else (true, o', W')
def pOne (H : Nat → Int32) (sg lo hi : Int32) (c : Nat) (o : Nat) (W : Nat → Int32) : zW0 :=
  if H o = sg then
    if pD H lo hi (o + 1) = true then (true, o + 2, uV W c (H (o + 1) - 48)) else (false, o + 1, W)
  else (true, o, W)
def pPre (tn : Nat) (T : Nat → Int32) : Nat → Nat → (Nat → Int32) → Nat × (Nat → Int32)
  | 0, o, W => (o, W)
  | d + 1, o, W => if o < tn ∧ sPs (T o) = true then pPre tn T d (o + 1) (uV (uV W (1 + o) (T o)) 0 (nI (o + 1))) else (o, W)
def pZero (A : Nat → Int32) : Nat → (Nat → Int32)
  | 0 => A
  | k + 1 => uV (pZero A k) k 0
def pW0 (A : Nat → Int32) : Nat → Int32 := uV (uV (uV (pZero A 58) 42 9) 56 1) 57 (-1)
def pEnd (tn o : Nat) (W : Nat → Int32) : zW0 := (decide (o = tn), o, W)
def pTail (tn : Nat) (T : Nat → Int32) (o : Nat) (W : Nat → Int32) : zW0 :=
  pB (pRange (pH tn T) o W) fun o W => pB (pEq (pH tn T) o W) fun o W => pB (pTgs (pH tn T) 3 o W 0) fun o W => pB (pOne (pH tn T) 126 0 3 57 o W) fun o W => pB (pOne (pH tn T) 42 1 4 56 o W) fun o W => pEnd tn o W
def pRead (tn : Nat) (T A : Nat → Int32) : zW0 :=
  if pH tn T 0 = 47 then pTail tn T (pPre tn T 40 0 (pW0 A)).1 (pPre tn T 40 0 (pW0 A)).2 else (false, 0, pW0 A)
theorem pZero_at {A : Nat → Int32} {k j : Nat} : pZero A k j = if j < k then 0 else A j := by
  induction k with
  | zero => rfl
  | succ k ih =>
    unfold pZero
    by_cases e : j = k
    · subst e
      rw [uV_s, if_pos (by omega)]
    · rw [uV_n e, ih]
      by_cases h : j < k
      · rw [if_pos h, if_pos (by omega)]
      · rw [if_neg h, if_neg (by omega)]
theorem pB_t {o : Nat} {W : Nat → Int32} {k : Nat → (Nat → Int32) → zW0} : pB (true, o, W) k = k o W := rfl
theorem pB_f {o : Nat} {W : Nat → Int32} {k : Nat → (Nat → Int32) → zW0} : pB (false, o, W) k = (false, o, W) := rfl
/-- the reference's standing while it reads -/
def YR (P : zSt) (y : Nat) (m0 m : zM) (o : Nat) (b : Bool) (W : Nat → Int32) : Prop := zf m 213 y = nI o ∧ zf m 214 y = bI b ∧ za m (zR P 215 y) = W ∧ Fp (fun f a => (f = 213 ∨ f = 214) ∧ a = y) (fun a _ => a = zR P 215 y) m0 m
/-- the text that lies there -/
def YT (P : zSt) (y : Nat) (m : zM) (tn : Nat) : Prop := zf m 207 y = nI tn ∧ tn ≤ 40 ∧ ∀ k, k < tn → ∃ c, c < 128 ∧ za m (zR P 206 y) k = nI c
theorem ok_ne {P : zSt} {y : Nat} (ok : yOK P y) : zR P 206 y ≠ zR P 215 y ∧ zR P 200 y ≠ zR P 215 y ∧ zR P 206 y ≠ zR P 200 y ∧ zlen P (zR P 206 y) = 40 ∧ zlen P (zR P 215 y) = 58 := by
  obtain ⟨h1, h2, h3, h4, h5, h6, h7, h8, h9, h10, h11⟩ := ok
  simp only [List.nodup_cons, List.mem_cons, List.not_mem_nil, or_false, not_or] at h11
  obtain ⟨a1, a2, a3, a4, a5, -⟩ := h11
  exact ⟨a5.2.2.2.1, a1.2.2.2.2.2.2.2.1, fun q => a1.2.2.2.1 q.symm, h5, h9⟩
section PA
variable {P : zSt} {y tn : Nat} {m0 m : zM} {o : Nat} {b : Bool} {W : Nat → Int32}
theorem pH_lt {T : Nat → Int32} (h : o < tn) : pH tn T o = T o := if_pos h
theorem pH_ge {T : Nat → Int32} (h : ¬ o < tn) : pH tn T o = -1 := if_neg h
theorem YR.at (h : YR P y m0 m o b W) {o' : Nat} : YR P y m0 (zfp m 213 y (nI o')) o' b W := ⟨zf_eq, by rw [zf_ne (Or.inl (by omega))]; exact h.2.1, h.2.2.1, h.2.2.2.put (And.intro (Or.inl rfl) rfl)⟩
theorem YR.fl (h : YR P y m0 m o b W) {b' : Bool} : YR P y m0 (zfp m 214 y (bI b')) o b' W := ⟨by rw [zf_ne (Or.inl (by omega))]; exact h.1, zf_eq, h.2.2.1, h.2.2.2.put (And.intro (Or.inr rfl) rfl)⟩
theorem YR.pu (h : YR P y m0 m o b W) {i : Nat} {v : Int32} : YR P y m0 (zap m (zR P 215 y) i v) o b (uV W i v) := ⟨h.1, h.2.1, by rw [zap_eq, za_wA, h.2.2.1], h.2.2.2.pua rfl⟩
theorem r_here (ok : yOK P y) (ht : YT P y m0 tn) (h : YR P y m0 m o b W) (ho : o < 2 ^ 31) : f_X11_here P y m = some (pH tn (za m0 (zR P 206 y)) o, m) := by
  obtain ⟨n1, -, -, l1, -⟩ := ok_ne ok
  have e : zf m 207 y = nI tn := by rw [h.2.2.2.2.1 _ _ (fun q => by omega), ht.1]
  have htn := ht.2.1
  unfold f_X11_here
  rw [e, h.1]
  by_cases h1 : o < tn
  · rw [if_neg (by rw [n_le (by omega) (by omega)]; omega), zl_s, l1, zin_n (by omega) (by omega), zgd_t, n_nat ho, pH_lt h1, h.2.2.2.2.2 _ o n1]
  · rw [if_pos (by rw [n_le (by omega) (by omega)]; omega), pH_ge h1]
theorem or_bI {b b' : Bool} : bI b ||| bI b' = bI (b || b') := by cases b <;> cases b' <;> rfl
theorem r_sign (ok : yOK P y) (ht : YT P y m0 tn) (h : YR P y m0 m o false W) (ho : o < 1000) {c : Int32} :
    ∃ m', f_X11_sign P y c m = some (0, m') ∧ YR P y m0 m' (if pH tn (za m0 (zR P 206 y)) o = c then o + 1 else o) (decide (¬ pH tn (za m0 (zR P 206 y)) o = c)) W := by
  unfold f_X11_sign f_X11_sign_b18 f_X11_sign_b39
  rw [r_here ok ht h (by omega), zb_s, h.2.1]
  dsimp only
  by_cases h1 : pH tn (za m0 (zR P 206 y)) o = c
  · rw [if_pos h1, show (bI false ||| 0 : Int32) = bI false from rfl, zbo_bI, zgd_t, zl_s, (h.fl (b' := false)).2.1, if_pos bI_f, (h.fl (b' := false)).1, nI_1, zl_s, if_pos h1, decide_eq_false (fun q => q h1)]
    exact ⟨_, rfl, (h.fl (b' := false)).at⟩
  · rw [if_neg h1, show (bI false ||| 1 : Int32) = bI true from rfl, zbo_bI, zgd_t, zl_s, (h.fl (b' := true)).2.1, if_neg (by decide), (h.fl (b' := true)).1, show nI o + 0 = nI o from Int32.add_zero _, zl_s, if_neg h1, decide_eq_true h1]
    exact ⟨_, rfl, (h.fl (b' := true)).at⟩
theorem r_digit (ok : yOK P y) (ht : YT P y m0 tn) (h : YR P y m0 m o false W) (ho : o < 1000) {lo hi : Int32} :
    ∃ m', f_X11_digit P y lo hi m = some (if pD (pH tn (za m0 (zR P 206 y))) lo hi o = true then pH tn (za m0 (zR P 206 y)) o - 48 else 0, m') ∧ YR P y m0 m' (if pD (pH tn (za m0 (zR P 206 y))) lo hi o = true then o + 1 else o) (!pD (pH tn (za m0 (zR P 206 y))) lo hi o) W := by
  unfold f_X11_digit f_X11_digit_b27 f_X11_digit_b48 pD
  rw [r_here ok ht h (by omega), zb_s, zl_s, r_isIn, zb_s, h.2.1]
  dsimp only
  by_cases h1 : lo ≤ pH tn (za m0 (zR P 206 y)) o - 48 ∧ pH tn (za m0 (zR P 206 y)) o - 48 ≤ hi
  · have f1 := h.fl (b' := false)
    rw [decide_eq_true h1, if_neg (by decide), show (bI false ||| 0 : Int32) = bI false from rfl, zbo_bI, zgd_t, zl_s, f1.2.1, if_pos bI_f, f1.1, nI_1, zl_s, (f1.at (o' := o + 1)).2.1, if_pos bI_f, if_pos rfl, if_pos rfl]
    exact ⟨_, rfl, f1.at⟩
  · have f1 := h.fl (b' := true)
    rw [decide_eq_false h1, if_pos bI_f, show (bI false ||| 1 : Int32) = bI true from rfl, zbo_bI, zgd_t, zl_s, f1.2.1, if_neg (by decide), f1.1, show nI o + 0 = nI o from Int32.add_zero _, zl_s, (f1.at (o' := o)).2.1, if_neg (by decide), if_neg (by decide), if_neg (by decide)]
    exact ⟨_, rfl, f1.at⟩
theorem r_isOfPath {c : Int32} : f_X11_isOfPath P c m = some (bI (sPs c), m) := by
  unfold f_X11_isOfPath f_X11_isOfPath_b17 sPs
  by_cases h1 : c = 47
  · rw [if_pos h1, zbo_1, zgd_t, decide_eq_true (Or.inl h1)]
    rfl
  · rw [if_neg h1, r_isIn, zb_s, zbo_0, zbo_1, zgd_t, zgd_t]
    dsimp only
    by_cases h2 : 97 ≤ c ∧ c ≤ 122
    · rw [decide_eq_true h2, if_neg (by decide), decide_eq_true (Or.inr h2)]
      rfl
    · rw [decide_eq_false h2, if_pos bI_f, decide_eq_false (fun q => q.elim h1 h2)]
      rfl
theorem r_isPath_l (ok : yOK P y) {T : Nat → Int32} (h7 : zf m 207 y = nI tn) (htn : tn ≤ 40) (hT : ∀ k, k < tn → za m (zR P 206 y) k = T k) (h0 : 0 < tn) (h47 : T 0 = 47) : ∀ d k fu, k + d = tn → d < fu → (∀ j, j < k → sPs (T j) = true) → f_X11_isPath_b22 P fu y (nI k) m = some (bI (sPath tn T), m) := by
  obtain ⟨n1, -, -, l1, -⟩ := ok_ne ok
  intro d
  induction d with
  | zero =>
    intro k fu hk hfu hq
    obtain ⟨fu, rfl⟩ : ∃ f, fu = f + 1 := ⟨fu - 1, by omega⟩
    have : k = tn := by omega
    subst this
    unfold f_X11_isPath_b22 sPath
    rw [h7, if_pos (Int32.le_refl _), zbo_1, zgd_t, decide_eq_true ⟨h0, h47, hq⟩]
    rfl
  | succ d ih =>
    intro k fu hk hfu hq
    obtain ⟨fu, rfl⟩ : ∃ f, fu = f + 1 := ⟨fu - 1, by omega⟩
    have hkn : k < tn := by omega
    unfold f_X11_isPath_b22
    rw [h7, if_neg (by rw [n_le (by omega) (by omega)]; omega), zl_s, l1, zin_n (by omega) (by omega), zgd_t, n_nat (by omega), hT k hkn, r_isOfPath, zb_s, zbo_0, zgd_t]
    dsimp only
    cases hc : sPs (T k) with
    | false =>
      rw [if_pos bI_f]
      unfold sPath
      rw [decide_eq_false]
      · rfl
      · intro q
        have := q.2.2 k hkn
        rw [hc] at this
        cases this
    | true =>
      rw [if_neg (by decide), zl_s, nI_1]
      refine ih (k + 1) fu (by omega) (by omega) (fun j hj => ?_)
      by_cases e : j = k
      · rw [e]
        exact hc
      · exact hq j (by omega)
theorem r_isPath (ok : yOK P y) (ht : YT P y m tn) : f_X11_isPath P y m = some (bI (sPath tn (za m (zR P 206 y))), m) := by
  obtain ⟨n1, -, -, l1, -⟩ := ok_ne ok
  have htn := ht.2.1
  unfold f_X11_isPath f_X11_isPath_b18
  rw [ht.1]
  by_cases h0 : tn = 0
  · subst h0
    rw [if_pos (show nI 0 = 0 from rfl), zbo_0, zgd_t]
    unfold sPath
    rw [decide_eq_false (fun q => absurd q.1 (by omega))]
    rfl
  · rw [if_neg (by rw [show (0 : Int32) = nI 0 from rfl, n_inj (by omega) (by omega)]; exact h0), zl_s, l1, show zin 0 40 = true by decide, zgd_t, show (0 : Int32).toNatClampNeg = 0 by decide]
    by_cases h47 : za m (zR P 206 y) 0 = 47
    · rw [if_pos h47]
      exact r_isPath_l ok ht.1 htn (fun _ _ => rfl) (by omega) h47 tn 0 zfuel (by omega) (by unfold zfuel; omega) (by intro j hj; omega)
    · rw [if_neg h47, zbo_0, zgd_t]
      unfold sPath
      rw [decide_eq_false (fun q => h47 q.2.1)]
      rfl
end PA

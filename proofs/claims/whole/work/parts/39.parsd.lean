/-! ===== the class reads a rule ===== -/
theorem sAt_pH {tn o : Nat} {T : Nat → Int32} (ho : o < 2 ^ 31) (hn : tn ≤ 40) : sAt tn T (nI o) = pH tn T o := by
  by_cases h : o < tn
  · rw [sAt_n h hn, pH_lt h]
  · rw [sAt_o (by omega) ho, pH_ge h]
abbrev dR (P : zSt) (rd : Nat) : Nat := zR P 81 rd
abbrev dP (P : zSt) (rd : Nat) : Nat := zR P 60 (zR P 81 rd)
abbrev dZ (P : zSt) (rd : Nat) : Nat := zR P 140 (zR P 60 (zR P 81 rd))
abbrev dT (P : zSt) (rd : Nat) : Nat := zR P 80 rd
/-- the reader's places -/
def DF (P : zSt) (m : zM) (rd : Nat) (tt : Nat → Nat) : Prop := zlen P (zR P 140 (dT P rd)) = 40 ∧ zlen P (dZ P rd) = 40 ∧ zlen P (zR P 63 (dR P rd)) = 3 ∧ dP P rd ≠ dT P rd ∧ zR P 140 (dT P rd) ≠ dZ P rd ∧ (∀ i j, i < 3 → j < 3 → tt i = tt j → i = j) ∧ ∀ t, t < 3 → zr m (zR P 63 (dR P rd)) t = tt t
def cS (P : zSt) (rd : Nat) (tt : Nat → Nat) (f a : Nat) : Prop := (f = 82 ∧ a = rd) ∨ RuF (dR P rd) (dP P rd) (dZ P rd) tt f a
abbrev FD (P : zSt) (rd : Nat) (tt : Nat → Nat) (m0 m : zM) : Prop := Fp (cS P rd tt) (fun a _ => a = dZ P rd) m0 m
def CW (W : Nat → Int32) : Prop := (∃ l, l ≤ 40 ∧ W 0 = nI l) ∧ (∃ n, n ≤ 3 ∧ W 43 = nI n) ∧ ∀ t, t < 3 → W (44 + 4 * t + 2) = 0 ∧ W (44 + 4 * t + 3) = 0
def CR (P : zSt) (rd : Nat) (tt : Nat → Nat) (m0 m : zM) (o : Nat) (W : Nat → Int32) : Prop := zf m 82 rd = nI o ∧ RuP P m (dR P rd) tt W ∧ FD P rd tt m0 m ∧ CW W
def CG (P : zSt) (rd : Nat) (tt : Nat → Nat) (m0 m : zM) (x : zW0) : Prop := zf m 82 rd = nI x.2.1 ∧ FD P rd tt m0 m ∧ (x.1 = true → RuP P m (dR P rd) tt x.2.2 ∧ CW x.2.2)
theorem CW.up {W : Nat → Int32} (h : CW W) {c : Nat} {x : Int32} (hc : c = 41 ∨ c = 42 ∨ c = 56 ∨ c = 57) : CW (uV W c x) := by
  obtain ⟨⟨l, l1, l2⟩, ⟨n, n1, n2⟩, h3⟩ := h
  refine ⟨⟨l, l1, by rw [uV_n (by omega), l2]⟩, ⟨n, n1, by rw [uV_n (by omega), n2]⟩, fun t ht => ?_⟩
  rw [uV_n (by omega), uV_n (by omega)]
  exact h3 t ht
theorem CW.put {W : Nat → Int32} (h : CW W) {n : Nat} (hn : n < 3) {s w : Int32} : CW (pPut W n s w) := by
  obtain ⟨⟨l, l1, l2⟩, -, h3⟩ := h
  unfold pPut
  refine ⟨⟨l, l1, by rw [uV_n (by omega), uV_n (by omega), uV_n (by omega), l2]⟩, ⟨n + 1, by omega, uV_s⟩, fun t ht => ?_⟩
  rw [uV_n (by omega), uV_n (by omega), uV_n (by omega), uV_n (by omega), uV_n (by omega), uV_n (by omega)]
  exact h3 t ht
section PD
variable {P : zSt} {rd tn : Nat} {tt : Nat → Nat} {T : Nat → Int32} {m0 m : zM} {o : Nat} {W : Nat → Int32}
theorem RuP.up (h : RuP P m (dR P rd) tt W) (hw : CW W) {f c : Nat} {x : Int32} (hfc : (f = 61 ∧ c = 41) ∨ (f = 62 ∧ c = 42) ∨ (f = 65 ∧ c = 56) ∨ (f = 66 ∧ c = 57)) : RuP P (zfp m f (dR P rd) x) (dR P rd) tt (uV W c x) := by
  obtain ⟨⟨l, l1, l2⟩, ⟨n, n1, n2⟩, -⟩ := hw
  obtain ⟨a1, a2, a3, a4, a5, a6, a7, a8⟩ := h
  have e0 : uV W c x 0 = W 0 := uV_n (by omega)
  have e43 : uV W c x 43 = W 43 := uV_n (by omega)
  refine ⟨?_, ?_, ?_, ?_, ?_, ?_, fun k hk => ?_, fun t k ht hk => ?_⟩
  · rcases hfc with ⟨rfl, rfl⟩ | ⟨rfl, rfl⟩ | ⟨rfl, rfl⟩ | ⟨rfl, rfl⟩
    · rw [zf_eq, uV_s]
    · rw [zf_ne (Or.inl (by omega)), a1, uV_n (by omega)]
    · rw [zf_ne (Or.inl (by omega)), a1, uV_n (by omega)]
    · rw [zf_ne (Or.inl (by omega)), a1, uV_n (by omega)]
  · rcases hfc with ⟨rfl, rfl⟩ | ⟨rfl, rfl⟩ | ⟨rfl, rfl⟩ | ⟨rfl, rfl⟩
    · rw [zf_ne (Or.inl (by omega)), a2, uV_n (by omega)]
    · rw [zf_eq, uV_s]
    · rw [zf_ne (Or.inl (by omega)), a2, uV_n (by omega)]
    · rw [zf_ne (Or.inl (by omega)), a2, uV_n (by omega)]
  · rw [zf_ne (Or.inl (by omega)), a3, e43]
  · rcases hfc with ⟨rfl, rfl⟩ | ⟨rfl, rfl⟩ | ⟨rfl, rfl⟩ | ⟨rfl, rfl⟩
    · rw [zf_ne (Or.inl (by omega)), a4, uV_n (by omega)]
    · rw [zf_ne (Or.inl (by omega)), a4, uV_n (by omega)]
    · rw [zf_eq, uV_s]
    · rw [zf_ne (Or.inl (by omega)), a4, uV_n (by omega)]
  · rcases hfc with ⟨rfl, rfl⟩ | ⟨rfl, rfl⟩ | ⟨rfl, rfl⟩ | ⟨rfl, rfl⟩
    · rw [zf_ne (Or.inl (by omega)), a5, uV_n (by omega)]
    · rw [zf_ne (Or.inl (by omega)), a5, uV_n (by omega)]
    · rw [zf_ne (Or.inl (by omega)), a5, uV_n (by omega)]
    · rw [zf_eq, uV_s]
  · rw [zf_ne (Or.inl (by omega)), a6, e0]
  · rw [e0] at hk
    rw [l2, n_nat (by omega)] at hk
    rw [uV_n (by omega)]
    exact a7 k (by rw [l2, n_nat (by omega)]; exact hk)
  · rw [e43] at ht
    have ht2 := ht
    rw [n2, n_nat (by omega)] at ht2
    have := tsl_lt k
    rw [zf_ne (Or.inl (by omega)), a8 t k ht hk, uV_n (by omega)]
theorem CR.at (h : CR P rd tt m0 m o W) {o' : Nat} : CR P rd tt m0 (zfp m 82 rd (nI o')) o' W :=
  ⟨zf_eq, h.2.1.fp (p := 0) (z := 0) (S := fun f a => f = 82 ∧ a = rd) (A := fun _ _ => False) (Fp.put Fp.rfl' (And.intro rfl rfl)) (fun i h1 h2 q => by omega) (fun q => by omega) (fun i t h1 h2 ht q => by omega) (fun k q => q), h.2.2.1.put (Or.inl (And.intro rfl rfl)), h.2.2.2⟩
theorem CR.up (h : CR P rd tt m0 m o W) {f c : Nat} {x : Int32} (hfc : (f = 61 ∧ c = 41) ∨ (f = 62 ∧ c = 42) ∨ (f = 65 ∧ c = 56) ∨ (f = 66 ∧ c = 57)) : CR P rd tt m0 (zfp m f (dR P rd) x) o (uV W c x) :=
  ⟨by rw [zf_ne (Or.inl (by omega))]; exact h.1, h.2.1.up h.2.2.2 hfc, h.2.2.1.put (Or.inr (Or.inl (And.intro (by omega) (And.intro (by omega) rfl)))), h.2.2.2.up (by omega)⟩
theorem CR.g (h : CR P rd tt m0 m o W) : CG P rd tt m0 m (true, o, W) := ⟨h.1, h.2.2.1, fun _ => ⟨h.2.1, h.2.2.2⟩⟩
theorem CR.b (h : CR P rd tt m0 m o W) {W' : Nat → Int32} : CG P rd tt m0 m (false, o, W') := ⟨h.1, h.2.2.1, fun q => by cases q⟩
/-- the text stays -/
theorem FD.tx (hd : DF P m0 rd tt) (ht : TxP P m0 (dT P rd) tn T) (f : FD P rd tt m0 m) : TxP P m (dT P rd) tn T := by
  refine ⟨?_, fun k hk => ?_⟩
  · rw [f.2.1 _ _ (fun q => ?_)]
    · exact ht.1
    · rcases q with ⟨q1, q2⟩ | ⟨q1, q2, q3⟩ | ⟨q1, q2⟩ | ⟨q1, q2, q3⟩
      · omega
      · omega
      · exact hd.2.2.2.1 q2.symm
      · omega
  · rw [f.2.2 _ _ (fun q => hd.2.2.2.2.1 q)]
    exact ht.2 k hk
theorem c_at (hd : DF P m0 rd tt) (ht : TxP P m0 (dT P rd) tn T) (hn : tn ≤ 40) (f : FD P rd tt m0 m) (ho : o < 2 ^ 31) : f_X7_signAt P (dT P rd) (nI o) m = some (pH tn T o, m) := by
  rw [c_signAt (FD.tx hd ht f) hn hd.1, sAt_pH ho hn]
theorem c_readSign (hd : DF P m0 rd tt) (ht : TxP P m0 (dT P rd) tn T) (hn : tn ≤ 40) (h : CR P rd tt m0 m o W) (ho : o < 1000) {c : Int32} :
    ∃ m', f_X4_readSign P rd c m = some (bI (decide (pH tn T o = c)), m') ∧ CR P rd tt m0 m' (if pH tn T o = c then o + 1 else o) W := by
  unfold f_X4_readSign
  rw [zl_s, h.1, c_at hd ht hn h.2.2.1 (by omega), zb_s]
  simp only [zbo_0, zbo_1, zgd_t]
  by_cases h1 : pH tn T o = c
  · rw [if_pos h1, h.1, nI_1, zl_s, decide_eq_true h1, if_pos h1]
    exact ⟨_, rfl, h.at⟩
  · rw [if_neg h1, decide_eq_false h1, if_neg h1]
    exact ⟨_, rfl, h⟩
theorem c_readDigit (hd : DF P m0 rd tt) (ht : TxP P m0 (dT P rd) tn T) (hn : tn ≤ 40) (h : CR P rd tt m0 m o W) (ho : o < 1000) {lo hi : Int32} :
    ∃ m', f_X4_readDigit P rd lo hi m = some (if pD (pH tn T) lo hi o = true then pH tn T o - 48 else -1, m') ∧ CR P rd tt m0 m' (if pD (pH tn T) lo hi o = true then o + 1 else o) W := by
  unfold f_X4_readDigit pD
  rw [zl_s, h.1, c_at hd ht hn h.2.2.1 (by omega), zb_s, zl_s, c_isWithin, zb_s]
  dsimp only
  by_cases h1 : lo ≤ pH tn T o - 48 ∧ pH tn T o - 48 ≤ hi
  · rw [decide_eq_true h1, if_neg (by decide), h.1, nI_1, zl_s, if_pos rfl, if_pos rfl]
    exact ⟨_, rfl, h.at⟩
  · rw [decide_eq_false h1, if_pos bI_f, if_neg (by decide), if_neg (by decide)]
    exact ⟨_, rfl, h⟩
theorem pD_ne {H : Nat → Int32} {lo hi : Int32} {o : Nat} (h0 : 0 ≤ lo) (h : pD H lo hi o = true) : ¬ H o - 48 = -1 := by
  unfold pD at h
  rw [decide_eq_true_eq] at h
  intro q
  rw [q] at h
  exact absurd (Int32.le_trans h0 h.1) (by decide)
theorem c_most (hd : DF P m0 rd tt) (ht : TxP P m0 (dT P rd) tn T) (hn : tn ≤ 40) (h : CR P rd tt m0 m o W) (ho : o < 900) :
    ∃ m', f_X4_readAttempts P rd m = some (bI (pOne (pH tn T) 42 1 4 56 o W).1, m') ∧ CG P rd tt m0 m' (pOne (pH tn T) 42 1 4 56 o W) := by
  obtain ⟨m1, a1, a2⟩ := c_readSign hd ht hn h (by omega) (c := 42)
  unfold f_X4_readAttempts pOne
  rw [a1, zb_s]
  simp only [zbo_0, zbo_1, zgd_t]
  by_cases h1 : pH tn T o = 42
  · rw [if_pos h1] at a2
    rw [decide_eq_true h1, if_neg (by decide), if_pos h1]
    obtain ⟨m2, b1, b2⟩ := c_readDigit hd ht hn a2 (by omega) (lo := 1) (hi := 4)
    rw [zl_s, b1, zb_s, zl_s, zl_s]
    dsimp only
    rw [zf_eq]
    by_cases h2 : pD (pH tn T) 1 4 (o + 1) = true
    · rw [if_pos h2] at b2
      rw [if_pos h2, if_pos h2, if_neg (pD_ne (by decide) h2)]
      exact ⟨_, rfl, (b2.up (by omega)).g⟩
    · rw [if_neg h2] at b2
      rw [if_neg h2, if_neg h2, if_pos rfl]
      exact ⟨_, rfl, (b2.up (f := 65) (c := 56) (x := -1) (by omega)).b⟩
  · rw [if_neg h1] at a2
    rw [decide_eq_false h1, if_pos bI_f, if_neg h1]
    exact ⟨_, rfl, a2.g⟩
theorem c_shadow (hd : DF P m0 rd tt) (ht : TxP P m0 (dT P rd) tn T) (hn : tn ≤ 40) (h : CR P rd tt m0 m o W) (ho : o < 900) :
    ∃ m', f_X4_readShadow P rd m = some (bI (pOne (pH tn T) 126 0 3 57 o W).1, m') ∧ CG P rd tt m0 m' (pOne (pH tn T) 126 0 3 57 o W) := by
  obtain ⟨m1, a1, a2⟩ := c_readSign hd ht hn h (by omega) (c := 126)
  unfold f_X4_readShadow pOne
  rw [a1, zb_s]
  simp only [zbo_0, zbo_1, zgd_t]
  by_cases h1 : pH tn T o = 126
  · rw [if_pos h1] at a2
    rw [decide_eq_true h1, if_neg (by decide), if_pos h1]
    obtain ⟨m2, b1, b2⟩ := c_readDigit hd ht hn a2 (by omega) (lo := 0) (hi := 3)
    rw [zl_s, b1, zb_s, zl_s, zl_s]
    dsimp only
    rw [zf_eq]
    by_cases h2 : pD (pH tn T) 0 3 (o + 1) = true
    · rw [if_pos h2] at b2
      rw [if_pos h2, if_pos h2, if_neg (pD_ne (by decide) h2)]
      exact ⟨_, rfl, (b2.up (by omega)).g⟩
    · rw [if_neg h2] at b2
      rw [if_neg h2, if_neg h2, if_pos rfl]
      exact ⟨_, rfl, (b2.up (f := 66) (c := 57) (x := -1) (by omega)).b⟩
  · rw [if_neg h1] at a2
    rw [decide_eq_false h1, if_pos bI_f, if_neg h1]
    exact ⟨_, rfl, a2.g⟩
theorem c_range (hd : DF P m0 rd tt) (ht : TxP P m0 (dT P rd) tn T) (hn : tn ≤ 40) (h : CR P rd tt m0 m o W) (ho : o < 900) :
    ∃ m', f_X4_readRange P rd m = some (bI (pRange (pH tn T) o W).1, m') ∧ CG P rd tt m0 m' (pRange (pH tn T) o W) := by
  obtain ⟨m1, a1, a2⟩ := c_readSign hd ht hn h (by omega) (c := 91)
  unfold f_X4_readRange f_X4_readRange_b33 f_X4_readRange_b77 pRange
  rw [a1, zb_s]
  simp only [zbo_0, zbo_1, zgd_t]
  by_cases h91 : pH tn T o = 91
  · rw [if_pos h91] at a2
    rw [decide_eq_true h91, if_neg (by decide), if_pos h91]
    obtain ⟨m2, b1, b2⟩ := c_readDigit hd ht hn a2 (by omega) (lo := 0) (hi := 9)
    rw [b1, zb_s]
    dsimp only
    by_cases h1 : pD (pH tn T) 0 9 (o + 1) = true
    · rw [if_pos h1, show o + 1 + 1 = o + 2 from rfl] at b2
      rw [if_pos h1, if_pos h1, if_neg (pD_ne (by decide) h1)]
      obtain ⟨m3, d1, d2⟩ := c_readSign hd ht hn b2 (by omega) (c := 45)
      rw [d1, zb_s]
      dsimp only
      by_cases h45 : pH tn T (o + 2) = 45
      · rw [if_pos h45, show o + 2 + 1 = o + 3 from rfl] at d2
        rw [decide_eq_true h45, if_neg (by decide), if_pos h45]
        obtain ⟨m4, e1, e2⟩ := c_readDigit hd ht hn d2 (by omega) (lo := pH tn T (o + 1) - 48) (hi := 9)
        rw [e1, zb_s, zl_s, zl_s, zl_s, zl_s]
        dsimp only
        have hlo : (0 : Int32) ≤ pH tn T (o + 1) - 48 := by
          have := h1
          unfold pD at this
          exact (of_decide_eq_true this).1
        have e3 := (e2.up (f := 61) (c := 41) (x := pH tn T (o + 1) - 48) (by omega)).up (f := 62) (c := 42) (x := if pD (pH tn T) (pH tn T (o + 1) - 48) 9 (o + 3) = true then pH tn T (o + 3) - 48 else -1) (by omega)
        by_cases h3 : pD (pH tn T) (pH tn T (o + 1) - 48) 9 (o + 3) = true
        · rw [if_pos h3, if_pos h3, show o + 3 + 1 = o + 4 from rfl] at e3
          rw [if_pos h3, if_neg (pD_ne hlo h3), if_pos h3]
          obtain ⟨m5, k1, k2⟩ := c_readSign hd ht hn e3 (by omega) (c := 93)
          rw [k1, zb_s]
          dsimp only
          by_cases h93 : pH tn T (o + 4) = 93
          · rw [if_pos h93, show o + 4 + 1 = o + 5 from rfl] at k2
            rw [decide_eq_true h93, if_neg (by decide), if_pos h93]
            exact ⟨_, rfl, k2.g⟩
          · rw [if_neg h93] at k2
            rw [decide_eq_false h93, if_pos bI_f, if_neg h93]
            exact ⟨_, rfl, k2.b⟩
        · rw [if_neg h3, if_neg h3] at e3
          rw [if_neg h3, if_pos rfl, if_neg h3]
          exact ⟨_, rfl, e3.b⟩
      · rw [if_neg h45] at d2
        rw [decide_eq_false h45, if_pos bI_f, if_neg h45]
        exact ⟨_, rfl, d2.b⟩
    · rw [if_neg h1] at b2
      rw [if_neg h1, if_pos rfl, if_neg h1]
      exact ⟨_, rfl, b2.b⟩
  · rw [if_neg h91] at a2
    rw [decide_eq_false h91, if_pos bI_f, if_neg h91]
    exact ⟨_, rfl, a2.g⟩
end PD

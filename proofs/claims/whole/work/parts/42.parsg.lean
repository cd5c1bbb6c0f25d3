/-! ===== the class's reading, put together ===== -/
def kR5 (P : zSt) (rd : Nat) (m : zM) : Option (Int32 × zM) :=
  zb (f_X4_readAttempts P rd m) fun r50 m50 =>
  (if r50 = 0 then f_X4_read_b74 P rd m50
  else zl (zR P 80 rd) fun b61 => (if zf m50 82 rd = zf m50 141 b61 then f_X4_read_b75 P rd 1 m50 else f_X4_read_b74 P rd m50))
def kR4 (P : zSt) (rd : Nat) (m : zM) : Option (Int32 × zM) := zb (f_X4_readShadow P rd m) fun r43 m43 => (if r43 = 0 then f_X4_read_b74 P rd m43 else kR5 P rd m43)
def kR3 (P : zSt) (rd : Nat) (m : zM) : Option (Int32 × zM) := zb (f_X4_readTargets P rd m) fun r36 m36 => (if r36 = 0 then f_X4_read_b74 P rd m36 else kR4 P rd m36)
def kR2 (P : zSt) (rd : Nat) (m : zM) : Option (Int32 × zM) := zb (f_X4_readSign P rd 61 m) fun r29 m29 => (if r29 = 0 then f_X4_read_b74 P rd m29 else kR3 P rd m29)
def kR1 (P : zSt) (rd : Nat) (m : zM) : Option (Int32 × zM) := zb (f_X4_readRange P rd m) fun r20 m20 => (if r20 = 0 then f_X4_read_b74 P rd m20 else kR2 P rd m20)
theorem kR_eq {P : zSt} {rd : Nat} {m : zM} : f_X4_read P rd m = zl (zfp m 82 rd 0) fun m2 => zl (zR P 81 rd) fun b6 => zb (f_X3_begin P b6 m2) fun _ m9 => zb (f_X4_readPrefix P rd m9) fun r13 m13 => (if r13 = 0 then f_X4_read_b74 P rd m13 else kR1 P rd m13) := rfl
section PG
variable {P : zSt} {rd tn : Nat} {tt : Nat → Nat} {T : Nat → Int32} {m0 m : zM} {o : Nat} {W : Nat → Int32}
theorem CG.cr {x : zW0} (h : CG P rd tt m0 m x) (hg : x.1 = true) : CR P rd tt m0 m x.2.1 x.2.2 := ⟨h.1, (h.2.2 hg).1, h.2.1, (h.2.2 hg).2⟩
theorem pRange_le (ho : o ≤ tn) (h : (pRange (pH tn T) o W).1 = true) : (pRange (pH tn T) o W).2.1 ≤ tn ∧ (pRange (pH tn T) o W).2.2 43 = W 43 := by
  unfold pRange at h ⊢
  by_cases h1 : pH tn T o = 91
  · rw [if_pos h1] at h ⊢
    by_cases h2 : pD (pH tn T) 0 9 (o + 1) = true
    · rw [if_pos h2] at h ⊢
      by_cases h3 : pH tn T (o + 2) = 45
      · rw [if_pos h3] at h ⊢
        by_cases h4 : pD (pH tn T) (pH tn T (o + 1) - 48) 9 (o + 3) = true
        · rw [if_pos h4] at h ⊢
          by_cases h5 : pH tn T (o + 4) = 93
          · rw [if_pos h5]
            refine ⟨pH_in h5 (by decide), ?_⟩
            show uV (uV W 41 (pH tn T (o + 1) - 48)) 42 (pH tn T (o + 3) - 48) 43 = W 43
            rw [uV_n (by omega), uV_n (by omega)]
          · rw [if_neg h5] at h
            cases h
        · rw [if_neg h4] at h
          cases h
      · rw [if_neg h3] at h
        cases h
    · rw [if_neg h2] at h
      cases h
  · rw [if_neg h1]
    exact ⟨ho, rfl⟩
theorem pTgs_le : ∀ d n o (W : Nat → Int32), o ≤ tn → (pTgs (pH tn T) (d + 1) o W n).1 = true → (pTgs (pH tn T) (d + 1) o W n).2.1 ≤ tn := by
  intro d
  induction d with
  | zero =>
    intro n o W ho hg
    have hj := pTgt_le (T := T) (W := W) (n := n) ho
    unfold pTgs at hg ⊢
    generalize pTgt (pH tn T) o W n = x at *
    obtain ⟨g, o', W'⟩ := x
    cases g with
    | false => cases hg
    | true =>
      rw [pB_t, if_neg (show ¬ (pH tn T o' = 44 ∧ 0 < 0) from fun q => Nat.lt_irrefl 0 q.2)]
      exact (hj rfl).1
  | succ d ih =>
    intro n o W ho hg
    have hj := pTgt_le (T := T) (W := W) (n := n) ho
    rw [pTgs] at hg ⊢
    generalize pTgt (pH tn T) o W n = x at *
    obtain ⟨g, o', W'⟩ := x
    cases g with
    | false => cases hg
    | true =>
      rw [pB_t] at hg ⊢
      by_cases h44 : pH tn T o' = 44
      · have hlt := pH_in h44 (by decide)
        rw [if_pos ⟨h44, by omega⟩] at hg ⊢
        exact ih (n + 1) (o' + 1) W' hlt hg
      · rw [if_neg (fun q => h44 q.1)]
        exact (hj rfl).1
theorem pOne_le {sg : Int32} {lo hi : Int32} {c : Nat} (h0 : 0 ≤ lo) (ho : o ≤ tn) (h : (pOne (pH tn T) sg lo hi c o W).1 = true) : (pOne (pH tn T) sg lo hi c o W).2.1 ≤ tn := by
  unfold pOne at h ⊢
  by_cases h1 : pH tn T o = sg
  · rw [if_pos h1] at h ⊢
    by_cases h2 : pD (pH tn T) lo hi (o + 1) = true
    · rw [if_pos h2]
      exact pD_in h0 h2
    · rw [if_neg h2] at h
      cases h
  · rw [if_neg h1]
    exact ho
/-- how the reading ends -/
def RE (P : zSt) (rd : Nat) (tt : Nat → Nat) (m0 : zM) (F : Option (Int32 × zM)) (x : zW0) : Prop := ∃ m', F = some (if x.1 = true then -1 else nI x.2.1, m') ∧ CG P rd tt m0 m' x
theorem rd_bad {x : zW0} (h : CG P rd tt m0 m x) (hx : x.1 = false) : RE P rd tt m0 (f_X4_read_b74 P rd m) x := by
  unfold f_X4_read_b74 f_X4_read_b75
  refine ⟨m, ?_, h⟩
  rw [if_pos rfl, h.1, if_neg (by rw [hx]; decide)]
theorem rd_step {x : zW0} {k : Nat → (Nat → Int32) → zW0} {F : zM → Option (Int32 × zM)} {G : zM → Option (Int32 × zM)} (hG : ∃ m', G m = some (bI x.1, m') ∧ CG P rd tt m0 m' x) (hk : x.1 = true → ∀ m', CR P rd tt m0 m' x.2.1 x.2.2 → RE P rd tt m0 (F m') (k x.2.1 x.2.2)) :
    RE P rd tt m0 (zb (G m) fun r m1 => (if r = 0 then f_X4_read_b74 P rd m1 else F m1)) (pB x k) := by
  obtain ⟨m1, a1, a2⟩ := hG
  rw [a1, zb_s]
  dsimp only
  unfold pB
  cases hx : x.1 with
  | false =>
    rw [if_pos bI_f, if_neg (by decide)]
    exact rd_bad a2 hx
  | true =>
    rw [if_neg (by decide), if_pos rfl]
    exact hk hx m1 (a2.cr hx)
theorem rd5 (hd : DF P m0 rd tt) (ht : TxP P m0 (dT P rd) tn T) (hn : tn ≤ 40) (h : CR P rd tt m0 m o W) (ho : o ≤ tn) : RE P rd tt m0 (kR5 P rd m) (pB (pOne (pH tn T) 42 1 4 56 o W) fun o W => pEnd tn o W) := by
  unfold kR5
  refine rd_step (F := fun m50 => zl (zR P 80 rd) fun b61 => (if zf m50 82 rd = zf m50 141 b61 then f_X4_read_b75 P rd 1 m50 else f_X4_read_b74 P rd m50)) (c_most hd ht hn h (by omega)) (fun hg m' h' => ?_)
  have hle := pOne_le (by decide) ho hg
  rw [zl_s, h'.1, (FD.tx hd ht h'.2.2.1).1]
  unfold pEnd
  by_cases e : (pOne (pH tn T) 42 1 4 56 o W).2.1 = tn
  · rw [if_pos (by rw [e]), decide_eq_true e]
    unfold f_X4_read_b75
    rw [if_neg (by decide)]
    exact ⟨m', rfl, h'.g⟩
  · rw [if_neg (by rw [n_inj (by omega) (by omega)]; exact e), decide_eq_false e]
    exact rd_bad h'.b rfl
theorem rd4 (hd : DF P m0 rd tt) (ht : TxP P m0 (dT P rd) tn T) (hn : tn ≤ 40) (h : CR P rd tt m0 m o W) (ho : o ≤ tn) : RE P rd tt m0 (kR4 P rd m) (pB (pOne (pH tn T) 126 0 3 57 o W) fun o W => pB (pOne (pH tn T) 42 1 4 56 o W) fun o W => pEnd tn o W) := by
  unfold kR4
  exact rd_step (c_shadow hd ht hn h (by omega)) (fun hg m' h' => rd5 hd ht hn h' (pOne_le (by decide) ho hg))
theorem rd3 (hd : DF P m0 rd tt) (ht : TxP P m0 (dT P rd) tn T) (hn : tn ≤ 40) (h : CR P rd tt m0 m o W) (ho : o ≤ tn) (h43 : W 43 = nI 0) : RE P rd tt m0 (kR3 P rd m) (pB (pTgs (pH tn T) 3 o W 0) fun o W => pB (pOne (pH tn T) 126 0 3 57 o W) fun o W => pB (pOne (pH tn T) 42 1 4 56 o W) fun o W => pEnd tn o W) := by
  unfold kR3
  exact rd_step (c_targets hd ht hn h ho h43) (fun hg m' h' => rd4 hd ht hn h' (pTgs_le 2 0 o W ho hg))
theorem rd2 (hd : DF P m0 rd tt) (ht : TxP P m0 (dT P rd) tn T) (hn : tn ≤ 40) (h : CR P rd tt m0 m o W) (ho : o ≤ tn) (h43 : W 43 = nI 0) : RE P rd tt m0 (kR2 P rd m) (pB (pEq (pH tn T) o W) fun o W => pB (pTgs (pH tn T) 3 o W 0) fun o W => pB (pOne (pH tn T) 126 0 3 57 o W) fun o W => pB (pOne (pH tn T) 42 1 4 56 o W) fun o W => pEnd tn o W) := by
  unfold kR2
  refine rd_step ?_ (fun hg m' h' => ?_)
  · obtain ⟨m1, a1, a2⟩ := c_readSign hd ht hn h (by omega) (c := 61)
    unfold pEq
    by_cases e : pH tn T o = 61
    · rw [if_pos e] at a2 ⊢
      rw [decide_eq_true e] at a1
      exact ⟨m1, a1, a2.g⟩
    · rw [if_neg e] at a2 ⊢
      rw [decide_eq_false e] at a1
      exact ⟨m1, a1, a2.b⟩
  · unfold pEq at hg h' ⊢
    by_cases e : pH tn T o = 61
    · rw [if_pos e] at h' ⊢
      exact rd3 hd ht hn h' (pH_in e (by decide)) h43
    · rw [if_neg e] at hg
      cases hg
theorem rd1 (hd : DF P m0 rd tt) (ht : TxP P m0 (dT P rd) tn T) (hn : tn ≤ 40) (h : CR P rd tt m0 m o W) (ho : o ≤ tn) (h43 : W 43 = nI 0) : RE P rd tt m0 (kR1 P rd m) (pTail tn T o W) := by
  unfold kR1 pTail
  exact rd_step (c_range hd ht hn h (by omega)) (fun hg m' h' => rd2 hd ht hn h' (pRange_le ho hg).1 (by rw [(pRange_le ho hg).2, h43]))
/-- the class's reading, and what it says -/
theorem c_read (hd : DF P m rd tt) (ht : TxP P m (dT P rd) tn T) (hn : tn ≤ 40) (hT : ∀ k, k < tn → ∃ c, c < 128 ∧ T k = nI c) (A : Nat → Int32) : RE P rd tt m (f_X4_read P rd m) (pRead tn T A) := by
  obtain ⟨m1, a1, a2, a3⟩ := c_rbegin (P := P) (rd := rd) (tt := tt) (m := zfp m 82 rd 0) A
  obtain ⟨z1, z2⟩ := J_zero (tn := tn) (A := A)
  have f1 : FD P rd tt m m1 := Fp.trans (Fp.put (S := cS P rd tt) Fp.rfl' (Or.inl (And.intro rfl rfl))) a3
  have e82 : zf m1 82 rd = nI 0 := by
    have b1 := a1
    unfold f_X3_begin f_X7_clear at b1
    simp only [zl_s, zb_s] at b1
    have b2 := congrArg Prod.snd (Option.some.inj b1)
    dsimp only at b2
    rw [← b2]
    rw [zf_ne (Or.inl (by omega)), zf_ne (Or.inl (by omega)), zf_ne (Or.inl (by omega)), zf_ne (Or.inl (by omega)), zf_ne (Or.inl (by omega)), zf_ne (Or.inl (by omega)), zf_eq]
    rfl
  have cw0 : CW (pW0 A) := by
    have e : ∀ j, j < 58 → j ≠ 42 → j ≠ 56 → j ≠ 57 → pW0 A j = 0 := fun j h h1 h2 h3 => by rw [pW0_at h, if_neg h1, if_neg h2, if_neg h3]
    exact ⟨⟨0, by omega, z2⟩, ⟨0, by omega, e 43 (by omega) (by omega) (by omega) (by omega)⟩, fun t ht => ⟨e _ (by omega) (by omega) (by omega) (by omega), e _ (by omega) (by omega) (by omega) (by omega)⟩⟩
  have c0 : CR P rd tt m m1 0 (pW0 A) := ⟨e82, a2, f1, cw0⟩
  obtain ⟨q1, q2, q3⟩ := J_pre hn hT 40 0 (pW0 A) (by omega) z1 z2
  obtain ⟨m2, p1, p2⟩ := c_pre_l hd ht hn hT 40 0 (pW0 A) zfuel m1 (by omega) (by unfold zfuel; omega) c0 (by omega) z2 z1.2.2.2.2.2.2.2.2.1
  have hat : f_X7_signAt P (zR P 80 rd) 0 m1 = some (pH tn T 0, m1) := c_at (o := 0) hd ht hn f1 (by omega)
  have hpre : f_X4_readPrefix P rd m1 = (if pH tn T 0 = 47 then some (1, m2) else some (0, m1)) := by
    unfold f_X4_readPrefix
    rw [zl_s, hat, zb_s, zbo_0, zgd_t, p1]
  rw [kR_eq, zl_s, zl_s, a1, zb_s]
  dsimp only
  rw [hpre]
  unfold pRead
  by_cases h47 : pH tn T 0 = 47
  · rw [if_pos h47, if_pos h47, zb_s]
    dsimp only
    rw [if_neg (by decide)]
    exact rd1 hd ht hn p2 q1.1 q1.2.2.2.2.2.2.2.2.1
  · rw [if_neg h47, if_neg h47, zb_s]
    dsimp only
    rw [if_pos rfl]
    exact rd_bad c0.b rfl
end PG

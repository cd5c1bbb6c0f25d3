/-! ===== calls: print ===== -/
abbrev zSg : Type := Nat × (Nat → Int32)
def sPut (s : zSg) (c : Int32) : zSg := (s.1 + 1, uV s.2 s.1 c)
def sTwo (s : zSg) (c d : Int32) : zSg := sPut (sPut s c) (48 + d)
def sHd (W : Nat → Int32) (s : zSg) : zSg := if W 41 = 0 ∧ W 42 = 9 then s else sPut (sTwo (sTwo s 91 (W 41)) 45 (W 42)) 93
def sT1 (W : Nat → Int32) (s : zSg) (t : Nat) : zSg := sTwo s (if t = 0 then 61 else 44) (W (44 + 4 * t))
def sTg (W : Nat → Int32) (s : zSg) : Nat → zSg
  | 0 => s
  | t + 1 => if W (44 + 4 * t + 1) = 1 then sT1 W (sTg W s t) t else sTwo (sT1 W (sTg W s t) t) 58 (W (44 + 4 * t + 1))
def sSh (W : Nat → Int32) (s : zSg) : zSg := if W 57 < 0 then s else sTwo s 126 (W 57)
def sMo (W : Nat → Int32) (s : zSg) : zSg := if W 56 = 1 then s else sTwo s 42 (W 56)
theorem sTwo_n {s : zSg} {c d : Int32} : (sTwo s c d).1 = s.1 + 2 := rfl
theorem sHd_n {W : Nat → Int32} {s : zSg} : (sHd W s).1 = s.1 + (if W 41 = 0 ∧ W 42 = 9 then 0 else 5) := by
  unfold sHd
  split <;> rfl
theorem sTg_n {W : Nat → Int32} {s : zSg} : ∀ t, (sTg W s t).1 = s.1 + pL W t := by
  intro t
  induction t with
  | zero => rfl
  | succ t ih =>
    unfold sTg pL
    split
    · show (sTg W s t).1 + 2 = _
      omega
    · show (sTg W s t).1 + 2 + 2 = _
      omega
theorem sSh_n {W : Nat → Int32} {s : zSg} : (sSh W s).1 = s.1 + (if W 57 < 0 then 0 else 2) := by
  unfold sSh
  split <;> rfl
theorem sMo_n {W : Nat → Int32} {s : zSg} : (sMo W s).1 = s.1 + (if W 56 = 1 then 0 else 2) := by
  unfold sMo
  split <;> rfl
/-- a rule's row, as it is printed -/
def PW (W : Nat → Int32) (l n : Nat) : Prop := (l ≤ 40 ∧ W 0 = nI l) ∧ (∃ lo, lo ≤ 9 ∧ W 41 = nI lo) ∧ (∃ hi, hi ≤ 9 ∧ W 42 = nI hi) ∧ (∀ k, k < 40 → ∃ ch, ch < 128 ∧ W (1 + k) = nI ch) ∧ (∃ mo, 1 ≤ mo ∧ mo ≤ 4 ∧ W 56 = nI mo) ∧ (W 57 = -1 ∨ ∃ s, s < 4 ∧ W 57 = nI s) ∧ n ≤ 3 ∧ W 43 = nI n ∧ ∀ t, t < n → (∃ s, s < 4 ∧ W (44 + 4 * t) = nI s) ∧ ∃ w, 1 ≤ w ∧ w ≤ 9 ∧ W (44 + 4 * t + 1) = nI w
def sAll (W : Nat → Int32) (l n : Nat) : zSg := sMo W (sSh W (sTg W (sHd W (l, fun k => W (1 + k))) n))
theorem pL_s {W : Nat → Int32} {t : Nat} : pL W (t + 1) = pL W t + if W (44 + 4 * t + 1) = 1 then 2 else 4 := rfl
theorem pL_mono {W : Nat → Int32} {a b : Nat} (h : a ≤ b) : pL W a ≤ pL W b := by
  induction b with
  | zero =>
    have : a = 0 := by omega
    subst this
    exact Nat.le_refl _
  | succ b ih =>
    by_cases e : a = b + 1
    · subst e
      exact Nat.le_refl _
    · have := ih (by omega)
      rw [pL_s]
      omega
theorem RuA.pw {V : Nat → Int32} {r : Nat} (h : RuA V r) : ∃ l n, PW (fun j => V (231 + 58 * r + j)) l n ∧ (sAll (fun j => V (231 + 58 * r + j)) l n).1 ≤ 40 := by
  obtain ⟨⟨⟨l, l1, l2⟩, ⟨n, n1, n2, n3, n4⟩, h56⟩, h41, h42, hch, hw, h57, hl⟩ := h
  have hpl : ∀ t, pL (fun j => V (231 + 58 * r + j)) t = prL V r t := by
    intro t
    induction t with
    | zero => rfl
    | succ t ih =>
      unfold pL prL
      rw [ih]
      have : V (231 + 58 * r + (44 + 4 * t + 1)) = V (231 + 58 * r + 44 + 4 * t + 1) := congrArg V (by omega)
      rw [this]
  refine ⟨l, n, ⟨⟨l1, l2⟩, h41, h42, fun k hk => ?_, h56, h57, n2, n3, fun t ht => ⟨?_, ?_⟩⟩, ?_⟩
  · obtain ⟨c, c1, c2⟩ := hch k hk
    exact ⟨c, c1, by rw [← c2]; exact congrArg V (by omega)⟩
  · obtain ⟨s, s1, s2⟩ := n4 t ht
    exact ⟨s, s1, by rw [← s2]; exact congrArg V (by omega)⟩
  · obtain ⟨w, w1, w2, w3⟩ := hw t (by rw [n3, n_nat (by omega)]; exact ht)
    exact ⟨w, w1, w2, by rw [← w3]; exact congrArg V (by omega)⟩
  · unfold sAll
    rw [sMo_n, sSh_n, sTg_n, sHd_n, hpl]
    unfold prN at hl
    rw [l2, n3, n_nat (by omega), n_nat (by omega)] at hl
    exact hl
section PP
variable {own : Nat → Nat} {P : zSt} {m m' m0 m1 : zM} {x y B B' u N R p q : Nat} {g : zGr} {V V' W : Nat → Int32} {sv mk : Bool} {Vs Vm T Q : Nat → Int32} {tn pn k l n : Nat} {it : zIt} {s : zSg} {tt : Nat → Nat}
abbrev PF (P : zSt) (p : Nat) (m m' : zM) : Prop := Fp (fun f a => f = 141 ∧ a = p) (fun a _ => a = zR P 140 p) m m'
/-- what a rule object says, where it is printed from -/
def Rd (P : zSt) (m : zM) (q : Nat) (tt : Nat → Nat) (W : Nat → Int32) (n : Nat) : Prop := zf m 61 q = W 41 ∧ zf m 62 q = W 42 ∧ zf m 64 q = W 43 ∧ zf m 65 q = W 56 ∧ zf m 66 q = W 57 ∧ ∀ t, t < n → zr m (zR P 63 q) t = tt t ∧ zf m 123 (tt t) = W (44 + 4 * t) ∧ zf m 120 (tt t) = W (44 + 4 * t + 1)
theorem Rd.pf (h : Rd P m q tt W n) (f : PF P p m m') : Rd P m' q tt W n := by
  obtain ⟨h1, h2, h3, h4, h5, h6⟩ := h
  have e : ∀ i a, i ≠ 141 → zf m' i a = zf m i a := fun i a hi => f.2.1 i a (fun z => hi z.1)
  refine ⟨by rw [e _ _ (by decide), h1], by rw [e _ _ (by decide), h2], by rw [e _ _ (by decide), h3], by rw [e _ _ (by decide), h4], by rw [e _ _ (by decide), h5], fun t ht => ?_⟩
  obtain ⟨a1, a2, a3⟩ := h6 t ht
  refine ⟨?_, by rw [e _ _ (by decide), a2], by rw [e _ _ (by decide), a3]⟩
  unfold zr at a1 ⊢
  rw [f.1]
  exact a1
def Tx (P : zSt) (m : zM) (p : Nat) (s : zSg) : Prop := TxP P m p s.1 s.2
theorem c_put1 (hl : zlen P (zR P 140 p) = 40) (h : Tx P m p s) (hn : s.1 < 40) {c : Nat} (hc : c < 128) : ∃ m', f_X7_put P p (nI c) m = some (0, m') ∧ Tx P m' p (sPut s (nI c)) ∧ PF P p m m' := c_putT h hn hl hc
theorem c_dig (hl : zlen P (zR P 140 p) = 40) (h : Tx P m p s) (hn : s.1 < 40) {d : Nat} (hd : d ≤ 9) : ∃ m', f_X7_putDigit P p (nI d) m = some (0, m') ∧ Tx P m' p (sPut s (48 + nI d)) ∧ PF P p m m' := by
  have e : (48 : Int32) + nI d = nI (48 + d) := n_add 48 d
  obtain ⟨m1, a1, a2, a3⟩ := c_put1 hl h hn (c := 48 + d) (by omega)
  unfold f_X7_putDigit
  rw [e, a1, zb_s]
  exact ⟨m1, rfl, a2, a3⟩
theorem c_two (hl : zlen P (zR P 140 p) = 40) (h : Tx P m p s) (hn : s.1 + 2 ≤ 40) {c d : Nat} (hc : c < 128) (hd : d ≤ 9) : ∃ m1 m2, f_X7_put P p (nI c) m = some (0, m1) ∧ f_X7_putDigit P p (nI d) m1 = some (0, m2) ∧ Tx P m2 p (sTwo s (nI c) (nI d)) ∧ PF P p m m1 ∧ PF P p m m2 := by
  obtain ⟨m1, a1, a2, a3⟩ := c_put1 hl h (by omega) hc
  obtain ⟨m2, b1, b2, b3⟩ := c_dig hl a2 (show s.1 + 1 < 40 by omega) hd
  exact ⟨m1, m2, a1, b1, b2, a3, a3.trans b3⟩
theorem c_prMo (hW : PW W l n) (hl : zlen P (zR P 140 p) = 40) (hR : Rd P m q tt W n) (h : Tx P m p s) (hn : (sMo W s).1 ≤ 40) : ∃ m', f_X3_printTo_b160 P q p m = some (0, m') ∧ Tx P m' p (sMo W s) ∧ PF P p m m' := by
  obtain ⟨mo, m1', m2', e56⟩ := hW.2.2.2.2.1
  unfold f_X3_printTo_b160
  rw [sMo_n] at hn
  unfold sMo
  rw [hR.2.2.2.1]
  by_cases e : W 56 = 1
  · rw [if_pos e, if_pos e]
    exact ⟨m, rfl, h, Fp.rfl'⟩
  · rw [if_neg e] at hn ⊢
    rw [if_neg e]
    obtain ⟨m1, m2, a1, a2, a3, a4, a5⟩ := c_two hl h (by omega) (c := 42) (d := mo) (by omega) (by omega)
    have a1' : f_X7_put P p 42 m = some (0, m1) := a1
    rw [a1', zb_s]
    dsimp only
    rw [(hR.pf a4).2.2.2.1, e56, a2, zb_s]
    exact ⟨m2, rfl, a3, a5⟩
theorem c_prT_l (hW : PW W l n) (hl : zlen P (zR P 140 p) = 40) (h3 : zlen P (zR P 63 q) = 3) (hs : (sMo W (sSh W (sTg W s n))).1 ≤ 40) : ∀ d t fu (m : zM), t + d = n → d < fu → Rd P m q tt W n → Tx P m p (sTg W s t) → ∃ m', f_X3_printTo_b64 P fu q p (nI t) m = some (0, m') ∧ Tx P m' p (sMo W (sSh W (sTg W s n))) ∧ PF P p m m' := by
  intro d
  have hs' := hs
  rw [sMo_n, sSh_n, sTg_n] at hs'
  have hn3 := hW.2.2.2.2.2.2.1
  have e43 := hW.2.2.2.2.2.2.2.1
  induction d with
  | zero =>
    intro t fu m ht hfu hR h
    obtain ⟨fu, rfl⟩ : ∃ f, fu = f + 1 := ⟨fu - 1, by omega⟩
    have : t = n := by omega
    subst this
    unfold f_X3_printTo_b64
    rw [hR.2.2.1, e43, if_pos (Int32.le_refl _), hR.2.2.2.2.1]
    rcases hW.2.2.2.2.2.1 with e57 | ⟨sh, s1, e57⟩
    · rw [if_pos e57]
      have es : sSh W (sTg W s t) = sTg W s t := by
        unfold sSh
        rw [if_pos (by rw [e57]; decide)]
      rw [es] at hs ⊢
      exact c_prMo hW hl hR h hs
    · have hge : ¬ W 57 < 0 := by
        rw [e57]
        exact nI_pos (by omega)
      have es : sSh W (sTg W s t) = sTwo (sTg W s t) 126 (W 57) := by
        unfold sSh
        rw [if_neg hge]
      rw [if_neg hge] at hs'
      rw [if_neg (by rw [e57]; exact nI_nm (by omega))]
      obtain ⟨m1, m2, a1, a2, a3, a4, a5⟩ := c_two hl h (by rw [sTg_n]; omega) (c := 126) (d := sh) (by omega) (by omega)
      have a1' : f_X7_put P p 126 m = some (0, m1) := a1
      rw [a1', zb_s]
      dsimp only
      rw [(hR.pf a4).2.2.2.2.1, e57, a2, zb_s]
      rw [es, e57] at hs ⊢
      obtain ⟨m3, b1, b2, b3⟩ := c_prMo hW hl (hR.pf a5) a3 hs
      exact ⟨m3, b1, b2, a5.trans b3⟩
  | succ d ih =>
    intro t fu m ht hfu hR h
    obtain ⟨fu, rfl⟩ : ∃ f, fu = f + 1 := ⟨fu - 1, by omega⟩
    have htn : t < n := by omega
    have hpl : pL W (t + 1) ≤ pL W n := pL_mono (by omega)
    obtain ⟨⟨sv', s1, s2⟩, w, w1, w2, w3⟩ := hW.2.2.2.2.2.2.2.2 t htn
    have main : ∀ c : Nat, c < 128 → nI c = (if t = 0 then 61 else 44) → ∃ m', f_X3_printTo_b84 P (f_X3_printTo_b64 P fu) q p (nI t) (nI c) p m = some (0, m') ∧ Tx P m' p (sMo W (sSh W (sTg W s n))) ∧ PF P p m m' := by
      intro c hc ec
      have hlen : s.1 + pL W t + 2 + (if W (44 + 4 * t + 1) = 1 then 0 else 2) ≤ 40 := by
        rw [pL_s] at hpl
        split at hpl
        · rw [if_pos (by assumption)]
          omega
        · rw [if_neg (by assumption)]
          omega
      obtain ⟨m1, m2, a1, a2, a3, a4, a5⟩ := c_two hl h (by rw [sTg_n]; omega) (c := c) (d := sv') hc (by omega)
      rw [ec] at a3
      have hs1 : Tx P m2 p (sT1 W (sTg W s t) t) := by
        unfold sT1
        rw [s2]
        exact a3
      obtain ⟨r1, r2, r3⟩ := (hR.pf a4).2.2.2.2.2 t htn
      obtain ⟨r4, r5, r6⟩ := (hR.pf a5).2.2.2.2.2 t htn
      unfold f_X3_printTo_b84
      rw [a1, zb_s, zl_s, h3, zin_3 (by omega), zgd_t, n_nat (by omega)]
      dsimp only
      rw [r1, zl_s, r2, s2, a2, zb_s, zl_s, h3, zin_3 (by omega), zgd_t]
      dsimp only
      rw [r4, zl_s, r6]
      unfold f_X3_printTo_b132
      by_cases e : W (44 + 4 * t + 1) = 1
      · rw [if_pos e, zl_s, nI_1]
        have hs2 : Tx P m2 p (sTg W s (t + 1)) := by
          show Tx P m2 p (if W (44 + 4 * t + 1) = 1 then sT1 W (sTg W s t) t else sTwo (sT1 W (sTg W s t) t) 58 (W (44 + 4 * t + 1)))
          rw [if_pos e]
          exact hs1
        obtain ⟨m3, b1, b2, b3⟩ := ih (t + 1) fu m2 (by omega) (by omega) (hR.pf a5) hs2
        exact ⟨m3, b1, b2, a5.trans b3⟩
      · rw [if_neg e] at hlen
        obtain ⟨m3, m4, c1, c2, c3, c4, c5⟩ := c_two hl hs1 (by show (sTg W s t).1 + 2 + 2 ≤ 40; rw [sTg_n]; omega) (c := 58) (d := w) (by omega) (by omega)
        have c1' : f_X7_put P p 58 m2 = some (0, m3) := c1
        obtain ⟨v1, v2, v3⟩ := ((hR.pf a5).pf c4).2.2.2.2.2 t htn
        rw [if_neg e, c1', zb_s, zl_s, h3, zin_3 (by omega), zgd_t]
        dsimp only
        rw [v1, zl_s, v3, w3, c2, zb_s, zl_s, nI_1]
        have hs2 : Tx P m4 p (sTg W s (t + 1)) := by
          show Tx P m4 p (if W (44 + 4 * t + 1) = 1 then sT1 W (sTg W s t) t else sTwo (sT1 W (sTg W s t) t) 58 (W (44 + 4 * t + 1)))
          rw [if_neg e, w3]
          exact c3
        obtain ⟨m5, b1, b2, b3⟩ := ih (t + 1) fu m4 (by omega) (by omega) ((hR.pf a5).pf c5) hs2
        exact ⟨m5, b1, b2, (a5.trans c5).trans b3⟩
    unfold f_X3_printTo_b64
    rw [hR.2.2.1, e43, if_neg (by rw [n_le (by omega) (by omega)]; omega)]
    by_cases e0 : t = 0
    · subst e0
      rw [if_pos (show nI 0 = 0 from rfl)]
      exact main 61 (by omega) rfl
    · rw [if_neg (show ¬ nI t = 0 from fun z => e0 ((n_inj (b := 0) (by omega) (by omega)).mp z))]
      exact main 44 (by omega) (by rw [if_neg e0]; rfl)
theorem c_printTo (hW : PW W l n) (hs : (sAll W l n).1 ≤ 40) (hl : zlen P (zR P 140 p) = 40) (h3 : zlen P (zR P 63 q) = 3) (hR : Rd P m q tt W n) (hlq : zlen P (zR P 140 (zR P 60 q)) = 40) (hx : TxP P m (zR P 60 q) l (fun k => W (1 + k))) (hpq : zR P 60 q ≠ p) (hzq : zR P 140 (zR P 60 q) ≠ zR P 140 p) : ∃ m', f_X3_printTo P q p m = some (0, m') ∧ Tx P m' p (sAll W l n) ∧ PF P p m m' := by
  have hW0 := hW
  obtain ⟨⟨l1, l2⟩, ⟨lo, lo1, lo2⟩, ⟨hi, hi1, hi2⟩, hch, -, -, hn3, -⟩ := hW
  have f0 : PF P p m (zfp m 141 p 0) := Fp.put (S := fun f a => f = 141 ∧ a = p) Fp.rfl' (And.intro rfl rfl)
  have hs' := hs
  unfold sAll at hs'
  rw [sMo_n, sSh_n, sTg_n, sHd_n] at hs'
  dsimp only at hs'
  obtain ⟨m1, p1, p2, p3⟩ := c_putAll (m := zfp m 141 p 0) (t := p) (n := 0) (w := fun _ => 0) ⟨zf_eq, by intro k hk; omega⟩ hl (by omega) (p := zR P 60 q) (l := l) (v := fun k => W (1 + k)) ⟨by rw [zf_ne (Or.inr hpq)]; exact hx.1, hx.2⟩ hlq (fun k hk => hch k (by omega)) hpq hzq
  have hT : Tx P m1 p (l, fun k => W (1 + k)) := by
    obtain ⟨q1, q2⟩ := p2
    refine ⟨by rw [q1, Nat.zero_add], fun k hk => ?_⟩
    rw [q2 k (by dsimp only at hk; omega)]
    unfold sCat
    rw [if_neg (by omega)]
    rfl
  have f1 : PF P p m m1 := f0.trans p3
  have hR1 := hR.pf f1
  unfold f_X3_printTo
  rw [c_clearT, zb_s, zl_s, p1, zb_s]
  dsimp only
  unfold f_X3_printTo_b28 f_X3_printTo_b62
  rw [hR1.1, hR1.2.1]
  have go : ∀ m2 s, PF P p m m2 → Tx P m2 p s → sHd W (l, fun k => W (1 + k)) = s → ∃ m', f_X3_printTo_b64 P zfuel q p 0 m2 = some (0, m') ∧ Tx P m' p (sAll W l n) ∧ PF P p m m' := by
    intro m2 s f2 h2 es
    have hs2 := hs
    unfold sAll at hs2 ⊢
    rw [es] at hs2 ⊢
    obtain ⟨m3, a1, a2, a3⟩ := c_prT_l hW0 hl h3 hs2 n 0 zfuel m2 (by omega) (by unfold zfuel; omega) (hR.pf f2) h2
    exact ⟨m3, a1, a2, f2.trans a3⟩
  have go2 : ¬ (W 41 = 0 ∧ W 42 = 9) → ∃ m', (zb (f_X7_put P p 91 m1) fun _ m31 => zb (f_X7_putDigit P p (zf m31 61 q) m31) fun _ m39 => zb (f_X7_put P p 45 m39) fun _ m45 => zb (f_X7_putDigit P p (zf m45 62 q) m45) fun _ m53 => zb (f_X7_put P p 93 m53) fun _ m59 => f_X3_printTo_b64 P zfuel q p 0 m59) = some (0, m') ∧ Tx P m' p (sAll W l n) ∧ PF P p m m' := by
    intro hne
    rw [if_neg hne] at hs'
    obtain ⟨m2, m3, a1, a2, a3, a4, a5⟩ := c_two hl hT (show l + 2 ≤ 40 by omega) (c := 91) (d := lo) (by omega) (by omega)
    obtain ⟨m4, m5, b1, b2, b3, b4, b5⟩ := c_two hl a3 (show l + 2 + 2 ≤ 40 by omega) (c := 45) (d := hi) (by omega) (by omega)
    obtain ⟨m6, c1, c2, c3⟩ := c_put1 hl b3 (show l + 2 + 2 < 40 by omega) (c := 93) (by omega)
    have a1' : f_X7_put P p 91 m1 = some (0, m2) := a1
    have b1' : f_X7_put P p 45 m3 = some (0, m4) := b1
    have c1' : f_X7_put P p 93 m5 = some (0, m6) := c1
    rw [a1', zb_s]
    dsimp only
    rw [(hR1.pf a4).1, lo2, a2, zb_s]
    dsimp only
    rw [b1', zb_s]
    dsimp only
    rw [((hR1.pf a5).pf b4).2.1, hi2, b2, zb_s]
    dsimp only
    rw [c1', zb_s]
    dsimp only
    refine go m6 _ ((f1.trans a5).trans (b5.trans c3)) c2 ?_
    unfold sHd
    rw [if_neg hne, lo2, hi2]
    rfl
  by_cases h41 : W 41 = 0
  · rw [if_pos h41]
    by_cases h42 : W 42 = 9
    · rw [if_pos h42]
      refine go m1 _ f1 hT ?_
      unfold sHd
      rw [if_pos ⟨h41, h42⟩]
    · rw [if_neg h42]
      exact go2 (fun z => h42 z.2)
  · rw [if_neg h41]
    exact go2 (fun z => h41 z.1)
/-- the reference's printed text -/
def Wr (P : zSt) (y : Nat) (m : zM) (s : zSg) : Prop := zf m 212 y = nI s.1 ∧ ∀ i, i < s.1 → za m (zR P 211 y) i = s.2 i
abbrev QF (P : zSt) (y : Nat) (m m' : zM) : Prop := Fp (fun f a => f = 212 ∧ a = y) (fun a _ => a = zR P 211 y) m m'
theorem QF.v (ok : yOK P y) (f : QF P y m m') : za m' (yv P y) = za m (yv P y) := by
  funext i
  exact f.2.2 _ _ (yne ok (by decide) (by decide) (by decide))
theorem r_prints (ok : yOK P y) (h : Wr P y m s) (hn : s.1 < 80) {c : Int32} : ∃ m', f_X11_prints P y c m = some (0, m') ∧ Wr P y m' (sPut s c) ∧ QF P y m m' := by
  have l211 := ok.2.2.2.2.2.2.2.1
  have e : zf (zap m (zR P 211 y) s.1 c) 212 y = nI s.1 := h.1
  unfold f_X11_prints
  rw [zl_s, h.1, l211, zin_n (by omega) hn, zgd_t, n_nat (by omega), zl_s, e, nI_1, zl_s]
  refine ⟨_, rfl, ⟨zf_eq, fun i hi => ?_⟩, Fp.put (S := fun f a => f = 212 ∧ a = y) (Fp.pua (A := fun a _ => a = zR P 211 y) Fp.rfl' rfl) (And.intro rfl rfl)⟩
  show za (zap m (zR P 211 y) s.1 c) (zR P 211 y) i = uV s.2 s.1 c i
  by_cases ei : i = s.1
  · rw [ei, za_eq, uV_s]
  · have hi' : i < s.1 + 1 := hi
    rw [za_ne (Or.inr ei), uV_n ei]
    exact h.2 i (by omega)
theorem r_two (ok : yOK P y) (h : Wr P y m s) (hn : s.1 + 2 ≤ 80) {c d : Int32} : ∃ m', f_X11_printsTwo P y c d m = some (0, m') ∧ Wr P y m' (sTwo s c d) ∧ QF P y m m' := by
  obtain ⟨m1, a1, a2, a3⟩ := r_prints ok h (show s.1 < 80 by omega) (c := c)
  obtain ⟨m2, b1, b2, b3⟩ := r_prints ok a2 (show s.1 + 1 < 80 by omega) (c := 48 + d)
  unfold f_X11_printsTwo
  rw [a1, zb_s]
  dsimp only
  rw [b1, zb_s]
  exact ⟨m2, rfl, b2, a3.trans b3⟩
theorem r_prMo (ok : yOK P y) {r : Nat} (hr : r < 8) (hV : za m (yv P y) = V) (hW : PW (fun j => V (231 + 58 * r + j)) l n) (h : Wr P y m s) (hn : (sMo (fun j => V (231 + 58 * r + j)) s).1 ≤ 40) : ∃ m', f_X11_print_b234 P y (nI (231 + 58 * r)) m = some (nI (sMo (fun j => V (231 + 58 * r + j)) s).1, m') ∧ Wr P y m' (sMo (fun j => V (231 + 58 * r + j)) s) ∧ QF P y m m' := by
  obtain ⟨mo, o1, o2, e56⟩ := hW.2.2.2.2.1
  dsimp only at e56
  have i56 : nI (231 + 58 * r) + 56 = nI (231 + 58 * r + 56) := n_add _ 56
  rw [sMo_n] at hn
  have eq : sMo (fun j => V (231 + 58 * r + j)) s = if nI mo = 1 then s else sTwo s 42 (nI mo) := by
    unfold sMo
    by_cases q : nI mo = 1
    · rw [if_pos q, if_pos (show V (231 + 58 * r + 56) = 1 from e56.trans q)]
    · rw [if_neg q, if_neg (show ¬ V (231 + 58 * r + 56) = 1 from fun z => q (e56.symm.trans z)), ← e56]
  rw [e56] at hn
  rw [eq]
  unfold f_X11_print_b234 f_X11_print_b262
  rw [zl_s, i56, ok.1, zin_v (by omega), zgd_t, nat_v (by omega), hV, e56]
  by_cases e : nI mo = 1
  · rw [if_pos (by rw [e]; decide), if_pos e, h.1]
    exact ⟨m, rfl, h, Fp.rfl'⟩
  · have hmo : 2 ≤ mo := by
      rcases Nat.lt_or_ge mo 2 with q | q
      · exact absurd (show nI mo = 1 by rw [show mo = 1 by omega]; rfl) e
      · exact q
    rw [if_neg e] at hn ⊢
    rw [if_neg (show ¬ nI mo ≤ 1 from fun q => by have := (n_le (b := 1) (by omega) (by omega)).mp q; omega), zl_s, ok.1, zin_v (by omega), zgd_t, show za m (zR P 200 y) = V from hV, e56]
    obtain ⟨m1, a1, a2, a3⟩ := r_two ok h (show s.1 + 2 ≤ 80 by omega) (c := 42) (d := nI mo)
    rw [a1, zb_s, a2.1]
    exact ⟨m1, rfl, a2, a3⟩
theorem r_prT_l (ok : yOK P y) {r : Nat} (hr : r < 8) (hW : PW (fun j => V (231 + 58 * r + j)) l n) (hs : (sMo (fun j => V (231 + 58 * r + j)) (sSh (fun j => V (231 + 58 * r + j)) (sTg (fun j => V (231 + 58 * r + j)) s n))).1 ≤ 40) : ∀ d t fu (m : zM), t + d = n → d < fu → za m (yv P y) = V → Wr P y m (sTg (fun j => V (231 + 58 * r + j)) s t) →
    ∃ m', f_X11_print_b120 P fu y (nI (231 + 58 * r)) (nI t) m = some (nI (sMo (fun j => V (231 + 58 * r + j)) (sSh (fun j => V (231 + 58 * r + j)) (sTg (fun j => V (231 + 58 * r + j)) s n))).1, m') ∧ Wr P y m' (sMo (fun j => V (231 + 58 * r + j)) (sSh (fun j => V (231 + 58 * r + j)) (sTg (fun j => V (231 + 58 * r + j)) s n))) ∧ QF P y m m' := by
  intro d
  have hs' := hs
  rw [sMo_n, sSh_n, sTg_n] at hs'
  have hn3 := hW.2.2.2.2.2.2.1
  have e43 : V (231 + 58 * r + 43) = nI n := hW.2.2.2.2.2.2.2.1
  have i43 : nI (231 + 58 * r) + 43 = nI (231 + 58 * r + 43) := n_add _ 43
  have i57 : nI (231 + 58 * r) + 57 = nI (231 + 58 * r + 57) := n_add _ 57
  induction d with
  | zero =>
    intro t fu m ht hfu hV h
    obtain ⟨fu, rfl⟩ : ∃ f, fu = f + 1 := ⟨fu - 1, by omega⟩
    have : t = n := by omega
    subst this
    unfold f_X11_print_b120
    rw [zl_s, i43, ok.1, zin_v (by omega), zgd_t, nat_v (by omega), hV, e43, if_pos (Int32.le_refl _), zl_s, i57, ok.1, zin_v (by omega), zgd_t, nat_v (by omega), hV]
    by_cases hlt : V (231 + 58 * r + 57) < 0
    · have es : ∀ s, sSh (fun j => V (231 + 58 * r + j)) s = s := fun s => if_pos hlt
      rw [if_pos hlt]
      rw [es] at hs ⊢
      exact r_prMo ok hr hV hW h hs
    · have es : ∀ s, sSh (fun j => V (231 + 58 * r + j)) s = sTwo s 126 (V (231 + 58 * r + 57)) := fun s => if_neg hlt
      rw [if_neg hlt] at hs'
      rw [if_neg hlt, zl_s, ok.1, zin_v (by omega), zgd_t, show za m (zR P 200 y) = V from hV]
      obtain ⟨m1, a1, a2, a3⟩ := r_two ok h (by rw [sTg_n]; omega) (c := 126) (d := V (231 + 58 * r + 57))
      rw [a1, zb_s]
      rw [es] at hs ⊢
      obtain ⟨m2, b1, b2, b3⟩ := r_prMo ok hr (by rw [a3.v ok, hV]) hW a2 hs
      exact ⟨m2, b1, b2, a3.trans b3⟩
  | succ d ih =>
    intro t fu m ht hfu hV h
    obtain ⟨fu, rfl⟩ : ∃ f, fu = f + 1 := ⟨fu - 1, by omega⟩
    have htn : t < n := by omega
    have hpl : pL (fun j => V (231 + 58 * r + j)) (t + 1) ≤ pL (fun j => V (231 + 58 * r + j)) n := pL_mono (by omega)
    obtain ⟨-, w, w1, w2, w3⟩ := hW.2.2.2.2.2.2.2.2 t htn
    dsimp only at w3
    have ia : nI (231 + 58 * r) + 44 + 4 * nI t = nI (231 + 58 * r + (44 + 4 * t)) := by
      simp only [nlit, n_mul, n_add]
      congr 1
      omega
    have ib : nI (231 + 58 * r + (44 + 4 * t)) + 1 = nI (231 + 58 * r + (44 + 4 * t + 1)) := n_add _ 1
    have main : ∀ c : Int32, c = (if t = 0 then 61 else 44) → ∃ m', f_X11_print_b145 P (f_X11_print_b120 P fu) y (nI (231 + 58 * r)) (nI t) c y m = some (nI (sMo (fun j => V (231 + 58 * r + j)) (sSh (fun j => V (231 + 58 * r + j)) (sTg (fun j => V (231 + 58 * r + j)) s n))).1, m') ∧ Wr P y m' (sMo (fun j => V (231 + 58 * r + j)) (sSh (fun j => V (231 + 58 * r + j)) (sTg (fun j => V (231 + 58 * r + j)) s n))) ∧ QF P y m m' := by
      intro c ec
      have hlen : s.1 + pL (fun j => V (231 + 58 * r + j)) t + 2 + (if V (231 + 58 * r + (44 + 4 * t + 1)) = 1 then 0 else 2) ≤ 40 := by
        rw [pL_s] at hpl
        split at hpl
        · rw [if_pos (by assumption)]
          omega
        · rw [if_neg (by assumption)]
          omega
      obtain ⟨m1, a1, a2, a3⟩ := r_two ok h (by rw [sTg_n]; omega) (c := c) (d := V (231 + 58 * r + (44 + 4 * t)))
      have hV1 : za m1 (zR P 200 y) = V := by
        rw [← hV]
        exact a3.v ok
      rw [ec] at a2
      have hs1 : Wr P y m1 (sT1 (fun j => V (231 + 58 * r + j)) (sTg (fun j => V (231 + 58 * r + j)) s t) t) := a2
      unfold f_X11_print_b145 f_X11_print_b201
      rw [zl_s, ia, ok.1, zin_v (by omega), zgd_t, nat_v (by omega), hV, a1, zb_s, zl_s, ib, ok.1, zin_v (by omega), zgd_t, nat_v (by omega)]
      dsimp only
      rw [hV1, w3]
      by_cases e : nI w = 1
      · rw [if_pos (by rw [e]; decide), zl_s, nI_1]
        have hs2 : Wr P y m1 (sTg (fun j => V (231 + 58 * r + j)) s (t + 1)) := by
          show Wr P y m1 (if V (231 + 58 * r + (44 + 4 * t + 1)) = 1 then _ else _)
          rw [if_pos (by rw [w3, e])]
          exact hs1
        obtain ⟨m3, b1, b2, b3⟩ := ih (t + 1) fu m1 (by omega) (by omega) hV1 hs2
        exact ⟨m3, b1, b2, a3.trans b3⟩
      · have hw2 : 2 ≤ w := by
          rcases Nat.lt_or_ge w 2 with q | q
          · exact absurd (show nI w = 1 by rw [show w = 1 by omega]; rfl) e
          · exact q
        rw [w3, if_neg e] at hlen
        obtain ⟨m2, c1, c2, c3⟩ := r_two ok hs1 (by show (sTg (fun j => V (231 + 58 * r + j)) s t).1 + 2 + 2 ≤ 80; rw [sTg_n]; omega) (c := 58) (d := nI w)
        have hV2 : za m2 (zR P 200 y) = V := by
          rw [← hV1]
          exact c3.v ok
        rw [if_neg (show ¬ nI w ≤ 1 from fun q => by have := (n_le (b := 1) (by omega) (by omega)).mp q; omega), zl_s, ok.1, zin_v (by omega), zgd_t, hV1, w3, c1, zb_s, zl_s, nI_1]
        have hs2 : Wr P y m2 (sTg (fun j => V (231 + 58 * r + j)) s (t + 1)) := by
          show Wr P y m2 (if V (231 + 58 * r + (44 + 4 * t + 1)) = 1 then _ else sTwo _ 58 (V (231 + 58 * r + (44 + 4 * t + 1))))
          rw [w3, if_neg e]
          exact c2
        obtain ⟨m3, b1, b2, b3⟩ := ih (t + 1) fu m2 (by omega) (by omega) hV2 hs2
        exact ⟨m3, b1, b2, (a3.trans c3).trans b3⟩
    unfold f_X11_print_b120
    rw [zl_s, i43, ok.1, zin_v (by omega), zgd_t, nat_v (by omega), hV, e43, if_neg (by rw [n_le (by omega) (by omega)]; omega)]
    by_cases e0 : t = 0
    · subst e0
      rw [if_pos (show nI 0 = 0 from rfl)]
      exact main 61 rfl
    · rw [if_neg (show ¬ nI t = 0 from fun z => e0 ((n_inj (b := 0) (by omega) (by omega)).mp z))]
      exact main 44 (by rw [if_neg e0])
theorem r_print_l (ok : yOK P y) {r : Nat} (hr : r < 8) (hW : PW (fun j => V (231 + 58 * r + j)) l n) (hs : (sAll (fun j => V (231 + 58 * r + j)) l n).1 ≤ 40) : ∀ d k fu (m : zM), k + d = l → d < fu → za m (yv P y) = V → Wr P y m (k, fun j => V (231 + 58 * r + (1 + j))) →
    ∃ m', f_X11_print_b26 P fu y (nI (231 + 58 * r)) (nI k) m = some (nI (sAll (fun j => V (231 + 58 * r + j)) l n).1, m') ∧ Wr P y m' (sAll (fun j => V (231 + 58 * r + j)) l n) ∧ QF P y m m' := by
  intro d
  have hs' := hs
  unfold sAll at hs'
  rw [sMo_n, sSh_n, sTg_n, sHd_n] at hs'
  dsimp only at hs'
  obtain ⟨lo, lo1, lo2⟩ := hW.2.1
  obtain ⟨hi, hi1, hi2⟩ := hW.2.2.1
  dsimp only at lo2 hi2
  have hn3 := hW.2.2.2.2.2.2.1
  have e0 : V (231 + 58 * r) = nI l := hW.1.2
  have i41 : nI (231 + 58 * r) + 41 = nI (231 + 58 * r + 41) := n_add _ 41
  have i42 : nI (231 + 58 * r) + 42 = nI (231 + 58 * r + 42) := n_add _ 42
  induction d with
  | zero =>
    intro k fu m hk hfu hV h
    obtain ⟨fu, rfl⟩ : ∃ f, fu = f + 1 := ⟨fu - 1, by omega⟩
    have : k = l := by omega
    subst this
    have go : ∀ m2 s, QF P y m m2 → Wr P y m2 s → sHd (fun j => V (231 + 58 * r + j)) (k, fun j => V (231 + 58 * r + (1 + j))) = s → ∃ m', f_X11_print_b120 P zfuel y (nI (231 + 58 * r)) 0 m2 = some (nI (sAll (fun j => V (231 + 58 * r + j)) k n).1, m') ∧ Wr P y m' (sAll (fun j => V (231 + 58 * r + j)) k n) ∧ QF P y m m' := by
      intro m2 s f2 h2 es
      have hs2 := hs
      unfold sAll at hs2 ⊢
      dsimp only at hs2 ⊢
      rw [es] at hs2 ⊢
      obtain ⟨m3, a1, a2, a3⟩ := r_prT_l ok hr hW hs2 n 0 zfuel m2 (by omega) (by unfold zfuel; omega) (by rw [f2.v ok, hV]) h2
      exact ⟨m3, a1, a2, f2.trans a3⟩
    have go2 : ¬ (V (231 + 58 * r + 41) = 0 ∧ V (231 + 58 * r + 42) = 9) → ∃ m', f_X11_print_b82 P y (nI (231 + 58 * r)) m = some (nI (sAll (fun j => V (231 + 58 * r + j)) k n).1, m') ∧ Wr P y m' (sAll (fun j => V (231 + 58 * r + j)) k n) ∧ QF P y m m' := by
      intro hne
      rw [if_neg hne] at hs'
      obtain ⟨m2, a1, a2, a3⟩ := r_two ok h (show k + 2 ≤ 80 by omega) (c := 91) (d := V (231 + 58 * r + 41))
      have hV2 : za m2 (zR P 200 y) = V := by
        rw [← hV]
        exact a3.v ok
      obtain ⟨m3, b1, b2, b3⟩ := r_two ok a2 (show k + 2 + 2 ≤ 80 by omega) (c := 45) (d := V (231 + 58 * r + 42))
      obtain ⟨m4, c1, c2, c3⟩ := r_prints ok b2 (show k + 2 + 2 < 80 by omega) (c := 93)
      unfold f_X11_print_b82 f_X11_print_b118
      rw [zl_s, i41, ok.1, zin_v (by omega), zgd_t, nat_v (by omega), hV, a1, zb_s, zl_s, i42, ok.1, zin_v (by omega), zgd_t, nat_v (by omega)]
      dsimp only
      rw [hV2, b1, zb_s]
      dsimp only
      rw [c1, zb_s]
      dsimp only
      refine go m4 _ (a3.trans (b3.trans c3)) c2 ?_
      unfold sHd
      dsimp only
      rw [if_neg hne]
    unfold f_X11_print_b26
    rw [zl_s, ok.1, zin_v (by omega), zgd_t, nat_v (by omega), hV, e0, if_pos (Int32.le_refl _), zl_s, i41, ok.1, zin_v (by omega), zgd_t, nat_v (by omega), hV]
    by_cases h41 : V (231 + 58 * r + 41) = 0
    · rw [if_neg (by rw [h41]; decide), zl_s, i42, ok.1, zin_v (by omega), zgd_t, nat_v (by omega), hV]
      by_cases h42 : V (231 + 58 * r + 42) = 9
      · rw [if_pos (by rw [h42]; decide)]
        unfold f_X11_print_b118
        refine go m _ Fp.rfl' h ?_
        unfold sHd
        dsimp only
        rw [if_pos ⟨h41, h42⟩]
      · have hlt : hi < 9 := by
          rcases Nat.lt_or_ge hi 9 with q | q
          · exact q
          · exact absurd (by rw [hi2, show hi = 9 by omega]; rfl) h42
        rw [if_neg (by rw [hi2]; exact fun q => by have := (n_le (a := 9) (by omega) (by omega)).mp q; omega)]
        exact go2 (fun z => h42 z.2)
    · have hlt : 0 < lo := by
        rcases Nat.eq_zero_or_pos lo with q | q
        · exact absurd (by rw [lo2, q]; rfl) h41
        · exact q
      rw [if_pos (by rw [lo2]; exact (n_lt (a := 0) (by omega) (by omega)).mpr hlt)]
      exact go2 (fun z => h41 z.1)
  | succ d ih =>
    intro k fu m hk hfu hV h
    obtain ⟨fu, rfl⟩ : ∃ f, fu = f + 1 := ⟨fu - 1, by omega⟩
    have hl40 := hW.1.1
    have ic : nI (231 + 58 * r) + 1 + nI k = nI (231 + 58 * r + (1 + k)) := by
      simp only [nlit, n_add]
      congr 1
      omega
    obtain ⟨m1, a1, a2, a3⟩ := r_prints ok h (show k < 80 by omega) (c := V (231 + 58 * r + (1 + k)))
    unfold f_X11_print_b26
    rw [zl_s, ok.1, zin_v (by omega), zgd_t, nat_v (by omega), hV, e0, if_neg (by rw [n_le (by omega) (by omega)]; omega), zl_s, ok.1, ic, zin_v (by omega), zgd_t, nat_v (by omega), hV, a1, zb_s, zl_s, nI_1]
    obtain ⟨m2, b1, b2, b3⟩ := ih (k + 1) fu m1 (by omega) (by omega) (by rw [a3.v ok, hV]) ⟨a2.1, fun i hi => by
      have hi' : i < k + 1 := hi
      rw [a2.2 i hi]
      show uV (fun j => V (231 + 58 * r + (1 + j))) k (V (231 + 58 * r + (1 + k))) i = _
      by_cases ei : i = k
      · rw [ei, uV_s]
      · rw [uV_n ei]⟩
    exact ⟨m2, b1, b2, a3.trans b3⟩
theorem bY.prt (h : bY own P m y V sv Vs mk Vm tn T pn Q k it) (f : QF P y m m') (hw : Wr P y m' s) : bY own P m' y V sv Vs mk Vm tn T s.1 s.2 k it ∧ Fo own y m m' := by
  obtain ⟨h1, h2, h3, h4, ⟨h5, h5'⟩, ⟨h6, h6'⟩, ⟨h7, h7'⟩, ⟨h8, h8'⟩, ⟨h9, h9'⟩, h10, b0, h11⟩ := h
  have e : ∀ g, g ≠ 212 → zf m' g y = zf m g y := fun g a => f.2.1 g y (fun q => a q.1)
  have ea : ∀ j, j ∈ yRows → j ≠ 211 → za m' (zR P j y) = za m (zR P j y) := fun j hj hn => by
    funext i
    exact f.2.2 _ _ (fun q => yne h1 hj (by decide) hn q)
  exact ⟨⟨h1, h2, h3, by rw [ea _ (by decide) (by decide)]; exact h4, ⟨by rw [e _ (by decide)]; exact h5, by rw [ea _ (by decide) (by decide)]; exact h5'⟩, ⟨by rw [e _ (by decide)]; exact h6, by rw [ea _ (by decide) (by decide)]; exact h6'⟩, ⟨by rw [e _ (by decide)]; exact h7, by rw [ea _ (by decide) (by decide)]; exact h7'⟩, hw, ⟨by rw [e _ (by decide)]; exact h9, fun i hi => (h9' i hi).sm (fun j => by rw [ea _ (by decide) (by decide)]) (fun j => by rw [ea _ (by decide) (by decide)])⟩, by rw [e _ (by decide)]; exact h10, b0, by rw [e _ (by decide)]; exact h11⟩, f.fo (fun _ _ q => by rw [q.2, h2]) (fun _ _ q => by rw [q]; exact h3 211 (by decide))⟩
theorem L_print {w : Int32} : Call own P x y (f_X10_print P x w) (f_X11_print P y w) := by
  intro B m hB h0
  have hrel := h0.same
  obtain ⟨hn, V, sv, Vs, mk, Vm, tn, T, pn, Q, k, it, hC, hY, hI⟩ := h0
  obtain ⟨g, N, R, Tt, hb⟩ := hC.1
  have ok := hY.1
  have o := ow hn
  have hIn := hb.2.2.2.2.2
  have h8 := hIn.2.1.2
  have hV : za m (yv P y) = V := hY.2.2.2.1
  have hR : za m (yv P y) 230 = nI R := by rw [hV, hIn.2.1.1]
  have h24 : zf m 24 (zR P 180 x) = nI R := hb.2.2.1.1.2.2.1
  unfold f_X10_print f_X11_print
  rw [zl_s, c_hasR h24 h8, zb_s]
  dsimp only
  by_cases h1 : 0 ≤ w ∧ w < nI R
  · obtain ⟨r, hr, rfl⟩ := i_lt_of h1.1 h1.2 (by omega)
    obtain ⟨l, n, hW, hs⟩ := (hIn.ra hr).pw
    obtain ⟨t1, t2, t3, t4, t5⟩ := hC.2.2.2.2.2.2.1
    have hru := RuP.of hb.2.2.1.2.2.2.1 hb.2.2.1.2.2.2.2 hr
    obtain ⟨w1, w2, w3, w4⟩ := hb.1.2.1.2.2.2.2.2.2.2.2.2.2.2.2.2 r (by omega)
    obtain ⟨a1, a2, a3, a4, a5, a6, a7, a8⟩ := hru
    have hl2 : V (231 + 58 * r + 0) = nI l := hW.1.2
    have hn2 : V (231 + 58 * r + 43) = nI n := hW.2.2.2.2.2.2.2.1
    have hl40 := hW.1.1
    have hn3 := hW.2.2.2.2.2.2.1
    have hRd : Rd P m (gQ g r) (gT g r) (fun j => V (231 + 58 * r + j)) n := ⟨a1, a2, a3, a4, a5, fun t ht => ⟨hb.2.1.2.2.2.1 r t (by omega) (by omega), a8 t 0 (by dsimp only; rw [hn2, n_nat (by omega)]; exact ht) (by omega), a8 t 1 (by dsimp only; rw [hn2, n_nat (by omega)]; exact ht) (by omega)⟩⟩
    have hx : TxP P m (zR P 60 (gQ g r)) l (fun k => V (231 + 58 * r + (1 + k))) := ⟨a6.trans hl2, fun k hk => a7 k (by dsimp only; rw [hl2, n_nat (by omega)]; exact hk)⟩
    obtain ⟨m1, p1, p2, p3⟩ := c_printTo (p := zR P 186 x) hW hs t3 (hb.1.1.2.2.2.1 r (by omega)) hRd (hb.1.1.2.2.2.2.2.2.2 r (by omega)) hx (fun q => o 2 8 (by decide) (by
      show zR P 180 x = zR P 186 x
      rw [← t1, ← q]
      exact w2.symm)) (fun q => o 2 8 (by decide) (by
      show zR P 180 x = zR P 186 x
      rw [← t2, ← q]
      exact w3.symm))
    rw [decide_eq_true h1, if_neg (by decide), zl_s, zl_s, hb.1.1.2.2.1, zin_8 (by omega), zgd_t, n_nat (by omega), hb.2.1.2.2.1 r (by omega), zl_s, zl_s, p1, zb_s, zl_s, p2.1]
    have f1 : Fz own (zR P 186 x) m m1 := (p3.fo (fun _ _ q => by rw [q.2, t1]) (fun _ _ q => by rw [q, t2])).z
    have hC1 := hC.prt hn f1 ⟨t1, t2, t3, hs, p2⟩
    have hY1 := hY.sm (f1.sm (o 1 8 (by decide)))
    have hV1 : za (zfp m1 212 y 0) (yv P y) = V := hY1.2.2.2.1
    obtain ⟨m2, q1, q2, q3⟩ := r_print_l ok (by omega) hW hs l 0 zfuel (zfp m1 212 y 0) (by omega) (by unfold zfuel; omega) hV1 ⟨zf_eq, by intro i hi; dsimp only at hi; omega⟩
    have f2 : QF P y m1 m2 := (Fp.put (S := fun f a => f = 212 ∧ a = y) Fp.rfl' (And.intro rfl rfl)).trans q3
    obtain ⟨k1, k2⟩ := hY1.prt f2 q2
    have hV4 : za m1 (yv P y) = V := hY1.2.2.2.1
    have e9 : ((231 : Int32) + ((58 : Int32) * nI r)) = nI (231 + 58 * r) := by simp only [nlit, n_mul, n_add]
    refine ⟨_, m1, m2, rfl, ?_, hn, V, sv, Vs, mk, Vm, tn, T, _, _, k, it, (hC1.sm hn k2.z).mono (by omega), k1, hI.1, hI.2⟩
    rw [r_isR ok (by rw [hV4, hIn.2.1.1]) h8, zb_s]
    dsimp only
    rw [decide_eq_true h1, if_neg (by decide), zl_s, e9, zl_s]
    exact q1
  · rw [decide_eq_false h1, if_pos bI_f]
    refine ⟨-1, m, m, rfl, ?_, hrel⟩
    rw [r_isR ok hR h8, zb_s]
    dsimp only
    rw [decide_eq_false h1, if_pos bI_f]
end PP

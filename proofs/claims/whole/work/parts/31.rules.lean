/-! ===== rules found, ticks ===== -/
theorem sTick_at {V : Nat → Int32} {N i : Nat} (hi : i < N) : sTick V N (12 * i + 9) = if V (12 * i + 9) ≤ 0 then 0 else V (12 * i + 9) - 1 := by
  induction N with
  | zero => omega
  | succ k ih =>
    rw [sTick_s]
    by_cases e : i = k
    · subst e
      rw [uV_s, sTick_keep (fun i' hi' => by omega)]
    · rw [uV_n (by omega), ih (by omega)]
def sTk (V : Nat → Int32) (N : Nat) : Nat → Int32 := sTick (uV V 705 (V 705 + 1)) N
theorem sTk_keep {V : Nat → Int32} {N j : Nat} (h : ∀ i, i < N → j ≠ 12 * i + 9) (h2 : j ≠ 705) : sTk V N j = V j := by
  unfold sTk
  rw [sTick_keep h, uV_n h2]
theorem sTk_inv {V : Nat → Int32} {N R B : Nat} (h : InV V N R B) (hB : B < 1000000) : InV (sTk V N) N R B := by
  have h12 := h.st.2.1
  refine h.to (h.st.to (sTk_keep (by omega) (by omega)) (sTk_keep (by omega) (by omega)) (fun i hi => sTk_keep (by omega) (by omega)) (fun s h hs hh => Or.inl (sTk_keep (by omega) (by omega)))) ?_ (fun j hj => sTk_keep (by obtain ⟨h1, h2, h3, h4⟩ := hj; intro i hi; omega) (by obtain ⟨h1, h2, h3, h4⟩ := hj; omega))
  intro i hi
  obtain ⟨a1, a2, a3, ⟨k, k1, k2⟩, a5⟩ := h.bd i hi
  rw [sTk_keep (j := 12 * i + 5) (by omega) (by omega), sTk_keep (j := 12 * i + 7) (by omega) (by omega), sTk_keep (j := 12 * i + 8) (by omega) (by omega), sTk_keep (j := 12 * i + 10) (by omega) (by omega)]
  refine ⟨a1, a2, a3, ?_, a5⟩
  unfold sTk
  rw [sTick_at hi, uV_n (by omega), k2]
  by_cases h0 : k = 0
  · subst h0
    exact ⟨0, by omega, rfl⟩
  · rw [if_neg (by rw [show (0 : Int32) = nI 0 from rfl, n_le (by omega) (by omega)]; omega), show (1 : Int32) = nI 1 from rfl, n_sub _ _ (by omega)]
    exact ⟨k - 1, by omega, rfl⟩
theorem sFst_congr {p q : Nat → Bool} : ∀ d k, (∀ i, k ≤ i → i < k + d → p i = q i) → sFst p d k = sFst q d k := by
  intro d
  induction d with
  | zero => intro k _; rfl
  | succ d ih =>
    intro k h
    unfold sFst
    rw [h k (by omega) (by omega), ih (k + 1) (fun i h1 h2 => h i (by omega) (by omega))]
/-- the rule that fits depends on the rules' fixed cells alone -/
theorem sFits_congr {V V' T T' : Nat → Int32} {tn r : Nat} {h : Int32} (hl : (V (231 + 58 * r)).toNatClampNeg ≤ 40) (hk : ∀ j, j < 43 → V' (231 + 58 * r + j) = V (231 + 58 * r + j)) (ht : ∀ k, k < tn → T' k = T k) : sFits V' T' tn h r = sFits V T tn h r := by
  unfold sFits
  have e0 : V' (231 + 58 * r) = V (231 + 58 * r) := hk 0 (by omega)
  rw [e0, hk 41 (by omega), hk 42 (by omega)]
  apply decide_eq_decide.mpr
  constructor
  · rintro ⟨h1, h2, h3⟩
    refine ⟨h1, h2, fun k q => ?_⟩
    have := h3 k q
    rw [show 231 + 58 * r + 1 + k = 231 + 58 * r + (1 + k) by omega, hk (1 + k) (by omega), ht k (by omega)] at this
    rw [show 231 + 58 * r + 1 + k = 231 + 58 * r + (1 + k) by omega]
    exact this
  · rintro ⟨h1, h2, h3⟩
    refine ⟨h1, h2, fun k q => ?_⟩
    have := h3 k q
    rw [show 231 + 58 * r + 1 + k = 231 + 58 * r + (1 + k) by omega] at this
    rw [show 231 + 58 * r + 1 + k = 231 + 58 * r + (1 + k) by omega, hk (1 + k) (by omega), ht k (by omega)]
    exact this
section RU
variable {own : Nat → Nat} {P : zSt} {m m' : zM} {u N R : Nat} {g : zGr} {c : Int32} {V : Nat → Int32}
theorem PicR.tx (h : PicR P m g R c V) {r l : Nat} (hr : r < R) (hl : V (231 + 58 * r) = nI l) (hl40 : l ≤ 40) : TxP P m (gW P g r) l (fun k => V (231 + 58 * r + 1 + k)) := by
  obtain ⟨-, -, -, -, -, a6, a7⟩ := h r hr
  refine ⟨by rw [a6, hl], fun k hk => ?_⟩
  exact a7 k (by rw [hl, n_nat (by omega)]; exact hk)
theorem c_matches (hf : Mf own P u g N) (hp : PicR P m g R c V) (h8 : R ≤ 8) {r t tn : Nat} {T : Nat → Int32} {h : Int32} (hr : r < R) (hA : RuA V r) (hx : TxP P m t tn T) (hn : tn ≤ 40) (hl : zlen P (zR P 140 t) = 40) : f_X3_matches P (gQ g r) t h m = some (bI (sFits V T tn h r), m) := by
  obtain ⟨a1, a2, -⟩ := hp r hr
  obtain ⟨⟨⟨l, l1, l2⟩, -⟩, -, -, c3, -⟩ := hA
  have hlz := hf.1.2.2.2.2.2.2.2 r (by omega)
  have hb := c_begins (m := m) (t := t) (n := tn) (w := T) (p := gW P g r) (l := l) (v := fun k => V (231 + 58 * r + 1 + k)) hx hn hl (hp.tx hr l2 l1) l1 hlz (fun k hk => c3 k (by omega))
  unfold f_X3_matches f_X3_matches_b30 sFits
  rw [a1, a2, c_isWithin, zb_s, zbo_0, zbo_1, zgd_t, l2, n_nat (by omega)]
  dsimp only
  by_cases h1 : V (231 + 58 * r + 41) ≤ h ∧ h ≤ V (231 + 58 * r + 42)
  · rw [decide_eq_true h1, if_neg (by decide), zl_s, hb, zb_s]
    dsimp only
    by_cases h2 : l ≤ tn ∧ ∀ j, j < l → V (231 + 58 * r + 1 + j) = T j
    · rw [decide_eq_true h2, if_neg (by decide), zgd_t, decide_eq_true ⟨h2.1, h1, h2.2⟩]
      rfl
    · rw [decide_eq_false h2, if_pos bI_f, decide_eq_false (fun q => h2 ⟨q.1, q.2.2⟩)]
      rfl
  · rw [decide_eq_false h1, if_pos bI_f, decide_eq_false (fun q => h1 q.2.1)]
    rfl
theorem c_findRule_l (hf : Mf own P u g N) (hG : GM P m u g) (hp : PicR P m g R c V) (h24 : zf m 24 u = nI R) (h8 : R ≤ 8) {t tn : Nat} {T : Nat → Int32} {h : Int32} (hA : ∀ r, r < R → RuA V r) (hx : TxP P m t tn T) (hn : tn ≤ 40) (hl : zlen P (zR P 140 t) = 40) : ∀ d k fu, k + d = R → d < fu → f_X1_findRule_b2 P fu u t h (nI k) m = some (oI (sFst (sFits V T tn h) d k), m) := by
  intro d
  induction d with
  | zero =>
    intro k fu hk hfu
    obtain ⟨fu, rfl⟩ : ∃ f, fu = f + 1 := ⟨fu - 1, by omega⟩
    have : k = R := by omega
    subst this
    unfold f_X1_findRule_b2
    rw [h24, if_pos (Int32.le_refl _)]
    rfl
  | succ d ih =>
    intro k fu hk hfu
    obtain ⟨fu, rfl⟩ : ∃ f, fu = f + 1 := ⟨fu - 1, by omega⟩
    have hkR : k < R := by omega
    unfold f_X1_findRule_b2 sFst
    rw [h24, if_neg (by rw [n_le (by omega) (by omega)]; omega), zl_s, hf.1.2.2.1, zin_8 (by omega), zgd_t, n_nat (by omega), hG.2.2.1 k (by omega), zl_s, c_matches hf hp h8 hkR (hA k hkR) hx hn hl, zb_s]
    dsimp only
    cases hc : sFits V T tn h k with
    | false =>
      rw [if_pos bI_f, zl_s, nI_1, ih (k + 1) fu (by omega) (by omega), if_neg (by decide)]
    | true =>
      rw [if_neg (by decide), if_pos rfl]
      rfl
theorem c_findRule (hf : Mf own P u g N) (hG : GM P m u g) (hp : PicR P m g R c V) (h24 : zf m 24 u = nI R) (h8 : R ≤ 8) {t tn : Nat} {T : Nat → Int32} {h : Int32} (hA : ∀ r, r < R → RuA V r) (hx : TxP P m t tn T) (hn : tn ≤ 40) (hl : zlen P (zR P 140 t) = 40) : f_X1_findRule P u t h m = some (oI (sFst (sFits V T tn h) R 0), m) :=
  c_findRule_l hf hG hp h24 h8 hA hx hn hl R 0 zfuel (by omega) (by unfold zfuel; omega)
theorem Pic.updM (h : Pic P m u g N R c V) (hL : RuL V R) (h12 : N ≤ 12) {x : Int32} : Pic P (zfp m 26 u x) u g N R c (uV V 705 x) := by
  have h8 := hL.1
  refine ⟨?_, h.2.1.cg (fun i k _ _ => zf_ne (Or.inl (by have := bsl_lt k; omega))) (fun i k hi hk => uV_n (by omega)), h.2.2.1.cg (fun s j _ _ => zf_ne (Or.inl (by omega))) (fun _ _ _ _ => rfl) (fun _ _ _ _ => rfl) (fun j h1 h2 => uV_n (by omega)), h.2.2.2.1.cg hL.1 (fun f r hr h1 h2 => zf_ne (Or.inl (by omega))) (fun r hr => zf_ne (Or.inl (by omega))) (fun _ _ _ _ => rfl) (fun r hr => (hL.2 r hr).1) (fun r j hr hj => uV_n (by omega)), h.2.2.2.2.cg (fun r t k' _ _ _ => zf_ne (Or.inl (by have := tsl_lt k'; omega))) (fun r hr => uV_n (by omega)) (fun r t k' hr ht hk' => by have := (hL.2 r hr).2; exact uV_n (by omega))⟩
  obtain ⟨a1, a2, a3, a4, a5, a6, a7⟩ := h.1
  refine ⟨by rw [zf_ne (Or.inl (by omega)), a1], by rw [uV_n (by omega), a2], by rw [zf_ne (Or.inl (by omega)), a3], by rw [uV_n (by omega), a4], ?_, by rw [zf_eq, uV_s], fun j' h1 h2 => by rw [zf_ne (Or.inl (by omega)), uV_n (by omega), a7 j' h1 h2]⟩
  rw [zf_ne (Or.inl (by omega)), a5]
  unfold sLm
  rw [uV_n (by omega)]
theorem c_passTick_l (hf : Mf own P u g N) (hL : RuL V R) {B : Nat} (hB : BdV V N B) (hB2 : B < 1000000) : ∀ d k fu (m : zM), k + d = N → d < fu → GM P m u g → Pic P m u g N R c (sTick V k) →
    ∃ m', f_X1_passTick_b12 P fu u (nI k) m = some (0, m') ∧ GM P m' u g ∧ Pic P m' u g N R c (sTick V N) ∧ Fp (fun f a => f = 10 ∧ own a = u) (fun _ _ => False) m m' := by
  have h12 := hf.2.2
  have h8 := hL.1
  intro d
  induction d with
  | zero =>
    intro k fu m hk hfu hG hp
    obtain ⟨fu, rfl⟩ : ∃ f, fu = f + 1 := ⟨fu - 1, by omega⟩
    have : k = N := by omega
    subst this
    unfold f_X1_passTick_b12
    rw [hp.1.1, if_pos (Int32.le_refl _)]
    exact ⟨m, rfl, hG, hp, Fp.rfl'⟩
  | succ d ih =>
    intro k fu m hk hfu hG hp
    obtain ⟨fu, rfl⟩ : ∃ f, fu = f + 1 := ⟨fu - 1, by omega⟩
    have hkN : k < N := by omega
    have hg := ih (k + 1) fu
    rw [sTick_s] at hg
    have e9 : zf m 10 (gB g k) = sTick V k (12 * k + 9) := hp.2.1 k 9 hkN (by omega)
    obtain ⟨x, x1, x2⟩ := (hB k hkN).2.2.2.1
    have e9' : sTick V k (12 * k + 9) = nI x := by rw [sTick_keep (fun i hi => by omega), x2]
    have hLk : RuL (sTick V k) R := hL.to (fun r hr => ⟨sTick_keep (fun i hi => by omega), sTick_keep (fun i hi => by omega)⟩)
    unfold f_X1_passTick_b12 f_X1_passTick_b47
    rw [hp.1.1, if_neg (by rw [n_le (by omega) (by omega)]; omega), zl_s, hf.1.1, zin_12 (by omega), zgd_t, n_nat (by omega), hG.1 k (by omega), zl_s, e9]
    by_cases h0 : sTick V k (12 * k + 9) ≤ 0
    · rw [if_pos h0] at hg ⊢
      have hx0 : x = 0 := by
        rw [e9', show (0 : Int32) = nI 0 from rfl, n_le (by omega) (by omega)] at h0
        omega
      have hs0 : uV (sTick V k) (12 * k + 9) 0 = sTick V k := by
        have := uV_self (V := sTick V k) (i := 12 * k + 9)
        rw [e9', hx0] at this
        exact this
      rw [hs0] at hg
      rw [zl_s, nI_1]
      exact hg m (by omega) (by omega) hG hp
    · rw [if_neg h0] at hg ⊢
      rw [zl_s, zl_s, hf.1.1, zin_12 (by omega), zgd_t, hG.1 k (by omega), zl_s, e9, zl_s, nI_1]
      obtain ⟨m', q1, q2, q3, q4⟩ := hg (zfp m 10 (gB g k) (sTick V k (12 * k + 9) - 1)) (by omega) (by omega) hG (hp.updB hLk hf.2.1 h12 (k := 9) hkN (by omega))
      exact ⟨m', q1, q2, q3, (Fp.put (S := fun f a => f = 10 ∧ own a = u) Fp.rfl' (And.intro rfl (hf.2.1.2.2.2.2.2.2.2.2.2.2.2.1 k (by omega)))).trans q4⟩
theorem c_passTick (hf : Mf own P u g N) (hL : RuL V R) {B : Nat} (hB : BdV V N B) (hB2 : B < 1000000) (hG : GM P m u g) (hp : Pic P m u g N R c V) :
    ∃ m', f_X1_passTick P u m = some (0, m') ∧ GM P m' u g ∧ Pic P m' u g N R c (sTk V N) ∧ Fp (fun f a => (f = 10 ∨ f = 26) ∧ own a = u) (fun _ _ => False) m m' := by
  have h12 := hf.2.2
  have h8 := hL.1
  have hou := hf.2.1.2.2.2.2.2.2.2.2.2.1
  obtain ⟨m', q1, q2, q3, q4⟩ := c_passTick_l (V := uV V 705 (V 705 + 1)) hf (hL.up (fun r hr => by omega)) (hB.upd (fun i k _ _ _ _ _ => by omega)) hB2 N 0 zfuel (zfp m 26 u (V 705 + 1)) (by omega) (by unfold zfuel; omega) hG (hp.updM hL h12)
  unfold f_X1_passTick
  rw [hp.1.2.2.2.2.2.1, zl_s]
  exact ⟨m', q1, q2, q3, (Fp.put (S := fun f a => (f = 10 ∨ f = 26) ∧ own a = u) Fp.rfl' (And.intro (Or.inr rfl) hou)).trans (q4.mono (fun f a q => ⟨Or.inl q.1, q.2⟩) (fun _ _ q => q))⟩
end RU

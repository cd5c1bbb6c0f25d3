/-! ===== calls: removeRule, moveRule ===== -/
/-- which rule comes to stand at r, when a's moves to b -/
def mvS (a b r : Nat) : Nat := if a ≤ b then (if r < a then r else if r < b then r + 1 else if r = b then a else r) else (if r < b then r else if r = b then a else if r ≤ a then r - 1 else r)
theorem mvS_lt {a b r R : Nat} (ha : a < R) (hb : b < R) (hr : r < R) : mvS a b r < R := by
  unfold mvS
  repeat' split
  all_goals omega
theorem mvS_inj {a b i j : Nat} (h : mvS a b i = mvS a b j) : i = j := by
  unfold mvS at h
  repeat' split at h
  all_goals omega
def gPm (g : zGr) (s : Nat → Nat) : zGr := (g.1, g.2.1, fun r => g.2.2.1 (s r), fun r t => g.2.2.2.1 (s r) t, g.2.2.2.2)
theorem zr_eq {m : zM} {a i b : Nat} : zr (zrp m a i b) a i = b := by
  unfold zr zrp zu
  dsimp only
  rw [if_pos ⟨rfl, rfl⟩]
theorem zr_ne {m : zM} {a a' i i' b : Nat} (h : a' ≠ a ∨ i' ≠ i) : zr (zrp m a i b) a' i' = zr m a' i' := by
  unfold zr zrp zu
  dsimp only
  rw [if_neg]
  intro q
  rcases h with h | h
  · exact h q.1
  · exact h q.2
theorem nI_m1 {k : Nat} : nI (k + 1) + (-1) = nI k := by
  rw [← Int32.sub_eq_add_neg, show (1 : Int32) = nI 1 from rfl, n_sub _ _ (by omega), Nat.add_sub_cancel]
section MV
variable {own : Nat → Nat} {P : zSt} {m m' : zM} {x y B B' u N R R' rc : Nat} {g : zGr} {V V' W : Nat → Int32} {sv mk : Bool} {Vs Vm T Q : Nat → Int32} {tn pn k : Nat} {it : zIt} {s : Nat → Nat}
theorem MS.perm (h : MS own P u g) (s1 : ∀ r, r < 8 → s r < 8) (s2 : ∀ i j, i < 8 → j < 8 → s i = s j → i = j) : MS own P u (gPm g s) := by
  obtain ⟨⟨l1, l2, l3, l4, l5, l6, l7, l8⟩, ⟨d1, d2, d3, d4, d5, d6, d7, d8, d9, d10, d11, d12, d13, d14⟩, ⟨q1, q2, q3⟩, ⟨o1, o2, o3, o4, o5, o6, o7, o8, o9⟩⟩ := h
  refine ⟨⟨l1, l2, l3, fun r hr => l4 _ (s1 r hr), l5, l6, l7, fun r hr => l8 _ (s1 r hr)⟩, ⟨d1, d2, fun r t r' t' a b c d e => ?_, d4, d5, d6, d7, d8, fun r i hr hi => d9 _ i (s1 r hr) hi, d10, d11, d12, d13, fun r hr => d14 _ (s1 r hr)⟩, ⟨fun i j hi hj q => s2 i j hi hj (q1 _ _ (s1 i hi) (s1 j hj) q), fun i j hi hj q => s2 i j hi hj (q2 _ _ (s1 i hi) (s1 j hj) q), fun i j hi hj q => s2 i j hi hj (q3 _ _ (s1 i hi) (s1 j hj) q)⟩, o1, o2, o3, o4, fun r hr => o5 _ (s1 r hr), o6, o7, o8, fun r hr => o9 _ (s1 r hr)⟩
  obtain ⟨e1, e2⟩ := d3 _ t _ t' (s1 r a) b (s1 r' c) d e
  exact ⟨s2 r r' a c e1, e2⟩
theorem bMp.perm {T : Nat} (hb : bMp own P m u g N R T V B) (s1 : ∀ r, r < 8 → s r < 8) (s2 : ∀ i j, i < 8 → j < 8 → s i = s j → i = j) (hR : R' ≤ R) (s3 : ∀ r, r < R' → s r < R) (hz : ∀ r, r < 8 → zr m' (zR P 23 u) r = gQ g (s r)) (hzo : ∀ a i, a ≠ zR P 23 u → zr m' a i = zr m a i) (hf : ∀ f a, f ≠ 24 → zf m' f a = zf m f a) (h24 : zf m' 24 u = nI R') (ha : ∀ a i, za m' a i = za m a i) (hV0 : V' 230 = nI R') (hV1 : ∀ j, j < 230 ∨ 695 ≤ j → V' j = V j) (hV2 : ∀ r j, r < R' → j < 58 → V' (231 + 58 * r + j) = V (231 + 58 * s r + j)) : bMp own P m' u (gPm g s) N R' T V' B := by
  obtain ⟨hM, hG, hp, hx, h27, hI⟩ := hb
  have hM' := hM.perm s1 s2
  have h12 := hI.st.2.1
  have h8 := hI.2.1.2
  obtain ⟨o1, o2, o3, o4, o5, o6, o7, o8, o9⟩ := hM.2.2.2
  obtain ⟨g1, g2, g3, g4, g5⟩ := hG
  have hrs : ∀ r, r < R' → RuP P m' (gQ (gPm g s) r) (gT (gPm g s) r) (fun j => V' (231 + 58 * r + j)) := by
    intro r hr
    obtain ⟨a1, a2, a3, a4, a5, a6, a7, a8⟩ := RuP.of hp.2.2.2.1 hp.2.2.2.2 (s3 r hr)
    have e0 := hV2 r 0 hr (by omega)
    have e43 := hV2 r 43 hr (by omega)
    have lr := hI.ru.l.2 (s r) (s3 r hr)
    refine ⟨by rw [hf _ _ (by omega)]; exact a1.trans (hV2 r 41 hr (by omega)).symm, by rw [hf _ _ (by omega)]; exact a2.trans (hV2 r 42 hr (by omega)).symm, by rw [hf _ _ (by omega)]; exact a3.trans e43.symm, by rw [hf _ _ (by omega)]; exact a4.trans (hV2 r 56 hr (by omega)).symm, by rw [hf _ _ (by omega)]; exact a5.trans (hV2 r 57 hr (by omega)).symm, by rw [hf _ _ (by omega)]; exact a6.trans e0.symm, fun k hk => ?_, fun t k ht hk => ?_⟩
    · dsimp only at hk ⊢
      rw [e0] at hk
      have lk : k < 40 := by
        have := lr.1
        rw [Nat.add_zero] at hk
        omega
      rw [ha, hV2 r (1 + k) hr (by omega)]
      exact a7 k hk
    · dsimp only at ht ⊢
      rw [e43] at ht
      have lk := lr.2
      rw [hf _ _ (by have := tsl_lt k; omega), hV2 r (44 + 4 * t + k) hr (by omega)]
      exact a8 t k ht hk
  obtain ⟨pr, pt⟩ := RuP.to hrs
  refine ⟨hM', ⟨fun i hi => by rw [hzo _ _ o6]; exact g1 i hi, fun i hi => by rw [hzo _ _ o7]; exact g2 i hi, hz, fun r t hr ht => (hzo _ _ (o9 _ (s1 r hr))).trans (g4 _ t (s1 r hr) ht), fun i hi => by rw [hzo _ _ o8]; exact g5 i hi⟩, ⟨?_, hp.2.1.cg (fun i k _ _ => hf _ _ (by have := bsl_lt k; omega)) (fun i k hi hk => hV1 _ (by omega)), hp.2.2.1.cg (fun i k _ _ => hf _ _ (by omega)) (fun _ _ _ _ => ha _ _) (fun _ _ _ _ => ha _ _) (fun j h1 h2 => hV1 _ (by omega)), pr, pt⟩, hx.cg (hf _ _ (by omega)) (fun i k _ _ => ha _ _) (hV1 _ (by omega)) (fun i k hi hk => hV1 _ (by omega)), by rw [hf _ _ (by omega), hV1 _ (by omega)]; exact h27, ?_⟩
  · obtain ⟨q1, q2, q3, q4, q5, q6, q7⟩ := hp.1
    refine ⟨by rw [hf _ _ (by omega), q1], by rw [hV1 _ (by omega), q2], h24, hV0, ?_, by rw [hf _ _ (by omega), q6, hV1 _ (by omega)], fun j h1 h2 => by rw [hf _ _ (by omega), q7 j h1 h2, hV1 _ (by omega)]⟩
    rw [hf _ _ (by omega), q5]
    unfold sLm
    rw [hV1 _ (by omega)]
  · refine ⟨hI.st.to (hV1 _ (by omega)) (hV1 _ (by omega)) (fun i hi => hV1 _ (by omega)) (fun s t hs ht => Or.inl (hV1 _ (by omega))), ⟨hV0, by omega⟩, hI.sv.to (fun s hs => ⟨hV1 _ (by omega), hV1 _ (by omega)⟩), hI.bd.to (fun i k _ _ _ _ _ => hV1 _ (by omega)), fun i hi => by rw [hV1 _ (by omega)]; exact hI.sr i hi, fun r hr => (hI.ra (s3 r hr)).to ⟨fun j hj => hV2 r j hr (by omega), fun t ht => ⟨?_, ?_⟩⟩⟩
    · rw [show 231 + 58 * r + 44 + 4 * t = 231 + 58 * r + (44 + 4 * t) by omega, hV2 r _ hr (by omega)]
      exact congrArg V (by omega)
    · rw [show 231 + 58 * r + 44 + 4 * t + 1 = 231 + 58 * r + (44 + 4 * t + 1) by omega, hV2 r _ hr (by omega)]
      exact congrArg V (by omega)
/-- only u's list of rules is another -/
def Rz (P : zSt) (u : Nat) (m m' : zM) : Prop := (∀ f a, zf m' f a = zf m f a) ∧ (∀ a i, za m' a i = za m a i) ∧ ∀ a i, a ≠ zR P 23 u → zr m' a i = zr m a i
theorem Rz.put (h : Rz P u m m') {i b : Nat} : Rz P u m (zrp m' (zR P 23 u) i b) := ⟨h.1, h.2.1, fun a i' q => by rw [zr_ne (Or.inl q), h.2.2 a i' q]⟩
theorem c_shU_l (hl : zlen P (zR P 23 u) = 8) {q : Nat → Nat} {a b : Nat} (hab : a ≤ b) (hb : b < 8) : ∀ d k fu (m : zM), k + d = b → d < fu → a ≤ k → (∀ r, r < 8 → zr m (zR P 23 u) r = if a ≤ r ∧ r < k then q (r + 1) else q r) →
    ∃ m', f_X1_shiftRule_b10 P fu u (nI a) (nI b) (q a) (nI k) m = some (0, m') ∧ (∀ r, r < 8 → zr m' (zR P 23 u) r = q (mvS a b r)) ∧ Rz P u m m' := by
  intro d
  induction d with
  | zero =>
    intro k fu m hk hfu hak h
    obtain ⟨fu, rfl⟩ : ∃ f, fu = f + 1 := ⟨fu - 1, by omega⟩
    have : k = b := by omega
    subst this
    unfold f_X1_shiftRule_b10
    rw [if_pos (Int32.le_refl _), show zfuel = 999 + 1 from rfl]
    unfold f_X1_shiftRule_b41
    rw [if_pos ((n_le (by omega) (by omega)).mpr hab), zl_s, hl, zin_8 hb, zgd_t, n_nat (by omega), zl_s]
    refine ⟨_, rfl, fun r hr => ?_, Rz.put ⟨fun _ _ => rfl, fun _ _ => rfl, fun _ _ _ => rfl⟩⟩
    unfold mvS
    rw [if_pos hab]
    by_cases e : r = k
    · subst e
      rw [zr_eq, if_neg (by omega), if_neg (by omega), if_pos rfl]
    · rw [zr_ne (Or.inr e), h r hr]
      by_cases e2 : r < a
      · rw [if_neg (by omega), if_pos e2]
      · rw [if_neg e2]
        by_cases e3 : r < k
        · rw [if_pos (by omega), if_pos e3]
        · rw [if_neg (by omega), if_neg e3, if_neg e]
  | succ d ih =>
    intro k fu m hk hfu hak h
    obtain ⟨fu, rfl⟩ : ∃ f, fu = f + 1 := ⟨fu - 1, by omega⟩
    unfold f_X1_shiftRule_b10
    rw [if_neg (by rw [n_le (by omega) (by omega)]; omega), zl_s, zl_s, nI_1, hl, zin_8 (by omega), zgd_t, n_nat (by omega), zl_s, zin_8 (by omega), zgd_t, n_nat (by omega), zl_s, zl_s, h (k + 1) (by omega), if_neg (by omega)]
    obtain ⟨m2, q1, q2, q3⟩ := ih (k + 1) fu (zrp m (zR P 23 u) k (q (k + 1))) (by omega) (by omega) (by omega) (fun r hr => by
      by_cases e : r = k
      · subst e
        rw [zr_eq, if_pos (by omega)]
      · rw [zr_ne (Or.inr e), h r hr]
        by_cases e2 : a ≤ r ∧ r < k
        · rw [if_pos e2, if_pos (by omega)]
        · rw [if_neg e2, if_neg (by omega)])
    exact ⟨m2, q1, q2, q3.1, q3.2.1, fun a' i' q => by rw [q3.2.2 a' i' q, zr_ne (Or.inl q)]⟩
theorem c_shD_l (hl : zlen P (zR P 23 u) = 8) {q : Nat → Nat} {a b : Nat} (hab : b < a) (ha : a < 8) : ∀ d k fu (m : zM), b + d = k → d < fu → k ≤ a → (∀ r, r < 8 → zr m (zR P 23 u) r = if k < r ∧ r ≤ a then q (r - 1) else q r) →
    ∃ m', f_X1_shiftRule_b41 P fu u (nI b) (q a) (nI k) m = some (0, m') ∧ (∀ r, r < 8 → zr m' (zR P 23 u) r = q (mvS a b r)) ∧ Rz P u m m' := by
  intro d
  induction d with
  | zero =>
    intro k fu m hk hfu hak h
    obtain ⟨fu, rfl⟩ : ∃ f, fu = f + 1 := ⟨fu - 1, by omega⟩
    have : k = b := by omega
    subst this
    unfold f_X1_shiftRule_b41
    rw [if_pos (Int32.le_refl _), zl_s, hl, zin_8 (by omega), zgd_t, n_nat (by omega), zl_s]
    refine ⟨_, rfl, fun r hr => ?_, Rz.put ⟨fun _ _ => rfl, fun _ _ => rfl, fun _ _ _ => rfl⟩⟩
    unfold mvS
    rw [if_neg (by omega)]
    by_cases e : r = k
    · subst e
      rw [zr_eq, if_neg (by omega), if_pos rfl]
    · rw [zr_ne (Or.inr e), h r hr]
      by_cases e2 : r < k
      · rw [if_neg (by omega), if_pos e2]
      · rw [if_neg e2, if_neg e]
        by_cases e3 : r ≤ a
        · rw [if_pos (by omega), if_pos e3]
        · rw [if_neg (by omega), if_neg e3]
  | succ d ih =>
    intro k fu m hk hfu hak h
    obtain ⟨fu, rfl⟩ : ∃ f, fu = f + 1 := ⟨fu - 1, by omega⟩
    obtain ⟨k, rfl⟩ : ∃ j, k = j + 1 := ⟨k - 1, by omega⟩
    unfold f_X1_shiftRule_b41
    have e1 : nI (k + 1) - 1 = nI k := by rw [show (1 : Int32) = nI 1 from rfl, n_sub _ _ (by omega), Nat.add_sub_cancel]
    rw [if_neg (by rw [n_le (by omega) (by omega)]; omega), zl_s, zl_s, e1, hl, zin_8 (by omega), zgd_t, n_nat (by omega), zl_s, zin_8 (by omega), zgd_t, n_nat (by omega), zl_s, zl_s, nI_m1, h k (by omega), if_neg (by omega)]
    obtain ⟨m2, q1, q2, q3⟩ := ih k fu (zrp m (zR P 23 u) (k + 1) (q k)) (by omega) (by omega) (by omega) (fun r hr => by
      by_cases e : r = k + 1
      · subst e
        rw [zr_eq, if_pos (by omega), Nat.add_sub_cancel]
      · rw [zr_ne (Or.inr e), h r hr]
        by_cases e2 : k + 1 < r ∧ r ≤ a
        · rw [if_pos e2, if_pos (by omega)]
        · rw [if_neg e2, if_neg (by omega)])
    exact ⟨m2, q1, q2, q3.1, q3.2.1, fun a' i' q => by rw [q3.2.2 a' i' q, zr_ne (Or.inl q)]⟩
theorem c_shift (hl : zlen P (zR P 23 u) = 8) (hG : GM P m u g) {a b : Nat} (ha : a < 8) (hb : b < 8) : ∃ m', f_X1_shiftRule P u (nI a) (nI b) m = some (0, m') ∧ (∀ r, r < 8 → zr m' (zR P 23 u) r = gQ g (mvS a b r)) ∧ Rz P u m m' := by
  unfold f_X1_shiftRule
  rw [zl_s, hl, zin_8 ha, zgd_t, n_nat (by omega), hG.2.2.1 a ha, zl_s]
  by_cases hab : a ≤ b
  · exact c_shU_l hl hab hb (b - a) a zfuel m (by omega) (by unfold zfuel; omega) (Nat.le_refl _) (fun r hr => by rw [hG.2.2.1 r hr, if_neg (by omega)])
  · rw [show zfuel = 999 + 1 from rfl]
    unfold f_X1_shiftRule_b10
    rw [if_pos ((n_le (by omega) (by omega)).mpr (by omega))]
    exact c_shD_l hl (by omega) ha (a - b) a zfuel m (by omega) (by unfold zfuel; omega) (Nat.le_refl _) (fun r hr => by rw [hG.2.2.1 r hr, if_neg (by omega)])
/-- the reference's row without rule i -/
def rmL (V : Nat → Int32) (i R k : Nat) : Nat → Int32 := fun j => if j = 230 then nI (R - 1) else if 231 + 58 * i ≤ j ∧ j < k then V (j + 58) else V j
theorem r_rem_l (ok : yOK P y) {i : Nat} (hi : i < R) (h8 : R ≤ 8) : ∀ d k fu, k + d = 231 + 58 * (R - 1) → d < fu → 231 + 58 * i ≤ k → f_X11_removeRule_b35 P fu y (nI k) (wA m (yv P y) (rmL V i R k)) = some (nI (R - 1), wA m (yv P y) (rmL V i R (231 + 58 * (R - 1)))) := by
  intro d
  have e230 : ∀ k, rmL V i R k 230 = nI (R - 1) := fun k => if_pos rfl
  have e : ((231 : Int32) + ((58 : Int32) * nI (R - 1))) = nI (231 + 58 * (R - 1)) := by simp only [nlit, n_mul, n_add]
  induction d with
  | zero =>
    intro k fu hk hfu hik
    obtain ⟨fu, rfl⟩ : ∃ f, fu = f + 1 := ⟨fu - 1, by omega⟩
    have : k = 231 + 58 * (R - 1) := by omega
    subst this
    unfold f_X11_removeRule_b35
    rw [zl_s, ok.1, show zin (230 : Int32) 723 = true by decide, zgd_t, show (230 : Int32).toNatClampNeg = 230 by decide, za_wA, e230, e, if_pos (Int32.le_refl _), zl_s, ok.1, show zin (230 : Int32) 723 = true by decide, zgd_t, za_wA, e230]
  | succ d ih =>
    intro k fu hk hfu hik
    obtain ⟨fu, rfl⟩ : ∃ f, fu = f + 1 := ⟨fu - 1, by omega⟩
    unfold f_X11_removeRule_b35
    have e58 : nI k + 58 = nI (k + 58) := n_add k 58
    have e2 : rmL V i R k (k + 58) = V (k + 58) := by
      unfold rmL
      rw [if_neg (by omega), if_neg (by omega)]
    have e3 : uV (rmL V i R k) k (V (k + 58)) = rmL V i R (k + 1) := by
      funext j
      unfold uV rmL
      by_cases h : j = k
      · rw [if_pos h, if_neg (by omega), if_pos (by omega), h]
      · rw [if_neg h]
        by_cases h2 : j = 230
        · rw [if_pos h2, if_pos h2]
        · rw [if_neg h2, if_neg h2]
          by_cases h3 : 231 + 58 * i ≤ j ∧ j < k
          · rw [if_pos h3, if_pos (by omega)]
          · rw [if_neg h3, if_neg (by omega)]
    rw [zl_s, ok.1, show zin (230 : Int32) 723 = true by decide, zgd_t, show (230 : Int32).toNatClampNeg = 230 by decide, za_wA, e230, e, if_neg (by rw [n_le (by omega) (by omega)]; omega), zl_s, zl_s, ok.1, e58, zin_v (by omega), zgd_t, zin_v (by omega), zgd_t, nat_v (by omega), nat_v (by omega), za_wA, e2, zap_wA, e3, zl_s, zl_s, nI_1]
    exact ih (k + 1) fu (by omega) (by omega) (by omega)
theorem L_removeRule {w : Int32} : Call own P x y (f_X10_removeRule P x w) (f_X11_removeRule P y w) := by
  intro B m hB h0
  have hrel := h0.same
  obtain ⟨hn, V, sv, Vs, mk, Vm, tn, T, pn, Q, k, it, hC, hY, hI⟩ := h0
  obtain ⟨g, N, R, Tt, hb⟩ := hC.1
  have ok := hY.1
  have o := ow hn
  have hIn := hb.2.2.2.2.2
  have h8 := hIn.2.1.2
  have hV : za m (yv P y) = V := hY.2.2.2.1
  have hR : za m (yv P y) 230 = nI R := by rw [hV, hIn.2.1.1]
  have h24 : zf m 24 (zR P 180 x) = nI R := hb.2.2.1.1.2.2.1
  unfold f_X10_removeRule f_X11_removeRule
  rw [zl_s, c_hasR h24 h8, zb_s]
  dsimp only
  by_cases h1 : 0 ≤ w ∧ w < nI R
  · obtain ⟨i, hi, rfl⟩ := i_lt_of h1.1 h1.2 (by omega)
    rw [decide_eq_true h1, if_neg (by decide), zl_s, c_stop, zb_s, zl_s, zl_s]
    have hC1 := hC.stop hn
    have f1 := hC.2.2.2.2.1.stop.2
    have hY1 := hY.sm (f1.sm (o 1 6 (by decide)))
    have hb1 := bMp.sm hb (f1.sm (o 2 6 (by decide)))
    generalize zfp (zfp m 45 (zR P 184 x) 0) 46 (zR P 184 x) 0 = m1 at *
    have e24 : zf m1 24 (zR P 180 x) = nI R := hb1.2.2.1.1.2.2.1
    have eR : nI R - 1 = nI (R - 1) := by rw [show (1 : Int32) = nI 1 from rfl, n_sub _ _ (by omega)]
    obtain ⟨m2, q1, q2, q3⟩ := c_shift (a := i) (b := R - 1) hb1.1.1.2.2.1 hb1.2.1 (by omega) (by omega)
    rw [e24, eR, q1, zb_s, zl_s, q3.1, e24, eR, zl_s, zl_s, zf_eq]
    have hou := hb1.1.ou
    have f3 : Fz own (zR P 180 x) m1 (zfp m2 24 (zR P 180 x) (nI (R - 1))) := ⟨fun a j h => q3.2.2 a j (fun e => h (by rw [e]; exact hb1.1.2.2.2.2.2.1)), fun f a h => by rw [zf_ne (Or.inr (fun e => h (by rw [e]; exact hou)))]; exact q3.1 f a, fun a j _ => q3.2.1 a j⟩
    have hb3 : bMp own P (zfp m2 24 (zR P 180 x) (nI (R - 1))) (zR P 180 x) (gPm g (mvS i (R - 1))) N (R - 1) Tt (rmL V i R (231 + 58 * (R - 1))) B := by
      refine hb1.perm (fun r hr => mvS_lt (by omega) (by omega) hr) (fun a b _ _ q => mvS_inj q) (by omega) (fun r hr => mvS_lt (by omega) (by omega) (by omega)) q2 q3.2.2 (fun f a h => by rw [zf_ne (Or.inl h)]; exact q3.1 f a) zf_eq q3.2.1 (if_pos rfl) (fun j hj => ?_) (fun r j hr hj => ?_)
      · unfold rmL
        rw [if_neg (by omega), if_neg (by omega)]
      · unfold rmL mvS
        rw [if_neg (by omega), if_pos (show i ≤ R - 1 by omega)]
        by_cases h3 : r < i
        · rw [if_neg (by omega), if_pos h3]
        · rw [if_pos (by omega), if_neg h3, if_pos hr]
          congr 1
          omega
    have hC3 := hC1.main hn f3 hb3.b (Nat.le_refl B)
    have hY3 := hY1.sm (f3.sm (o 1 2 (by decide)))
    generalize zfp m2 24 (zR P 180 x) (nI (R - 1)) = m3 at *
    refine ⟨_, m3, _, rfl, ?_, REL.chg hn (hC3.mono (by omega)) hY3 hI.1⟩
    have hV3 : za (zfp (zfp m3 205 y 0) 210 y 0) (zR P 200 y) = V := hY3.2.2.2.1
    have hV4 : za m3 (yv P y) = V := hY3.2.2.2.1
    have hl := r_rem_l (m := zfp (zfp m3 205 y 0) 210 y 0) (V := V) ok hi h8 (58 * (R - 1 - i)) (231 + 58 * i) zfuel (by omega) (by unfold zfuel; omega) (by omega)
    have e0 : wA (zfp (zfp m3 205 y 0) 210 y 0) (yv P y) (rmL V i R (231 + 58 * i)) = zap (zfp (zfp m3 205 y 0) 210 y 0) (zR P 200 y) 230 (nI (R - 1)) := by
      rw [zap_eq, hV3]
      congr 1
      funext j
      unfold rmL uV
      by_cases h3 : j = 230
      · rw [if_pos h3, if_pos h3]
      · rw [if_neg h3, if_neg h3, if_neg (by omega)]
    rw [e0] at hl
    have e9 : ((231 : Int32) + ((58 : Int32) * nI i)) = nI (231 + 58 * i) := by simp only [nlit, n_mul, n_add]
    rw [r_isR ok (by rw [hV4, hIn.2.1.1]) h8, zb_s]
    dsimp only
    rw [decide_eq_true h1, if_neg (by decide), r_changes, zb_s]
    dsimp only
    rw [zl_s, ok.1, show zin (230 : Int32) 723 = true by decide, zgd_t, zgd_t, show (230 : Int32).toNatClampNeg = 230 by decide, hV3, hIn.2.1.1, eR, zl_s, e9, zl_s]
    exact hl
  · rw [decide_eq_false h1, if_pos bI_f]
    refine ⟨-1, m, m, rfl, ?_, hrel⟩
    rw [r_isR ok hR h8, zb_s]
    dsimp only
    rw [decide_eq_false h1, if_pos bI_f]
/-- two neighbours changed -/
def swL (V : Nat → Int32) (k c : Nat) : Nat → Int32 := fun j => if 231 + 58 * k ≤ j ∧ j < 231 + 58 * k + c then V (j + 58) else if 231 + 58 * (k + 1) ≤ j ∧ j < 231 + 58 * (k + 1) + c then V (j - 58) else V j
theorem swL_0 {V : Nat → Int32} {k : Nat} : swL V k 0 = V := by
  funext j
  unfold swL
  rw [if_neg (by omega), if_neg (by omega)]
theorem swL_s {V : Nat → Int32} {k c : Nat} (hc : c < 58) : uV (uV (swL V k c) (231 + 58 * k + c) (V (231 + 58 * k + c + 58))) (231 + 58 * k + c + 58) (V (231 + 58 * k + c)) = swL V k (c + 1) := by
  funext j
  unfold uV swL
  by_cases h1 : j = 231 + 58 * k + c + 58
  · rw [if_pos h1, if_neg (by omega), if_pos (by omega)]
    congr 1
    omega
  · rw [if_neg h1]
    by_cases h2 : j = 231 + 58 * k + c
    · rw [if_pos h2, if_pos (by omega)]
      congr 1
      omega
    · rw [if_neg h2]
      by_cases h3 : 231 + 58 * k ≤ j ∧ j < 231 + 58 * k + c
      · rw [if_pos h3, if_pos (by omega)]
      · rw [if_neg h3, if_neg (show ¬ (231 + 58 * k ≤ j ∧ j < 231 + 58 * k + (c + 1)) by omega)]
        by_cases h4 : 231 + 58 * (k + 1) ≤ j ∧ j < 231 + 58 * (k + 1) + c
        · rw [if_pos h4, if_pos (by omega)]
        · rw [if_neg h4, if_neg (by omega)]
theorem r_swap_l (ok : yOK P y) {k : Nat} (hk : k < 7) : ∀ d c fu, c + d = 58 → d < fu → f_X11_swaps_b9 P fu y (nI k) (nI (231 + 58 * k + c)) (wA m (yv P y) (swL V k c)) = some (0, wA m (yv P y) (swL V k 58)) := by
  intro d
  have e : ((231 : Int32) + ((58 : Int32) * (nI k + 1))) = nI (231 + 58 * (k + 1)) := by simp only [nlit, n_mul, n_add]
  induction d with
  | zero =>
    intro c fu hc hfu
    obtain ⟨fu, rfl⟩ : ∃ f, fu = f + 1 := ⟨fu - 1, by omega⟩
    have : c = 58 := by omega
    subst this
    unfold f_X11_swaps_b9
    rw [e, if_pos ((n_le (by omega) (by omega)).mpr (by omega))]
  | succ d ih =>
    intro c fu hc hfu
    obtain ⟨fu, rfl⟩ : ∃ f, fu = f + 1 := ⟨fu - 1, by omega⟩
    unfold f_X11_swaps_b9
    have e58 : nI (231 + 58 * k + c) + 58 = nI (231 + 58 * k + c + 58) := n_add _ 58
    have e2 : swL V k c (231 + 58 * k + c) = V (231 + 58 * k + c) := by
      unfold swL
      rw [if_neg (by omega), if_neg (by omega)]
    have e3 : swL V k c (231 + 58 * k + c + 58) = V (231 + 58 * k + c + 58) := by
      unfold swL
      rw [if_neg (by omega), if_neg (by omega)]
    rw [e, if_neg (by rw [n_le (by omega) (by omega)]; omega), zl_s, ok.1, zin_v (by omega), zgd_t, nat_v (by omega), za_wA, e2, zl_s, zl_s, zl_s, ok.1, e58, zin_v (by omega), zgd_t, zin_v (by omega), zgd_t, nat_v (by omega), za_wA, e3, zap_wA, zl_s, zl_s, ok.1, zin_v (by omega), zgd_t, zap_wA, swL_s (by omega), zl_s, zl_s, nI_1]
    exact ih (c + 1) fu (by omega) (by omega)
theorem r_swaps (ok : yOK P y) {k : Nat} (hk : k < 7) : f_X11_swaps P y (nI k) (wA m (yv P y) V) = some (0, wA m (yv P y) (swL V k 58)) := by
  have e : ((231 : Int32) + ((58 : Int32) * nI k)) = nI (231 + 58 * k + 0) := by simp only [nlit, n_mul, n_add]; rfl
  have h := r_swap_l (m := m) (V := V) ok hk 58 0 zfuel (by omega) (by unfold zfuel; omega)
  rw [swL_0] at h
  unfold f_X11_swaps
  rw [zl_s, e]
  exact h
def mvV (V : Nat → Int32) (a b : Nat) : Nat → Int32 := fun j => if 231 ≤ j ∧ j < 695 then V (231 + 58 * mvS a b ((j - 231) / 58) + (j - 231) % 58) else V j
theorem mvV_id {V : Nat → Int32} {a : Nat} : mvV V a a = V := by
  funext j
  unfold mvV
  split
  · have : mvS a a ((j - 231) / 58) = (j - 231) / 58 := by
      unfold mvS
      repeat' split
      all_goals omega
    rw [this]
    exact congrArg V (by omega)
  · rfl
theorem mvV_at {V : Nat → Int32} {a b r c : Nat} (hr : r < 8) (hc : c < 58) : mvV V a b (231 + 58 * r + c) = V (231 + 58 * mvS a b r + c) := by
  unfold mvV
  rw [if_pos (by omega), show (231 + 58 * r + c - 231) / 58 = r by omega, show (231 + 58 * r + c - 231) % 58 = c by omega]
theorem mvV_o {V : Nat → Int32} {a b j : Nat} (h : j < 231 ∨ 695 ≤ j) : mvV V a b j = V j := by
  unfold mvV
  rw [if_neg (by omega)]
theorem row_c {j : Nat} (h : 231 ≤ j ∧ j < 695) : ∃ r c, r < 8 ∧ c < 58 ∧ j = 231 + 58 * r + c := ⟨(j - 231) / 58, (j - 231) % 58, by omega, by omega, by omega⟩
theorem swL_at {V : Nat → Int32} {k r c : Nat} (hc : c < 58) : swL V k 58 (231 + 58 * r + c) = V (231 + 58 * (if r = k then k + 1 else if r = k + 1 then k else r) + c) := by
  unfold swL
  by_cases h1 : r = k
  · rw [if_pos (by omega), if_pos h1]
    congr 1
    omega
  · rw [if_neg (by omega), if_neg h1]
    by_cases h2 : r = k + 1
    · rw [if_pos (by omega), if_pos h2]
      congr 1
      omega
    · rw [if_neg (by omega), if_neg h2]
theorem sw_up {V : Nat → Int32} {a k : Nat} (h : a ≤ k) (hk : k < 7) : swL (mvV V a k) k 58 = mvV V a (k + 1) := by
  funext j
  by_cases hj : 231 ≤ j ∧ j < 695
  · obtain ⟨r, c, hr, hc, rfl⟩ := row_c hj
    rw [swL_at hc, mvV_at hr hc]
    by_cases h1 : r = k
    · rw [if_pos h1, mvV_at (by omega) hc]
      congr 3
      unfold mvS
      repeat' split
      all_goals omega
    · rw [if_neg h1]
      by_cases h2 : r = k + 1
      · rw [if_pos h2, mvV_at (by omega) hc]
        congr 3
        unfold mvS
        repeat' split
        all_goals omega
      · rw [if_neg h2, mvV_at (by omega) hc]
        congr 3
        unfold mvS
        repeat' split
        all_goals omega
  · have h0 : swL (mvV V a k) k 58 j = mvV V a k j := by
      unfold swL
      rw [if_neg (by omega), if_neg (by omega)]
    rw [h0, mvV_o (by omega), mvV_o (by omega)]
theorem sw_dn {V : Nat → Int32} {a k : Nat} (h : k < a) (hk : a < 8) : swL (mvV V a (k + 1)) k 58 = mvV V a k := by
  funext j
  by_cases hj : 231 ≤ j ∧ j < 695
  · obtain ⟨r, c, hr, hc, rfl⟩ := row_c hj
    rw [swL_at hc, mvV_at hr hc]
    by_cases h1 : r = k
    · rw [if_pos h1, mvV_at (by omega) hc]
      congr 3
      unfold mvS
      repeat' split
      all_goals omega
    · rw [if_neg h1]
      by_cases h2 : r = k + 1
      · rw [if_pos h2, mvV_at (by omega) hc]
        congr 3
        unfold mvS
        repeat' split
        all_goals omega
      · rw [if_neg h2, mvV_at (by omega) hc]
        congr 3
        unfold mvS
        repeat' split
        all_goals omega
  · have h0 : swL (mvV V a (k + 1)) k 58 j = mvV V a (k + 1) j := by
      unfold swL
      rw [if_neg (by omega), if_neg (by omega)]
    rw [h0, mvV_o (by omega), mvV_o (by omega)]
def absD (a b : Nat) : Int32 := if nI a ≤ nI b then nI b - nI a else nI a - nI b
theorem abs_c {a b : Nat} (ha : a < 8) (hb : b < 8) : (if 0 ≤ (nI a - nI b) then (nI a - nI b) else 0 - (nI a - nI b)) = absD a b := by
  have h : ∀ i j : Fin 8, (if 0 ≤ (nI i - nI j) then (nI i - nI j) else 0 - (nI i - nI j)) = absD i j := by decide +kernel
  exact h ⟨a, ha⟩ ⟨b, hb⟩
theorem r_mvD_l (ok : yOK P y) {a b : Nat} (ha : a < 8) : ∀ d k fu, b + d = k → d < fu → k ≤ a → f_X11_moveRule_b47 P fu y (nI a) (nI b) (nI k - 1) (wA m (yv P y) (mvV V a k)) = some (absD a b, wA m (yv P y) (mvV V a b)) := by
  intro d
  induction d with
  | zero =>
    intro k fu hk hfu hka
    obtain ⟨fu, rfl⟩ : ∃ f, fu = f + 1 := ⟨fu - 1, by omega⟩
    have : k = b := by omega
    subst this
    have e : nI k - 1 < nI k := by
      have h : ∀ i : Fin 8, nI i - 1 < nI i := by decide +kernel
      exact h ⟨k, by omega⟩
    unfold f_X11_moveRule_b47 absD
    rw [if_pos e]
    split <;> rfl
  | succ d ih =>
    intro k fu hk hfu hka
    obtain ⟨fu, rfl⟩ : ∃ f, fu = f + 1 := ⟨fu - 1, by omega⟩
    obtain ⟨k, rfl⟩ : ∃ j, k = j + 1 := ⟨k - 1, by omega⟩
    have e1 : nI (k + 1) - 1 = nI k := by rw [show (1 : Int32) = nI 1 from rfl, n_sub _ _ (by omega), Nat.add_sub_cancel]
    unfold f_X11_moveRule_b47
    rw [e1, if_neg (by rw [n_lt (by omega) (by omega)]; omega), r_swaps ok (by omega), zb_s, zl_s, ← Int32.sub_eq_add_neg, sw_dn (by omega) ha]
    exact ih k fu (by omega) (by omega) (by omega)
theorem r_mvU_l (ok : yOK P y) {a b : Nat} (hb : b < 8) (hab : a ≤ b) : ∀ d k fu, k + d = b → d < fu → a ≤ k → f_X11_moveRule_b27 P fu y (nI a) (nI b) (nI k) (wA m (yv P y) (mvV V a k)) = some (absD a b, wA m (yv P y) (mvV V a b)) := by
  intro d
  induction d with
  | zero =>
    intro k fu hk hfu hka
    obtain ⟨fu, rfl⟩ : ∃ f, fu = f + 1 := ⟨fu - 1, by omega⟩
    have : k = b := by omega
    subst this
    have e : nI a - 1 < nI k := by
      have h : ∀ i j : Fin 8, i.val ≤ j.val → nI i - 1 < nI j := by decide +kernel
      exact h ⟨a, by omega⟩ ⟨k, by omega⟩ hab
    unfold f_X11_moveRule_b27
    rw [if_pos (Int32.le_refl _), zl_s, show zfuel = 999 + 1 from rfl]
    unfold f_X11_moveRule_b47 absD
    rw [if_pos e]
    split <;> rfl
  | succ d ih =>
    intro k fu hk hfu hka
    obtain ⟨fu, rfl⟩ : ∃ f, fu = f + 1 := ⟨fu - 1, by omega⟩
    unfold f_X11_moveRule_b27
    rw [if_neg (by rw [n_le (by omega) (by omega)]; omega), r_swaps ok (by omega), zb_s, zl_s, nI_1, sw_up hka (by omega)]
    exact ih (k + 1) fu (by omega) (by omega) (by omega)
theorem r_move (ok : yOK P y) {a b : Nat} (ha : a < 8) (hb : b < 8) : f_X11_moveRule_b27 P zfuel y (nI a) (nI b) (nI a) (wA m (yv P y) V) = some (absD a b, wA m (yv P y) (mvV V a b)) := by
  by_cases hab : a ≤ b
  · have h := r_mvU_l (m := m) (V := V) ok hb hab (b - a) a zfuel (by omega) (by unfold zfuel; omega) (Nat.le_refl _)
    rw [mvV_id] at h
    exact h
  · have h := r_mvD_l (m := m) (V := V) (b := b) ok ha (a - b) a zfuel (by omega) (by unfold zfuel; omega) (Nat.le_refl _)
    rw [mvV_id] at h
    rw [show zfuel = 999 + 1 from rfl]
    unfold f_X11_moveRule_b27
    rw [if_pos ((n_le (by omega) (by omega)).mpr (by omega)), zl_s]
    exact h
theorem L_moveRule {w v : Int32} : Call own P x y (f_X10_moveRule P x w v) (f_X11_moveRule P y w v) := by
  intro B m hB h0
  have hrel := h0.same
  obtain ⟨hn, V, sv, Vs, mk, Vm, tn, T, pn, Q, k, it, hC, hY, hI⟩ := h0
  obtain ⟨g, N, R, Tt, hb⟩ := hC.1
  have ok := hY.1
  have o := ow hn
  have hIn := hb.2.2.2.2.2
  have h8 := hIn.2.1.2
  have hV : za m (yv P y) = V := hY.2.2.2.1
  have hR : za m (yv P y) 230 = nI R := by rw [hV, hIn.2.1.1]
  have h24 : zf m 24 (zR P 180 x) = nI R := hb.2.2.1.1.2.2.1
  unfold f_X10_moveRule f_X11_moveRule
  simp only [zl_s]
  rw [c_hasR h24 h8, zb_s]
  dsimp only
  by_cases h1 : 0 ≤ w ∧ w < nI R
  · obtain ⟨a, ha, rfl⟩ := i_lt_of h1.1 h1.2 (by omega)
    rw [decide_eq_true h1, if_neg (by decide), c_hasR h24 h8, zb_s]
    dsimp only
    by_cases h2 : 0 ≤ v ∧ v < nI R
    · obtain ⟨b, hb', rfl⟩ := i_lt_of h2.1 h2.2 (by omega)
      rw [decide_eq_true h2, if_neg (by decide), c_stop, zb_s]
      have hC1 := hC.stop hn
      have f1 := hC.2.2.2.2.1.stop.2
      have hY1 := hY.sm (f1.sm (o 1 6 (by decide)))
      have hb1 := bMp.sm hb (f1.sm (o 2 6 (by decide)))
      dsimp only
      generalize zfp (zfp m 45 (zR P 184 x) 0) 46 (zR P 184 x) 0 = m1 at *
      have e24 : zf m1 24 (zR P 180 x) = nI R := hb1.2.2.1.1.2.2.1
      obtain ⟨m2, q1, q2, q3⟩ := c_shift (a := a) (b := b) hb1.1.1.2.2.1 hb1.2.1 (by omega) (by omega)
      rw [q1, zb_s, abs_c (by omega) (by omega)]
      dsimp only
      have f3 : Fz own (zR P 180 x) m1 m2 := ⟨fun a j h => q3.2.2 a j (fun e => h (by rw [e]; exact hb1.1.2.2.2.2.2.1)), fun f a _ => q3.1 f a, fun a j _ => q3.2.1 a j⟩
      have hb3 : bMp own P m2 (zR P 180 x) (gPm g (mvS a b)) N R Tt (mvV V a b) B :=
        hb1.perm (fun r hr => mvS_lt (by omega) (by omega) hr) (fun a b _ _ q => mvS_inj q) (Nat.le_refl _) (fun r hr => mvS_lt (by omega) (by omega) (by omega)) q2 q3.2.2 (fun f a h => q3.1 f a) (by rw [q3.1, e24]) q3.2.1 (by rw [mvV_o (by omega), hIn.2.1.1]) (fun j hj => mvV_o (by omega)) (fun r j hr hj => mvV_at (by omega) hj)
      have hC3 := hC1.main hn f3 hb3.b (Nat.le_refl B)
      have hY3 := hY1.sm (f3.sm (o 1 2 (by decide)))
      refine ⟨_, m2, _, rfl, ?_, REL.chg hn (hC3.mono (by omega)) hY3 hI.1⟩
      have hV3 : za (zfp (zfp m2 205 y 0) 210 y 0) (yv P y) = V := hY3.2.2.2.1
      have hV4 : za m2 (yv P y) = V := hY3.2.2.2.1
      have hl := r_move (m := zfp (zfp m2 205 y 0) 210 y 0) (V := V) (a := a) (b := b) ok (by omega) (by omega)
      have e0 : wA (zfp (zfp m2 205 y 0) 210 y 0) (yv P y) V = zfp (zfp m2 205 y 0) 210 y 0 := by
        conv =>
          lhs
          rw [← hV3]
        exact wA_self
      rw [e0] at hl
      rw [r_isR ok (by rw [hV4, hIn.2.1.1]) h8, zb_s]
      dsimp only
      rw [decide_eq_true h1, if_neg (by decide), r_isR ok (by rw [hV4, hIn.2.1.1]) h8, zb_s]
      dsimp only
      rw [decide_eq_true h2, if_neg (by decide), r_changes, zb_s]
      exact hl
    · rw [decide_eq_false h2, if_pos bI_f]
      refine ⟨-2, m, m, rfl, ?_, hrel⟩
      rw [r_isR ok hR h8, zb_s]
      dsimp only
      rw [decide_eq_true h1, if_neg (by decide), r_isR ok hR h8, zb_s]
      dsimp only
      rw [decide_eq_false h2, if_pos bI_f]
  · rw [decide_eq_false h1, if_pos bI_f]
    refine ⟨-1, m, m, rfl, ?_, hrel⟩
    rw [r_isR ok hR h8, zb_s]
    dsimp only
    rw [decide_eq_false h1, if_pos bI_f]
end MV

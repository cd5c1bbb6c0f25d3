/-! ===== copies: rules ===== -/
/-- a rule object at q, its targets at tt, says what the row W says -/
def RuP (P : zSt) (m : zM) (q : Nat) (tt : Nat → Nat) (W : Nat → Int32) : Prop := zf m 61 q = W 41 ∧ zf m 62 q = W 42 ∧ zf m 64 q = W 43 ∧ zf m 65 q = W 56 ∧ zf m 66 q = W 57 ∧ zf m 141 (zR P 60 q) = W 0 ∧ (∀ k, k < (W 0).toNatClampNeg → za m (zR P 140 (zR P 60 q)) k = W (1 + k)) ∧ ∀ t k, t < (W 43).toNatClampNeg → k < 4 → zf m (tsl k) (tt t) = W (44 + 4 * t + k)
/-- a rule's places -/
def RuF (q p z : Nat) (tt : Nat → Nat) (f a : Nat) : Prop := (60 ≤ f ∧ f < 67 ∧ a = q) ∨ (f = 141 ∧ a = p) ∨ (120 ≤ f ∧ f < 125 ∧ ∃ t, t < 3 ∧ a = tt t)
section CR
variable {own : Nat → Nat} {P : zSt} {m : zM}
theorem c_tcopy {d s : Nat} (h : s ≠ d) : ∃ m', f_X6_copyFrom P d s m = some (0, m') ∧ (∀ k, k < 4 → zf m' (tsl k) d = zf m (tsl k) s) ∧ Fp (fun f a => (120 ≤ f ∧ f < 125) ∧ a = d) (fun _ _ => False) m m' := by
  unfold f_X6_copyFrom
  simp only [zl_s]
  refine ⟨_, rfl, ?_, ?_⟩
  · intro k hk
    have hc : k = 0 ∨ k = 1 ∨ k = 2 ∨ k = 3 := by omega
    rcases hc with rfl | rfl | rfl | rfl <;> simp only [tsl, zf_zfp, h, Nat.reduceEqDiff, and_true, and_false, true_and, false_and, if_true, if_false, reduceIte]
  · repeat (refine Fp.put ?_ (And.intro (by decide) rfl))
    exact Fp.rfl'
theorem c_rtcopy_l {d s n : Nat} {td ts : Nat → Nat} {W : Nat → Int32} (hn3 : n ≤ 3) (hld : zlen P (zR P 63 d) = 3) (hls : zlen P (zR P 63 s) = 3) (hx : ∀ i j, i < 3 → j < 3 → ts i ≠ td j) (hi : ∀ i j, i < 3 → j < 3 → td i = td j → i = j) (hsd : s ≠ d) : ∀ e k fu (m : zM), k + e = n → e < fu → (∀ t, t < 3 → zr m (zR P 63 d) t = td t) → (∀ t, t < 3 → zr m (zR P 63 s) t = ts t) → zf m 64 d = nI n → (∀ t j, t < n → j < 4 → zf m (tsl j) (ts t) = W (44 + 4 * t + j)) → (∀ t j, t < k → j < 4 → zf m (tsl j) (td t) = W (44 + 4 * t + j)) →
    ∃ m', f_X3_copyFrom_b44 P fu d s (nI k) m = some (0, m') ∧ (∀ t j, t < n → j < 4 → zf m' (tsl j) (td t) = W (44 + 4 * t + j)) ∧ zf m' 65 d = zf m 65 s ∧ zf m' 66 d = zf m 66 s ∧ Fp (fun f a => (65 ≤ f ∧ f < 67 ∧ a = d) ∨ (120 ≤ f ∧ f < 125 ∧ ∃ t, t < 3 ∧ a = td t)) (fun _ _ => False) m m' := by
  intro e
  induction e with
  | zero =>
    intro k fu m hk hfu hrd hrs h64 hs hd
    obtain ⟨fu, rfl⟩ : ∃ f, fu = f + 1 := ⟨fu - 1, by omega⟩
    have : k = n := by omega
    subst this
    unfold f_X3_copyFrom_b44
    rw [h64, if_pos (Int32.le_refl _), zl_s, zl_s]
    refine ⟨_, rfl, fun t j ht hj => ?_, ?_, ?_, ?_⟩
    · have := tsl_lt j
      rw [zf_ne (Or.inl (by omega)), zf_ne (Or.inl (by omega))]
      exact hd t j ht hj
    · rw [zf_ne (Or.inl (by omega)), zf_eq]
    · rw [zf_eq, zf_ne (Or.inl (by omega))]
    · exact Fp.put (Fp.put Fp.rfl' (Or.inl (And.intro (by omega) (And.intro (by omega) rfl)))) (Or.inl (And.intro (by omega) (And.intro (by omega) rfl)))
  | succ e ih =>
    intro k fu m hk hfu hrd hrs h64 hs hd
    obtain ⟨fu, rfl⟩ : ∃ f, fu = f + 1 := ⟨fu - 1, by omega⟩
    have hkn : k < n := by omega
    obtain ⟨m1, c1, c2, c3⟩ := c_tcopy (P := P) (m := m) (hx k k (by omega) (by omega))
    have c4 : Fp (fun f a => (65 ≤ f ∧ f < 67 ∧ a = d) ∨ (120 ≤ f ∧ f < 125 ∧ ∃ t, t < 3 ∧ a = td t)) (fun _ _ => False) m m1 := c3.mono (fun f a q => Or.inr ⟨q.1.1, q.1.2, k, by omega, q.2⟩) (fun _ _ q => q)
    have er : ∀ a i, zr m1 a i = zr m a i := fun a i => by unfold zr; rw [c3.1]
    obtain ⟨m2, q1, q2, q3, q4, q5⟩ := ih (k + 1) fu m1 (by omega) (by omega) (fun t ht => by rw [er]; exact hrd t ht) (fun t ht => by rw [er]; exact hrs t ht) (by rw [c3.2.1 _ _ (fun q => absurd q.1.1 (by omega))]; exact h64) (fun t j ht hj => by rw [c3.2.1 _ _ (fun q => hx t k (by omega) (by omega) q.2)]; exact hs t j ht hj) (fun t j ht hj => by
      by_cases e9 : t = k
      · subst e9
        rw [c2 j hj]
        exact hs t j hkn hj
      · rw [c3.2.1 _ _ (fun q => e9 (hi t k (by omega) (by omega) q.2))]
        exact hd t j (by omega) hj)
    unfold f_X3_copyFrom_b44
    rw [h64, if_neg (by rw [n_le (by omega) (by omega)]; omega), zl_s, hld, zin_3 (by omega), zgd_t, n_nat (by omega), hrd k (by omega), zl_s, zl_s, hls, zin_3 (by omega), zgd_t, hrs k (by omega), zl_s, c1, zb_s, zl_s, nI_1]
    refine ⟨m2, q1, q2, ?_, ?_, c4.trans q5⟩
    · rw [q3, c3.2.1 _ _ (fun q => absurd q.1.1 (by omega))]
    · rw [q4, c3.2.1 _ _ (fun q => absurd q.1.1 (by omega))]
theorem c_rcopy {d s l n : Nat} {td ts : Nat → Nat} {W : Nat → Int32} (hs : RuP P m s ts W) (h0 : W 0 = nI l) (hl40 : l ≤ 40) (hch : ∀ k, k < 40 → ∃ c, c < 128 ∧ W (1 + k) = nI c) (h43 : W 43 = nI n) (hn3 : n ≤ 3) (hld : zlen P (zR P 63 d) = 3) (hls : zlen P (zR P 63 s) = 3) (hzd : zlen P (zR P 140 (zR P 60 d)) = 40) (hzs : zlen P (zR P 140 (zR P 60 s)) = 40) (hx : ∀ i j, i < 3 → j < 3 → ts i ≠ td j) (hi : ∀ i j, i < 3 → j < 3 → td i = td j → i = j) (hsd : s ≠ d) (hpp : zR P 60 s ≠ zR P 60 d) (hzz : zR P 140 (zR P 60 s) ≠ zR P 140 (zR P 60 d)) (hrd : ∀ t, t < 3 → zr m (zR P 63 d) t = td t) (hrs : ∀ t, t < 3 → zr m (zR P 63 s) t = ts t) :
    ∃ m', f_X3_copyFrom P d s m = some (0, m') ∧ RuP P m' d td W ∧ Fp (RuF d (zR P 60 d) (zR P 140 (zR P 60 d)) td) (fun a _ => a = zR P 140 (zR P 60 d)) m m' := by
  obtain ⟨a1, a2, a3, a4, a5, a6, a7, a8⟩ := hs
  rw [h0, n_nat (by omega)] at a7
  rw [h43, n_nat (by omega)] at a8
  -- the text
  have tx0 : TxP P (zfp m 141 (zR P 60 d) 0) (zR P 60 d) 0 (fun _ => 0) := ⟨zf_eq, by intro k hk; omega⟩
  have txs : TxP P (zfp m 141 (zR P 60 d) 0) (zR P 60 s) l (fun k => W (1 + k)) := ⟨by rw [zf_ne (Or.inr hpp), a6, h0], fun k hk => a7 k hk⟩
  obtain ⟨m1, p1, p2, p3⟩ := c_putAll tx0 hzd (by omega) txs hzs (fun k hk => hch k (by omega)) hpp hzz
  have f1 : Fp (RuF d (zR P 60 d) (zR P 140 (zR P 60 d)) td) (fun a _ => a = zR P 140 (zR P 60 d)) m m1 := (Fp.put (S := RuF d (zR P 60 d) (zR P 140 (zR P 60 d)) td) Fp.rfl' (Or.inr (Or.inl (And.intro rfl rfl)))).trans (p3.mono (fun f a q => Or.inr (Or.inl q)) (fun _ _ q => q))
  have k1 : ∀ f a, f ≠ 141 → zf m1 f a = zf m f a := fun f a h => by rw [p3.2.1 _ _ (fun q => h q.1), zf_ne (Or.inl h)]
  unfold f_X3_copyFrom f_X7_clear
  rw [zl_s, zl_s, zb_s, zl_s, zl_s]
  dsimp only
  rw [p1, zb_s]
  dsimp only
  rw [zl_s, zl_s, zl_s]
  -- the numbers
  have e61 : zf m1 61 s = W 41 := by rw [k1 _ _ (by omega), a1]
  have e62 : zf (zfp m1 61 d (W 41)) 62 s = W 42 := by rw [zf_ne (Or.inl (by omega)), k1 _ _ (by omega), a2]
  have e64 : zf (zfp (zfp m1 61 d (W 41)) 62 d (W 42)) 64 s = W 43 := by rw [zf_ne (Or.inl (by omega)), zf_ne (Or.inl (by omega)), k1 _ _ (by omega), a3]
  rw [e61, e62, e64]
  have f2 : Fp (RuF d (zR P 60 d) (zR P 140 (zR P 60 d)) td) (fun a _ => a = zR P 140 (zR P 60 d)) m (zfp (zfp (zfp m1 61 d (W 41)) 62 d (W 42)) 64 d (W 43)) := ((f1.put (Or.inl (And.intro (by omega) (And.intro (by omega) rfl)))).put (Or.inl (And.intro (by omega) (And.intro (by omega) rfl)))).put (Or.inl (And.intro (by omega) (And.intro (by omega) rfl)))
  have k2 : ∀ f a, 65 ≤ f → f ≠ 141 → zf (zfp (zfp (zfp m1 61 d (W 41)) 62 d (W 42)) 64 d (W 43)) f a = zf m f a := fun f a h h2 => by rw [zf_ne (Or.inl (by omega)), zf_ne (Or.inl (by omega)), zf_ne (Or.inl (by omega)), k1 f a h2]
  have er : ∀ a i, zr (zfp (zfp (zfp m1 61 d (W 41)) 62 d (W 42)) 64 d (W 43)) a i = zr m a i := fun a i => by unfold zr; rw [f2.1]
  obtain ⟨m2, q1, q2, q3, q4, q5⟩ := c_rtcopy_l (P := P) (d := d) (s := s) (n := n) (td := td) (ts := ts) (W := W) hn3 hld hls hx hi hsd n 0 zfuel (zfp (zfp (zfp m1 61 d (W 41)) 62 d (W 42)) 64 d (W 43)) (by omega) (by unfold zfuel; omega) (fun t ht => by rw [er]; exact hrd t ht) (fun t ht => by rw [er]; exact hrs t ht) (by rw [zf_eq, h43]) (fun t j ht hj => by have := tsl_lt j; rw [k2 _ _ (by omega) (by omega)]; exact a8 t j ht hj) (by intro t j ht; omega)
  have q1' : f_X3_copyFrom_b44 P zfuel d s 0 (zfp (zfp (zfp m1 61 d (W 41)) 62 d (W 42)) 64 d (W 43)) = some (0, m2) := q1
  rw [q1']
  have k5 : ∀ f a, f < 65 ∨ f = 141 → zf m2 f a = zf (zfp (zfp (zfp m1 61 d (W 41)) 62 d (W 42)) 64 d (W 43)) f a := fun f a h => q5.2.1 f a (fun q => by rcases q with q | q <;> omega)
  refine ⟨m2, rfl, ⟨?_, ?_, ?_, ?_, ?_, ?_, ?_, ?_⟩, f2.trans (q5.mono (fun f a q => ?_) (fun _ _ q => q.elim))⟩
  · rw [k5 _ _ (by omega), zf_ne (Or.inl (by omega)), zf_ne (Or.inl (by omega)), zf_eq]
  · rw [k5 _ _ (by omega), zf_ne (Or.inl (by omega)), zf_eq]
  · rw [k5 _ _ (by omega), zf_eq]
  · rw [q3, k2 _ _ (by omega) (by omega), a4]
  · rw [q4, k2 _ _ (by omega) (by omega), a5]
  · rw [k5 _ _ (by omega), zf_ne (Or.inl (by omega)), zf_ne (Or.inl (by omega)), zf_ne (Or.inl (by omega)), p2.1, Nat.zero_add, h0]
  · intro k hk
    rw [h0, n_nat (by omega)] at hk
    rw [q5.2.2 _ k (fun q => q)]
    show za m1 _ k = _
    rw [p2.2 k (by omega)]
    unfold sCat
    rw [if_neg (by omega), Nat.sub_zero]
  · rw [h43, n_nat (by omega)]
    exact q2
  · rcases q with q | q
    · exact Or.inl ⟨by omega, q.2.1, q.2.2⟩
    · exact Or.inr (Or.inr q)
end CR
section CM
variable {own : Nat → Nat} {P : zSt} {m : zM} {u u' N R : Nat} {g g' : zGr} {V : Nat → Int32}
/-- the rules' places are apart -/
def GQ (P : zSt) (g : zGr) : Prop := (∀ i j, i < 8 → j < 8 → gQ g i = gQ g j → i = j) ∧ (∀ i j, i < 8 → j < 8 → gW P g i = gW P g j → i = j) ∧ ∀ i j, i < 8 → j < 8 → gZ P g i = gZ P g j → i = j
theorem RuP.of (h1 : PicR P m g R (-1) V) (h2 : PicT m g R V) {r : Nat} (hr : r < R) : RuP P m (gQ g r) (gT g r) (fun j => V (231 + 58 * r + j)) := by
  obtain ⟨a1, a2, a3, a4, a5, a6, a7⟩ := h1 r hr
  refine ⟨a1, a2, a3, a4, a5, a6, fun k hk => ?_, fun t k ht hk => ?_⟩
  · rw [a7 k hk]
    exact congrArg V (by omega)
  · rw [h2 r t k hr ht hk]
    exact congrArg V (by omega)
theorem RuP.to (h : ∀ r, r < R → RuP P m (gQ g r) (gT g r) (fun j => V (231 + 58 * r + j))) : PicR P m g R (-1) V ∧ PicT m g R V := by
  refine ⟨fun r hr => ?_, fun r t k hr ht hk => ?_⟩
  · obtain ⟨a1, a2, a3, a4, a5, a6, a7, a8⟩ := h r hr
    refine ⟨a1, a2, a3, a4, a5, a6, fun k hk => ?_⟩
    rw [a7 k hk]
    exact congrArg V (by omega)
  · obtain ⟨a1, a2, a3, a4, a5, a6, a7, a8⟩ := h r hr
    rw [a8 t k ht hk]
    exact congrArg V (by omega)
theorem RuP.fp {m' : zM} {q p z : Nat} {tt : Nat → Nat} {W : Nat → Int32} {S A : Nat → Nat → Prop} (h : RuP P m q tt W) (f : Fp S A m m') (h1 : ∀ i, 60 ≤ i → i < 67 → ¬ S i q) (h2 : ¬ S 141 (zR P 60 q)) (h3 : ∀ i t, 120 ≤ i → i < 125 → t < (W 43).toNatClampNeg → ¬ S i (tt t)) (h4 : ∀ k, ¬ A (zR P 140 (zR P 60 q)) k) : RuP P m' q tt W := by
  obtain ⟨a1, a2, a3, a4, a5, a6, a7, a8⟩ := h
  refine ⟨?_, ?_, ?_, ?_, ?_, ?_, fun k hk => ?_, fun t k ht hk => ?_⟩
  · rw [f.2.1 _ _ (h1 61 (by omega) (by omega)), a1]
  · rw [f.2.1 _ _ (h1 62 (by omega) (by omega)), a2]
  · rw [f.2.1 _ _ (h1 64 (by omega) (by omega)), a3]
  · rw [f.2.1 _ _ (h1 65 (by omega) (by omega)), a4]
  · rw [f.2.1 _ _ (h1 66 (by omega) (by omega)), a5]
  · rw [f.2.1 _ _ h2, a6]
  · rw [f.2.2 _ _ (h4 k), a7 k hk]
  · have := tsl_lt k
    rw [f.2.1 _ _ (h3 _ t (by omega) (by omega) ht), a8 t k ht hk]
theorem c_copyR_l (hf : Mf own P u g N) (hf' : Mf own P u' g' N) (hq : GQ P g) (hu : u' ≠ u) (h8 : R ≤ 8) (hA : ∀ r, r < R → RuA V r) {F : zM → Option (Int32 × zM)} (hF : ∀ fu (m : zM), zf m 24 u = nI R → f_X1_copyFrom_b77 P (fu + 1) u u' (nI R) m = F m) : ∀ d k fu (m : zM), k + d = R → d < fu → GM P m u g → GM P m u' g' → zf m 24 u = nI R → (∀ r, r < R → RuP P m (gQ g' r) (gT g' r) (fun j => V (231 + 58 * r + j))) → (∀ r, r < k → RuP P m (gQ g r) (gT g r) (fun j => V (231 + 58 * r + j))) →
    ∃ m', f_X1_copyFrom_b77 P fu u u' (nI k) m = F m' ∧ (∀ r, r < R → RuP P m' (gQ g r) (gT g r) (fun j => V (231 + 58 * r + j))) ∧ Fp (fun f a => 60 ≤ f ∧ ¬ (100 ≤ f ∧ f < 110) ∧ own a = u) (fun a _ => ∃ r, r < 8 ∧ a = gZ P g r) m m' := by
  have h12 := hf.2.2
  have o1 := hf.2.1.2.2.2.2.2.2.2.2.2.2.2.2.2
  have o2 := hf'.2.1.2.2.2.2.2.2.2.2.2.2.2.2.2
  intro d
  induction d with
  | zero =>
    intro k fu m hk hfu hG hG' h24 hs hp
    obtain ⟨fu, rfl⟩ : ∃ f, fu = f + 1 := ⟨fu - 1, by omega⟩
    have : k = R := by omega
    subst this
    exact ⟨m, hF fu m h24, hp, Fp.rfl'⟩
  | succ d ih =>
    intro k fu m hk hfu hG hG' h24 hs hp
    obtain ⟨fu, rfl⟩ : ∃ f, fu = f + 1 := ⟨fu - 1, by omega⟩
    have hkR : k < R := by omega
    have hk8 : k < 8 := by omega
    obtain ⟨w1, w2, w3, w4⟩ := o1 k hk8
    obtain ⟨v1, v2, v3, v4⟩ := o2 k hk8
    obtain ⟨⟨⟨l, l1, l2⟩, ⟨n, n0, n1, n2, n3⟩, -⟩, -, -, hch, -⟩ := hA k hkR
    obtain ⟨m1, c1, c2, c3⟩ := c_rcopy (P := P) (m := m) (d := gQ g k) (s := gQ g' k) (l := l) (n := n) (td := gT g k) (ts := gT g' k) (W := fun j => V (231 + 58 * k + j)) (hs k hkR) l2 l1 (fun i hi => by
      obtain ⟨c, c1, c2⟩ := hch i hi
      exact ⟨c, c1, by rw [← c2]; exact congrArg V (by omega)⟩) n2 n1 (hf.1.2.2.2.1 k hk8) (hf'.1.2.2.2.1 k hk8) (hf.1.2.2.2.2.2.2.2 k hk8) (hf'.1.2.2.2.2.2.2.2 k hk8) (fun i j hi hj q => hu (by rw [← v4 i hi, ← w4 j hj, q])) (fun i j hi hj q => (hf.2.1.2.2.1 k i k j hk8 hi hk8 hj q).2) (fun q => hu (by rw [← v1, ← w1, q])) (fun q => hu (by rw [← v2, ← w2]; exact congrArg own q)) (fun q => hu (by rw [← v3, ← w3]; exact congrArg own q)) (fun t ht => hG.2.2.2.1 k t hk8 ht) (fun t ht => hG'.2.2.2.1 k t hk8 ht)
    have oS : ∀ f a, RuF (gQ g k) (zR P 60 (gQ g k)) (zR P 140 (zR P 60 (gQ g k))) (gT g k) f a → 60 ≤ f ∧ ¬ (100 ≤ f ∧ f < 110) ∧ own a = u := by
      rintro f a (⟨q1, q2, q3⟩ | ⟨q1, q2⟩ | ⟨q1, q2, t, q3, q4⟩)
      · exact ⟨by omega, by omega, by rw [q3, w1]⟩
      · exact ⟨by omega, by omega, by rw [q2]; exact w2⟩
      · exact ⟨by omega, by omega, by rw [q4, w4 t q3]⟩
    have c4 : Fp (fun f a => 60 ≤ f ∧ ¬ (100 ≤ f ∧ f < 110) ∧ own a = u) (fun a _ => ∃ r, r < 8 ∧ a = gZ P g r) m m1 := c3.mono oS (fun a _ q => ⟨k, hk8, q⟩)
    have hs1 : ∀ r, r < R → RuP P m1 (gQ g' r) (gT g' r) (fun j => V (231 + 58 * r + j)) := by
      intro r hr
      obtain ⟨x1, x2, x3, x4⟩ := o2 r (by omega)
      have ln : (V (231 + 58 * r + 43)).toNatClampNeg ≤ 3 := by
        obtain ⟨⟨-, ⟨n', b0, b1, b2, b3⟩, -⟩, -⟩ := hA r hr
        rw [b2, n_nat (by omega)]
        exact b1
      refine (hs r hr).fp (p := 0) (z := 0) c4 (fun i _ _ q => hu (by rw [← x1, q.2.2])) (fun q => hu (by rw [← x2]; exact q.2.2)) (fun i t _ _ ht q => hu (by rw [← x4 t (by omega), q.2.2])) (fun j q => ?_)
      obtain ⟨r', q1, q2⟩ := q
      exact hu (by rw [← x3, ← (o1 r' q1).2.2.1]; exact congrArg own q2)
    have hp1 : ∀ r, r < k + 1 → RuP P m1 (gQ g r) (gT g r) (fun j => V (231 + 58 * r + j)) := by
      intro r hr
      by_cases e : r = k
      · subst e
        exact c2
      · have ln : (V (231 + 58 * r + 43)).toNatClampNeg ≤ 3 := by
          obtain ⟨⟨-, ⟨n', b0, b1, b2, b3⟩, -⟩, -⟩ := hA r (by omega)
          rw [b2, n_nat (by omega)]
          exact b1
        refine (hp r (by omega)).fp (p := 0) (z := 0) c3 ?_ ?_ ?_ ?_
        · rintro i hi1 hi2 (⟨q1, q2, q3⟩ | ⟨q1, q2⟩ | ⟨q1, q2, t, q3, q4⟩)
          · exact e (hq.1 r k (by omega) hk8 q3)
          · omega
          · omega
        · rintro (⟨q1, q2, q3⟩ | ⟨q1, q2⟩ | ⟨q1, q2, t, q3, q4⟩)
          · omega
          · exact e (hq.2.1 r k (by omega) hk8 q2)
          · omega
        · rintro i t hi1 hi2 ht (⟨q1, q2, q3⟩ | ⟨q1, q2⟩ | ⟨q1, q2, t', q3, q4⟩)
          · omega
          · omega
          · exact e (hf.2.1.2.2.1 r t k t' (by omega) (by omega) hk8 q3 q4).1
        · intro j q
          exact e (hq.2.2 r k (by omega) hk8 q)
    obtain ⟨m2, q1, q2, q3⟩ := ih (k + 1) fu m1 (by omega) (by omega) (hG.to c3.1) (hG'.to c3.1) (by rw [c4.2.1 24 u (fun q => absurd q.1 (by omega))]; exact h24) hs1 hp1
    unfold f_X1_copyFrom_b77
    rw [h24, if_neg (by rw [n_le (by omega) (by omega)]; omega), zl_s, hf.1.2.2.1, zin_8 hk8, zgd_t, n_nat (by omega), hG.2.2.1 k hk8, zl_s, zl_s, hf'.1.2.2.1, zin_8 hk8, zgd_t, hG'.2.2.1 k hk8, zl_s, c1, zb_s, zl_s, nI_1]
    exact ⟨m2, q1, q2, c4.trans q3⟩
end CM

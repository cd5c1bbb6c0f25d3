/-! ===== copies: backends, services ===== -/
theorem zf_zfp {m : zM} {f a f' a' : Nat} {v : Int32} : zf (zfp m f a v) f' a' = if a' = a ∧ f' = f then v else zf m f' a' := by
  by_cases h : a' = a ∧ f' = f
  · rw [if_pos h, h.1, h.2, zf_eq]
  · rw [if_neg h, zf_ne]
    by_cases e : a' = a
    · exact Or.inl (fun q => h ⟨e, q⟩)
    · exact Or.inr e
section CO
variable {own : Nat → Nat} {P : zSt} {m : zM} {u u' N : Nat} {g g' : zGr} {V : Nat → Int32}
theorem c_bcopy {d s : Nat} (h : s ≠ d) : ∃ m', f_X0_copyFrom P d s m = some (0, m') ∧ (∀ k, k < 12 → zf m' (bsl k) d = zf m (bsl k) s) ∧ Fp (fun f a => f < 20 ∧ a = d) (fun _ _ => False) m m' := by
  unfold f_X0_copyFrom
  simp only [zl_s]
  refine ⟨_, rfl, ?_, ?_⟩
  · intro k hk
    have hc : k = 0 ∨ k = 1 ∨ k = 2 ∨ k = 3 ∨ k = 4 ∨ k = 5 ∨ k = 6 ∨ k = 7 ∨ k = 8 ∨ k = 9 ∨ k = 10 ∨ k = 11 := by omega
    rcases hc with rfl | rfl | rfl | rfl | rfl | rfl | rfl | rfl | rfl | rfl | rfl | rfl <;> simp only [bsl, zf_zfp, h, Nat.reduceEqDiff, and_true, and_false, true_and, false_and, if_true, if_false, reduceIte]
  · repeat (refine Fp.put ?_ (And.intro (by decide) rfl))
    exact Fp.rfl'
theorem c_copyB_l (hf : Mf own P u g N) (hf' : Mf own P u' g' N) (hu : u' ≠ u) : ∀ d k fu (m : zM), k + d = N → d < fu → GM P m u g → GM P m u' g' → PicB m g' N V → zf m 21 u = nI N → PicB m g k V →
    ∃ m', f_X1_copyFrom_b10 P fu u u' (nI k) m = f_X1_copyFrom_b41 P zfuel u u' 0 m' ∧ PicB m' g N V ∧ Fp (fun f a => f < 20 ∧ own a = u) (fun _ _ => False) m m' := by
  have h12 := hf.2.2
  have o1 : ∀ i, i < 12 → own (gB g i) = u := hf.2.1.2.2.2.2.2.2.2.2.2.2.2.1
  have o2 : ∀ i, i < 12 → own (gB g' i) = u' := hf'.2.1.2.2.2.2.2.2.2.2.2.2.2.1
  intro d
  induction d with
  | zero =>
    intro k fu m hk hfu hG hG' hs h21 hp
    obtain ⟨fu, rfl⟩ : ∃ f, fu = f + 1 := ⟨fu - 1, by omega⟩
    have : k = N := by omega
    subst this
    unfold f_X1_copyFrom_b10
    rw [h21, if_pos (Int32.le_refl _)]
    exact ⟨m, rfl, hp, Fp.rfl'⟩
  | succ d ih =>
    intro k fu m hk hfu hG hG' hs h21 hp
    obtain ⟨fu, rfl⟩ : ∃ f, fu = f + 1 := ⟨fu - 1, by omega⟩
    have hkN : k < N := by omega
    have hne : gB g' k ≠ gB g k := fun q => hu (by rw [← o1 k (by omega), ← o2 k (by omega), q])
    obtain ⟨m1, c1, c2, c3⟩ := c_bcopy (P := P) (m := m) hne
    have c4 : Fp (fun f a => f < 20 ∧ own a = u) (fun _ _ => False) m m1 := c3.mono (fun f a q => ⟨q.1, by rw [q.2, o1 k (by omega)]⟩) (fun _ _ q => q)
    have hs1 : PicB m1 g' N V := fun i j hi hj => by rw [c4.2.1 _ _ (fun q => hu (by rw [← o2 i (by omega), q.2]))]; exact hs i j hi hj
    have hp1 : PicB m1 g (k + 1) V := by
      intro i j hi hj
      by_cases e : i = k
      · subst e
        rw [c2 j hj]
        exact hs i j hkN hj
      · rw [c3.2.1 _ _ (fun q => e (hf.2.1.1 i k (by omega) (by omega) q.2))]
        exact hp i j (by omega) hj
    obtain ⟨m2, q1, q2, q3⟩ := ih (k + 1) fu m1 (by omega) (by omega) (hG.to c4.1) (hG'.to c4.1) hs1 (by rw [c4.2.1 21 u (fun q => absurd q.1 (by omega))]; exact h21) hp1
    unfold f_X1_copyFrom_b10
    rw [h21, if_neg (by rw [n_le (by omega) (by omega)]; omega), zl_s, hf.1.1, zin_12 (by omega), zgd_t, n_nat (by omega), hG.1 k (by omega), zl_s, zl_s, hf'.1.1, zin_12 (by omega), zgd_t, hG'.1 k (by omega), zl_s, c1, zb_s, zl_s, nI_1]
    exact ⟨m2, q1, q2, c4.trans q3⟩
theorem c_skept_l {d s : Nat} {W : Nat → Int32} (hl : zlen P (zR P 109 d) = 10) (hl' : zlen P (zR P 109 s) = 10) (hne : zR P 109 s ≠ zR P 109 d) : ∀ e k fu (m : zM), k + e = 10 → e < fu → (∀ i, i < 10 → za m (zR P 109 s) i = W i) → (∀ i, i < k → za m (zR P 109 d) i = W i) →
    ∃ m', f_X5_copyFrom_b91 P fu d s (nI k) m = some (0, m') ∧ (∀ i, i < 10 → za m' (zR P 109 d) i = W i) ∧ Fp (fun _ _ => False) (fun a _ => a = zR P 109 d) m m' := by
  intro e
  induction e with
  | zero =>
    intro k fu m hk hfu hs hd
    obtain ⟨fu, rfl⟩ : ∃ f, fu = f + 1 := ⟨fu - 1, by omega⟩
    have : k = 10 := by omega
    subst this
    unfold f_X5_copyFrom_b91
    rw [if_pos (by decide)]
    exact ⟨m, rfl, hd, Fp.rfl'⟩
  | succ e ih =>
    intro k fu m hk hfu hs hd
    obtain ⟨fu, rfl⟩ : ∃ f, fu = f + 1 := ⟨fu - 1, by omega⟩
    unfold f_X5_copyFrom_b91
    rw [if_neg (by rw [show (10 : Int32) = nI 10 from rfl, n_le (by omega) (by omega)]; omega), zl_s, zl_s, hl, hl', zin_10 (by omega), zgd_t, zgd_t, n_nat (by omega), hs k (by omega), zl_s, zl_s, nI_1]
    obtain ⟨m', q1, q2, q3⟩ := ih (k + 1) fu (zap m (zR P 109 d) k (W k)) (by omega) (by omega) (fun i hi => by rw [za_ne (Or.inl hne)]; exact hs i hi) (fun i hi => by
      by_cases e9 : i = k
      · subst e9
        exact za_eq
      · rw [za_ne (Or.inr e9)]
        exact hd i (by omega))
    exact ⟨m', q1, q2, (Fp.pua (A := fun a _ => a = zR P 109 d) Fp.rfl' rfl).trans q3⟩
theorem c_sspill_l {d s : Nat} {W : Nat → Int32} (hl : zlen P (zR P 108 d) = 3) (hl' : zlen P (zR P 108 s) = 3) (hne : zR P 108 s ≠ zR P 108 d) : ∀ e k fu (m : zM), k + e = 3 → e < fu → (∀ i, i < 3 → za m (zR P 108 s) i = W i) → (∀ i, i < k → za m (zR P 108 d) i = W i) →
    ∃ m', f_X5_copyFrom_b66 P fu d s (nI k) m = f_X5_copyFrom_b91 P zfuel d s 0 m' ∧ (∀ i, i < 3 → za m' (zR P 108 d) i = W i) ∧ Fp (fun _ _ => False) (fun a _ => a = zR P 108 d) m m' := by
  intro e
  induction e with
  | zero =>
    intro k fu m hk hfu hs hd
    obtain ⟨fu, rfl⟩ : ∃ f, fu = f + 1 := ⟨fu - 1, by omega⟩
    have : k = 3 := by omega
    subst this
    unfold f_X5_copyFrom_b66
    rw [if_pos (by decide)]
    exact ⟨m, rfl, hd, Fp.rfl'⟩
  | succ e ih =>
    intro k fu m hk hfu hs hd
    obtain ⟨fu, rfl⟩ : ∃ f, fu = f + 1 := ⟨fu - 1, by omega⟩
    unfold f_X5_copyFrom_b66
    rw [if_neg (by rw [show (3 : Int32) = nI 3 from rfl, n_le (by omega) (by omega)]; omega), zl_s, zl_s, hl, hl', zin_3 (by omega), zgd_t, zgd_t, n_nat (by omega), hs k (by omega), zl_s, zl_s, nI_1]
    obtain ⟨m', q1, q2, q3⟩ := ih (k + 1) fu (zap m (zR P 108 d) k (W k)) (by omega) (by omega) (fun i hi => by rw [za_ne (Or.inl hne)]; exact hs i hi) (fun i hi => by
      by_cases e9 : i = k
      · subst e9
        exact za_eq
      · rw [za_ne (Or.inr e9)]
        exact hd i (by omega))
    exact ⟨m', q1, q2, (Fp.pua (A := fun a _ => a = zR P 108 d) Fp.rfl' rfl).trans q3⟩
theorem c_scopy {d s : Nat} (h : s ≠ d) (hl8 : zlen P (zR P 108 d) = 3) (hl8' : zlen P (zR P 108 s) = 3) (hne8 : zR P 108 s ≠ zR P 108 d) (hl9 : zlen P (zR P 109 d) = 10) (hl9' : zlen P (zR P 109 s) = 10) (hne9 : zR P 109 s ≠ zR P 109 d) (hx : zR P 109 s ≠ zR P 108 d) (hy : zR P 108 d ≠ zR P 109 d) :
    ∃ m', f_X5_copyFrom P d s m = some (0, m') ∧ (∀ j, j < 8 → zf m' (100 + j) d = zf m (100 + j) s) ∧ (∀ i, i < 3 → za m' (zR P 108 d) i = za m (zR P 108 s) i) ∧ (∀ i, i < 10 → za m' (zR P 109 d) i = za m (zR P 109 s) i) ∧ Fp (fun f a => 100 ≤ f ∧ f < 110 ∧ a = d) (fun a _ => a = zR P 108 d ∨ a = zR P 109 d) m m' := by
  unfold f_X5_copyFrom
  simp only [zl_s]
  have key : ∀ m1 : zM, Fp (fun f a => 100 ≤ f ∧ f < 110 ∧ a = d) (fun _ _ => False) m m1 → (∀ j, j < 8 → zf m1 (100 + j) d = zf m (100 + j) s) → ∃ m', f_X5_copyFrom_b66 P zfuel d s 0 m1 = some (0, m') ∧ (∀ j, j < 8 → zf m' (100 + j) d = zf m (100 + j) s) ∧ (∀ i, i < 3 → za m' (zR P 108 d) i = za m (zR P 108 s) i) ∧ (∀ i, i < 10 → za m' (zR P 109 d) i = za m (zR P 109 s) i) ∧ Fp (fun f a => 100 ≤ f ∧ f < 110 ∧ a = d) (fun a _ => a = zR P 108 d ∨ a = zR P 109 d) m m' := by
    intro m1 h1 h2
    obtain ⟨m2, q1, q2, q3⟩ := c_sspill_l (W := za m (zR P 108 s)) hl8 hl8' hne8 3 0 zfuel m1 (by omega) (by unfold zfuel; omega) (fun i _ => h1.2.2 _ i (fun q => q)) (by intro i hi; omega)
    obtain ⟨m3, r1, r2, r3⟩ := c_skept_l (W := za m (zR P 109 s)) hl9 hl9' hne9 10 0 zfuel m2 (by omega) (by unfold zfuel; omega) (fun i _ => by rw [q3.2.2 _ i hx, h1.2.2 _ i (fun q => q)]) (by intro i hi; omega)
    have q1' : f_X5_copyFrom_b66 P zfuel d s 0 m1 = f_X5_copyFrom_b91 P zfuel d s 0 m2 := q1
    have r1' : f_X5_copyFrom_b91 P zfuel d s 0 m2 = some (0, m3) := r1
    rw [q1', r1']
    refine ⟨m3, rfl, fun j hj => by rw [r3.2.1 _ _ (fun q => q), q3.2.1 _ _ (fun q => q)]; exact h2 j hj, fun i hi => by rw [r3.2.2 _ i hy]; exact q2 i hi, r2, ?_⟩
    exact ((h1.mono (fun _ _ q => q) (fun _ _ q => q.elim)).trans (q3.mono (fun _ _ q => q.elim) (fun _ _ q => Or.inl q))).trans (r3.mono (fun _ _ q => q.elim) (fun _ _ q => Or.inr q))
  apply key
  · repeat (refine Fp.put ?_ (And.intro (by decide) (And.intro (by decide) rfl)))
    exact Fp.rfl'
  · intro j hj
    have hc : j = 0 ∨ j = 1 ∨ j = 2 ∨ j = 3 ∨ j = 4 ∨ j = 5 ∨ j = 6 ∨ j = 7 := by omega
    rcases hc with rfl | rfl | rfl | rfl | rfl | rfl | rfl | rfl <;> simp only [zf_zfp, h, Nat.reduceAdd, Nat.reduceEqDiff, and_true, and_false, true_and, false_and, if_true, if_false, reduceIte]
/-- the services' picture, the first k of them, no condition on -/
def PicS1 (P : zSt) (m : zM) (g : zGr) (k : Nat) (V : Nat → Int32) : Prop := ∀ s, s < k → (∀ j, j < 8 → zf m (100 + j) (gS g s) = V (145 + 21 * s + j)) ∧ (∀ z, z < 3 → za m (gX P g s) z = V (145 + 21 * s + 8 + z)) ∧ ∀ h, h < 10 → za m (gK P g s) h = V (145 + 21 * s + 11 + h)
theorem PicS1.of (h : PicS P m g (-1) V) : PicS1 P m g 4 V := by
  intro s hs
  obtain ⟨a1, a2, a3, a4, a5⟩ := h s hs
  refine ⟨fun j hj => ?_, a4, a5⟩
  rcases (show j = 0 ∨ j = 1 ∨ 2 ≤ j by omega) with rfl | rfl | h2
  · rw [show 100 + 0 = 100 from rfl, a1]
    rfl
  · rw [show 100 + 1 = 101 from rfl, a2]
    rfl
  · exact a3 j h2 hj
theorem PicS1.to (h : PicS1 P m g 4 V) : PicS P m g (-1) V := by
  intro s hs
  obtain ⟨a3, a4, a5⟩ := h s hs
  exact ⟨a3 0 (by omega), a3 1 (by omega), fun j _ h2 => a3 j h2, a4, a5⟩
theorem c_copyS_l (hf : Mf own P u g N) (hf' : Mf own P u' g' N) (hu : u' ≠ u) : ∀ d k fu (m : zM), k + d = 4 → d < fu → GM P m u g → GM P m u' g' → PicS1 P m g' 4 V → PicS1 P m g k V →
    ∃ m', f_X1_copyFrom_b41 P fu u u' (nI k) m = (zl (zfp m' 24 u (zf m' 24 u')) fun m72 => f_X1_copyFrom_b77 P zfuel u u' 0 m72) ∧ PicS1 P m' g 4 V ∧ Fp (fun f a => 100 ≤ f ∧ f < 110 ∧ own a = u) (fun a _ => ∃ s, s < 4 ∧ (a = gX P g s ∨ a = gK P g s)) m m' := by
  have h12 := hf.2.2
  have o1 := hf.2.1.2.2.2.2.2.2.2.2.2.2.2.2.1
  have o2 := hf'.2.1.2.2.2.2.2.2.2.2.2.2.2.2.1
  have gl := hf.1.2.2.2.2.2.2.1
  have gl' := hf'.1.2.2.2.2.2.2.1
  intro d
  induction d with
  | zero =>
    intro k fu m hk hfu hG hG' hs hp
    obtain ⟨fu, rfl⟩ : ∃ f, fu = f + 1 := ⟨fu - 1, by omega⟩
    have : k = 4 := by omega
    subst this
    unfold f_X1_copyFrom_b41
    rw [if_pos (by decide)]
    exact ⟨m, rfl, hp, Fp.rfl'⟩
  | succ d ih =>
    intro k fu m hk hfu hG hG' hs hp
    obtain ⟨fu, rfl⟩ : ∃ f, fu = f + 1 := ⟨fu - 1, by omega⟩
    have hk4 : k < 4 := by omega
    obtain ⟨w1, w2, w3, w4⟩ := o1 k hk4
    obtain ⟨v1, v2, v3, v4⟩ := o2 k hk4
    obtain ⟨m1, c1, c2, c3, c4, c5⟩ := c_scopy (P := P) (m := m) (d := gS g k) (s := gS g' k) (fun q => hu (by rw [← v1, ← w1, q])) (gl k hk4).1 (gl' k hk4).1 (fun q => hu (by rw [← v2, ← w2]; exact congrArg own q)) (gl k hk4).2 (gl' k hk4).2 (fun q => hu (by rw [← v3, ← w3]; exact congrArg own q)) (fun q => hu (by rw [← v3, ← w2]; exact congrArg own q)) (hf.2.1.2.2.2.2.2.1 k k hk4 hk4)
    have c6 : Fp (fun f a => 100 ≤ f ∧ f < 110 ∧ own a = u) (fun a _ => ∃ s, s < 4 ∧ (a = gX P g s ∨ a = gK P g s)) m m1 := c5.mono (fun f a q => ⟨q.1, q.2.1, by rw [q.2.2, w1]⟩) (fun a _ q => ⟨k, hk4, q⟩)
    have oA : ∀ a, (∃ s, s < 4 ∧ (a = gX P g s ∨ a = gK P g s)) → own a = u := by
      rintro a ⟨s, hs4, q | q⟩
      · rw [q]; exact (o1 s hs4).2.1
      · rw [q]; exact (o1 s hs4).2.2.1
    have hs1 : PicS1 P m1 g' 4 V := fun s hs4 => by
      obtain ⟨x1, x2, x3, x4⟩ := o2 s hs4
      obtain ⟨a1, a2, a3⟩ := hs s hs4
      exact ⟨fun j hj => by rw [c6.2.1 _ _ (fun q => hu (by rw [← x1, q.2.2]))]; exact a1 j hj, fun z hz => by rw [c6.2.2 _ z (fun q => hu (by rw [← x2]; exact oA _ q))]; exact a2 z hz, fun h hh => by rw [c6.2.2 _ h (fun q => hu (by rw [← x3]; exact oA _ q))]; exact a3 h hh⟩
    have hp1 : PicS1 P m1 g (k + 1) V := by
      intro s hs4
      obtain ⟨a1, a2, a3⟩ := hs k hk4
      by_cases e : s = k
      · subst e
        exact ⟨fun j hj => by rw [c2 j hj]; exact a1 j hj, fun z hz => by rw [c3 z hz]; exact a2 z hz, fun h hh => by rw [c4 h hh]; exact a3 h hh⟩
      · obtain ⟨b1, b2, b3⟩ := hp s (by omega)
        refine ⟨fun j hj => ?_, fun z hz => ?_, fun h hh => ?_⟩
        · rw [c5.2.1 _ _ (fun q => e (hf.2.1.2.1 s k (by omega) hk4 q.2.2))]
          exact b1 j hj
        · rw [c5.2.2 _ z (fun q => q.elim (fun q => e (hf.2.1.2.2.2.1 s k (by omega) hk4 q)) (fun q => hf.2.1.2.2.2.2.2.1 s k (by omega) hk4 q))]
          exact b2 z hz
        · rw [c5.2.2 _ h (fun q => q.elim (fun q => hf.2.1.2.2.2.2.2.1 k s hk4 (by omega) q.symm) (fun q => e (hf.2.1.2.2.2.2.1 s k (by omega) hk4 q)))]
          exact b3 h hh
    obtain ⟨m2, q1, q2, q3⟩ := ih (k + 1) fu m1 (by omega) (by omega) (hG.to c6.1) (hG'.to c6.1) hs1 hp1
    unfold f_X1_copyFrom_b41
    rw [if_neg (by rw [show (4 : Int32) = nI 4 from rfl, n_le (by omega) (by omega)]; omega), zl_s, hf.1.2.1, zin_4 hk4, zgd_t, n_nat (by omega), hG.2.1 k hk4, zl_s, zl_s, hf'.1.2.1, zin_4 hk4, zgd_t, hG'.2.1 k hk4, zl_s, c1, zb_s, zl_s, nI_1]
    exact ⟨m2, q1, q2, c6.trans q3⟩
end CO

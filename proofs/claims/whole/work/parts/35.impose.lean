/-! ===== a condition imposed ===== -/
section IM
variable {own : Nat → Nat} {P : zSt} {m : zM} {u N R : Nat} {g : zGr} {c : Int32} {V : Nat → Int32}
theorem c_impR_l (hf : Mf own P u g N) (hq : GQ P g) (h8 : R ≤ 8) {A S : Nat → Int32} : ∀ d k fu (m : zM), k + d = R → d < fu → GM P m u g → zf m 24 u = nI R → (∀ r, r < R → zf m 65 (gQ g r) = (if c = 1 ∧ r < k then 1 else A r) ∧ zf m 66 (gQ g r) = if c = 0 ∧ r < k then -1 else S r) →
    ∃ m', f_X1_impose_b12 P fu u c (nI k) m = f_X1_impose_b60 P zfuel u c 0 m' ∧ (∀ r, r < R → zf m' 65 (gQ g r) = (if c = 1 then 1 else A r) ∧ zf m' 66 (gQ g r) = if c = 0 then -1 else S r) ∧ Fp (fun f a => (f = 65 ∨ f = 66) ∧ own a = u) (fun _ _ => False) m m' := by
  have h12 := hf.2.2
  have o2 := hf.2.1.2.2.2.2.2.2.2.2.2.2.2.2.2
  intro d
  induction d with
  | zero =>
    intro k fu m hk hfu hG h24 hI
    obtain ⟨fu, rfl⟩ : ∃ f, fu = f + 1 := ⟨fu - 1, by omega⟩
    have : k = R := by omega
    subst this
    unfold f_X1_impose_b12
    rw [h24, if_pos (Int32.le_refl _)]
    refine ⟨m, rfl, fun r hr => ?_, Fp.rfl'⟩
    obtain ⟨h1, h2⟩ := hI r hr
    simp only [hr, and_true] at h1 h2
    exact ⟨h1, h2⟩
  | succ d ih =>
    intro k fu m hk hfu hG h24 hI
    obtain ⟨fu, rfl⟩ : ∃ f, fu = f + 1 := ⟨fu - 1, by omega⟩
    have hkR : k < R := by omega
    obtain ⟨w1, -⟩ := o2 k (by omega)
    unfold f_X1_impose_b12 f_X1_impose_b52
    rw [h24, if_neg (by rw [n_le (by omega) (by omega)]; omega)]
    by_cases h0 : c = 0
    · rw [if_pos h0, zl_s, hf.1.2.2.1, zin_8 (by omega), zgd_t, n_nat (by omega), hG.2.2.1 k (by omega), zl_s, zl_s, zl_s, nI_1]
      obtain ⟨m', q1, q2, q3⟩ := ih (k + 1) fu (zfp m 66 (gQ g k) (-1)) (by omega) (by omega) hG (by rw [zf_ne (Or.inl (by omega))]; exact h24) (fun r hr => by
        obtain ⟨h1, h2⟩ := hI r hr
        refine ⟨by rw [zf_ne (Or.inl (by omega)), h1, h0]; simp, ?_⟩
        by_cases e : r = k
        · subst e
          rw [zf_eq, if_pos ⟨h0, by omega⟩]
        · rw [zf_ne (Or.inr (fun q => e (hq.1 r k (by omega) (by omega) q))), h2]
          have : (r < k) = (r < k + 1) := by rw [eq_iff_iff]; omega
          simp only [this])
      exact ⟨m', q1, q2, (Fp.put (S := fun f a => (f = 65 ∨ f = 66) ∧ own a = u) Fp.rfl' (And.intro (Or.inr rfl) w1)).trans q3⟩
    · rw [if_neg h0]
      by_cases h1 : c = 1
      · rw [if_pos h1, zl_s, hf.1.2.2.1, zin_8 (by omega), zgd_t, n_nat (by omega), hG.2.2.1 k (by omega), zl_s, zl_s, zl_s, nI_1]
        obtain ⟨m', q1, q2, q3⟩ := ih (k + 1) fu (zfp m 65 (gQ g k) 1) (by omega) (by omega) hG (by rw [zf_ne (Or.inl (by omega))]; exact h24) (fun r hr => by
          obtain ⟨h3, h2⟩ := hI r hr
          refine ⟨?_, by rw [zf_ne (Or.inl (by omega)), h2, if_neg (fun q => h0 q.1), if_neg (fun q => h0 q.1)]⟩
          by_cases e : r = k
          · subst e
            rw [zf_eq, if_pos ⟨h1, by omega⟩]
          · rw [zf_ne (Or.inr (fun q => e (hq.1 r k (by omega) (by omega) q))), h3]
            have : (r < k) = (r < k + 1) := by rw [eq_iff_iff]; omega
            simp only [this])
        exact ⟨m', q1, q2, (Fp.put (S := fun f a => (f = 65 ∨ f = 66) ∧ own a = u) Fp.rfl' (And.intro (Or.inl rfl) w1)).trans q3⟩
      · rw [if_neg h1, zl_s, nI_1]
        exact ih (k + 1) fu m (by omega) (by omega) hG h24 (fun r hr => by
          obtain ⟨h3, h2⟩ := hI r hr
          rw [if_neg (fun q => h1 q.1)] at h3
          rw [if_neg (fun q => h0 q.1)] at h2
          exact ⟨by rw [if_neg (fun q => h1 q.1)]; exact h3, by rw [if_neg (fun q => h0 q.1)]; exact h2⟩)
theorem c_impS_l (hf : Mf own P u g N) {A S : Nat → Int32} : ∀ d k fu (m : zM), k + d = 4 → d < fu → GM P m u g → (∀ s, s < 4 → zf m 100 (gS g s) = (if c = 3 ∧ s < k then 0 else A s) ∧ zf m 101 (gS g s) = if c = 2 ∧ s < k then 1073741824 else S s) →
    ∃ m', f_X1_impose_b60 P fu u c (nI k) m = some (0, m') ∧ (∀ s, s < 4 → zf m' 100 (gS g s) = (if c = 3 then 0 else A s) ∧ zf m' 101 (gS g s) = if c = 2 then 1073741824 else S s) ∧ Fp (fun f a => (f = 100 ∨ f = 101) ∧ own a = u) (fun _ _ => False) m m' := by
  have h12 := hf.2.2
  have o2 := hf.2.1.2.2.2.2.2.2.2.2.2.2.2.2.1
  intro d
  induction d with
  | zero =>
    intro k fu m hk hfu hG hI
    obtain ⟨fu, rfl⟩ : ∃ f, fu = f + 1 := ⟨fu - 1, by omega⟩
    have : k = 4 := by omega
    subst this
    unfold f_X1_impose_b60
    rw [if_pos (by decide)]
    refine ⟨m, rfl, fun r hr => ?_, Fp.rfl'⟩
    obtain ⟨h1, h2⟩ := hI r hr
    simp only [hr, and_true] at h1 h2
    exact ⟨h1, h2⟩
  | succ d ih =>
    intro k fu m hk hfu hG hI
    obtain ⟨fu, rfl⟩ : ∃ f, fu = f + 1 := ⟨fu - 1, by omega⟩
    have hk4 : k < 4 := by omega
    obtain ⟨w1, -⟩ := o2 k (by omega)
    unfold f_X1_impose_b60 f_X1_impose_b99
    rw [if_neg (by rw [show (4 : Int32) = nI 4 from rfl, n_le (by omega) (by omega)]; omega)]
    by_cases h0 : c = 2
    · rw [if_pos h0, zl_s, hf.1.2.1, zin_4 (by omega), zgd_t, n_nat (by omega), hG.2.1 k (by omega), zl_s, zl_s, zl_s, nI_1]
      obtain ⟨m', q1, q2, q3⟩ := ih (k + 1) fu (zfp m 101 (gS g k) 1073741824) (by omega) (by omega) hG (fun r hr => by
        obtain ⟨h1, h2⟩ := hI r hr
        refine ⟨by rw [zf_ne (Or.inl (by omega)), h1, h0]; simp, ?_⟩
        by_cases e : r = k
        · subst e
          rw [zf_eq, if_pos ⟨h0, by omega⟩]
        · rw [zf_ne (Or.inr (fun q => e (hf.2.1.2.1 r k (by omega) (by omega) q))), h2]
          have : (r < k) = (r < k + 1) := by rw [eq_iff_iff]; omega
          simp only [this])
      exact ⟨m', q1, q2, (Fp.put (S := fun f a => (f = 100 ∨ f = 101) ∧ own a = u) Fp.rfl' (And.intro (Or.inr rfl) w1)).trans q3⟩
    · rw [if_neg h0]
      by_cases h1 : c = 3
      · rw [if_pos h1, zl_s, hf.1.2.1, zin_4 (by omega), zgd_t, n_nat (by omega), hG.2.1 k (by omega), zl_s, zl_s, zl_s, nI_1]
        obtain ⟨m', q1, q2, q3⟩ := ih (k + 1) fu (zfp m 100 (gS g k) 0) (by omega) (by omega) hG (fun r hr => by
          obtain ⟨h3, h2⟩ := hI r hr
          refine ⟨?_, by rw [zf_ne (Or.inl (by omega)), h2, if_neg (fun q => h0 q.1), if_neg (fun q => h0 q.1)]⟩
          by_cases e : r = k
          · subst e
            rw [zf_eq, if_pos ⟨h1, by omega⟩]
          · rw [zf_ne (Or.inr (fun q => e (hf.2.1.2.1 r k (by omega) (by omega) q))), h3]
            have : (r < k) = (r < k + 1) := by rw [eq_iff_iff]; omega
            simp only [this])
        exact ⟨m', q1, q2, (Fp.put (S := fun f a => (f = 100 ∨ f = 101) ∧ own a = u) Fp.rfl' (And.intro (Or.inl rfl) w1)).trans q3⟩
      · rw [if_neg h1, zl_s, nI_1]
        exact ih (k + 1) fu m (by omega) (by omega) hG (fun r hr => by
          obtain ⟨h3, h2⟩ := hI r hr
          rw [if_neg (fun q => h1 q.1)] at h3
          rw [if_neg (fun q => h0 q.1)] at h2
          exact ⟨by rw [if_neg (fun q => h1 q.1)]; exact h3, by rw [if_neg (fun q => h0 q.1)]; exact h2⟩)
theorem c_impose (hf : Mf own P u g N) (hq : GQ P g) (hL : RuL V R) (hG : GM P m u g) (hp : Pic P m u g N R (-1) V) :
    ∃ m', f_X1_impose P u c m = some (0, m') ∧ GM P m' u g ∧ Pic P m' u g N R c V ∧ zf m' 27 u = zf m 27 u ∧ Fo own u m m' := by
  have h12 := hf.2.2
  have h8 := hL.1
  have hou : own u = u := hf.2.1.2.2.2.2.2.2.2.2.2.1
  obtain ⟨s1, s2, s3, s4, s5, s6, s7⟩ := hp.1
  have main : ∀ m1 : zM, Fp (fun f a => f = 25 ∧ own a = u) (fun _ _ => False) m m1 → zf m1 25 u = sLm c V → ∃ m', f_X1_impose_b12 P zfuel u c 0 m1 = some (0, m') ∧ GM P m' u g ∧ Pic P m' u g N R c V ∧ zf m' 27 u = zf m 27 u ∧ Fo own u m m' := by
    intro m1 f1 h25
    have k1 : ∀ f a, f ≠ 25 → zf m1 f a = zf m f a := fun f a h => f1.2.1 f a (fun q => h q.1)
    obtain ⟨m2, a1, a2, a3⟩ := c_impR_l (c := c) (A := fun r => zf m 65 (gQ g r)) (S := fun r => zf m 66 (gQ g r)) hf hq h8 R 0 zfuel m1 (by omega) (by unfold zfuel; omega) (hG.to f1.1) (by rw [k1 _ _ (by omega), s3]) (fun r hr => by
      rw [if_neg (fun q => absurd q.2 (by omega)), if_neg (fun q => absurd q.2 (by omega))]
      exact ⟨k1 _ _ (by omega), k1 _ _ (by omega)⟩)
    have k2 : ∀ f a, f ≠ 25 → f ≠ 65 → f ≠ 66 → zf m2 f a = zf m f a := fun f a h h5 h6 => by rw [a3.2.1 f a (fun q => q.1.elim h5 h6), k1 f a h]
    obtain ⟨m3, b1, b2, b3⟩ := c_impS_l (c := c) (A := fun s => zf m 100 (gS g s)) (S := fun s => zf m 101 (gS g s)) hf 4 0 zfuel m2 (by omega) (by unfold zfuel; omega) (hG.to (by rw [a3.1, f1.1])) (fun s hs => by
      rw [if_neg (fun q => absurd q.2 (by omega)), if_neg (fun q => absurd q.2 (by omega))]
      exact ⟨k2 _ _ (by omega) (by omega) (by omega), k2 _ _ (by omega) (by omega) (by omega)⟩)
    have k3 : ∀ f a, f ≠ 25 → f ≠ 65 → f ≠ 66 → f ≠ 100 → f ≠ 101 → zf m3 f a = zf m f a := fun f a h h5 h6 h7 h9 => by rw [b3.2.1 f a (fun q => q.1.elim h7 h9), k2 f a h h5 h6]
    have kz : ∀ a i, za m3 a i = za m a i := fun a i => by rw [b3.2.2 a i (fun q => q), a3.2.2 a i (fun q => q), f1.2.2 a i (fun q => q)]
    have a1' : f_X1_impose_b12 P zfuel u c 0 m1 = f_X1_impose_b60 P zfuel u c 0 m2 := a1
    have b1' : f_X1_impose_b60 P zfuel u c 0 m2 = some (0, m3) := b1
    refine ⟨m3, by rw [a1', b1'], hG.to (by rw [b3.1, a3.1, f1.1]), ⟨⟨?_, s2, ?_, s4, ?_, ?_, fun j h1 h2 => ?_⟩, ?_, ?_, ?_, ?_⟩, k3 _ _ (by omega) (by omega) (by omega) (by omega) (by omega), ((f1.fo (fun _ _ q => q.2) (fun _ _ q => q.elim)).trans (a3.fo (fun _ _ q => q.2) (fun _ _ q => q.elim))).trans (b3.fo (fun _ _ q => q.2) (fun _ _ q => q.elim))⟩
    · rw [k3 _ _ (by omega) (by omega) (by omega) (by omega) (by omega), s1]
    · rw [k3 _ _ (by omega) (by omega) (by omega) (by omega) (by omega), s3]
    · rw [b3.2.1 _ _ (fun q => absurd q.1 (by omega)), a3.2.1 _ _ (fun q => absurd q.1 (by omega)), h25]
    · rw [k3 _ _ (by omega) (by omega) (by omega) (by omega) (by omega), s6]
    · rw [k3 _ _ (by omega) (by omega) (by omega) (by omega) (by omega), s7 j h1 h2]
    · exact hp.2.1.cg (fun i k _ _ => k3 _ _ (by have := bsl_lt k; omega) (by have := bsl_lt k; omega) (by have := bsl_lt k; omega) (by have := bsl_lt k; omega) (by have := bsl_lt k; omega)) (fun _ _ _ _ => rfl)
    · intro s hs
      obtain ⟨x1, x2, x3, x4, x5⟩ := hp.2.2.1 s hs
      obtain ⟨y1, y2⟩ := b2 s hs
      refine ⟨?_, ?_, fun j h1 h2 => by rw [k3 _ _ (by omega) (by omega) (by omega) (by omega) (by omega), x3 j h1 h2], fun z hz => by rw [kz, x4 z hz], fun h hh => by rw [kz, x5 h hh]⟩
      · rw [y1, x1]
        rfl
      · rw [y2, x2, if_neg (show ¬ (-1 : Int32) = 2 by decide)]
    · intro r hr
      obtain ⟨x1, x2, x3, x4, x5, x6, x7⟩ := hp.2.2.2.1 r hr
      obtain ⟨y1, y2⟩ := a2 r hr
      have kq : ∀ f a, f ≠ 100 → f ≠ 101 → zf m3 f a = zf m2 f a := fun f a h7 h9 => b3.2.1 f a (fun q => q.1.elim h7 h9)
      refine ⟨by rw [k3 _ _ (by omega) (by omega) (by omega) (by omega) (by omega), x1], by rw [k3 _ _ (by omega) (by omega) (by omega) (by omega) (by omega), x2], by rw [k3 _ _ (by omega) (by omega) (by omega) (by omega) (by omega), x3], ?_, ?_, by rw [k3 _ _ (by omega) (by omega) (by omega) (by omega) (by omega), x6], fun k hk => by rw [kz, x7 k hk]⟩
      · rw [kq _ _ (by omega) (by omega), y1, x4, if_neg (show ¬ (-1 : Int32) = 1 by decide)]
      · rw [kq _ _ (by omega) (by omega), y2, x5, if_neg (show ¬ (-1 : Int32) = 0 by decide)]
    · exact hp.2.2.2.2.cg (fun r t k _ _ _ => k3 _ _ (by have := tsl_lt k; omega) (by have := tsl_lt k; omega) (by have := tsl_lt k; omega) (by have := tsl_lt k; omega) (by have := tsl_lt k; omega)) (fun _ _ => rfl) (fun _ _ _ _ _ _ => rfl)
  unfold f_X1_impose f_X1_impose_b10
  by_cases h4 : c = 4
  · rw [if_pos h4, zl_s]
    exact main _ (Fp.put (S := fun f a => f = 25 ∧ own a = u) Fp.rfl' (And.intro rfl hou)) (by
      rw [zf_eq]
      unfold sLm
      rw [if_pos h4])
  · rw [if_neg h4]
    exact main m Fp.rfl' (by
      rw [s5]
      unfold sLm
      rw [if_neg h4, if_neg (by decide)])
end IM

/-! ===== calls: play, answeredIf ===== -/
abbrev zItm : Type := Option (Option Nat × Nat × Nat × Int32)
def plV (c : Int32) (N : Nat) (it : zIt) (V0 : Nat → Int32) : Nat → (Nat → Int32)
  | 0 => V0
  | i + 1 => match it i with
    | none => sTk (plV c N it V0 i) N
    | some q => (sAnswer c (plV c N it V0 i) N q.2.1 q.2.2.1 q.1).2
def plA (c : Int32) (N : Nat) (it : zIt) (V0 : Nat → Int32) (i : Nat) : Int32 := match it i with
  | none => 0
  | some q => (sAnswer c (plV c N it V0 i) N q.2.1 q.2.2.1 q.1).1
def plD (b : Bool) (c : Int32) (N : Nat) (it : zIt) (V0 : Nat → Int32) (i : Nat) : Bool := match it i with
  | none => false
  | some q => if b = true then decide (¬ plA c N it V0 i < 0) else decide (¬ plA c N it V0 i = q.2.2.2)
def plC (b : Bool) (c : Int32) (N : Nat) (it : zIt) (V0 : Nat → Int32) : Nat → Int32
  | 0 => 0
  | i + 1 => if plD b c N it V0 i = true then plC b c N it V0 i + 1 else plC b c N it V0 i
/-- what is known of the records -/
def itF (it : zIt) (k R : Nat) : Prop := ∀ i, i < k → ∀ ro h z a, it i = some (ro, h, z, a) → h < 10 ∧ z < 3 ∧ ∀ r, ro = some r → r < R
theorem plV_keep {c : Int32} {N R B k : Nat} {it : zIt} {V0 : Nat → Int32} (hF : itF it k R) {j : Nat} (hj : kA j) (h6 : j < 697) : ∀ i, i ≤ k → (∀ i', i' ≤ i → InV (plV c N it V0 i') N R (B + 5 * i')) → plV c N it V0 i j = V0 j := by
  intro i
  induction i with
  | zero => intro _ _; rfl
  | succ i ih =>
    intro hi hI
    have e := ih (by omega) (fun i' h => hI i' (by omega))
    have hIi := hI i (by omega)
    have h12 := hIi.st.2.1
    unfold plV
    cases hc : it i with
    | none =>
      dsimp only
      rw [sTk_keep (fun b hb q => by have := hj.1; omega) (by omega), e]
    | some q =>
      obtain ⟨ro, h, z, a⟩ := q
      obtain ⟨f1, f2, f3⟩ := hF i (by omega) ro h z a hc
      dsimp only
      rw [sAnswer_keep hIi f3 f1 f2 hj h6, e]
section PL
variable {own : Nat → Nat} {P : zSt} {m m' m0 m1 : zM} {x y B B' u N R rc : Nat} {g : zGr} {V V' V0 W : Nat → Int32} {sv mk : Bool} {Vs Vm T Q : Nat → Int32} {tn pn k : Nat} {it : zIt} {c : Int32}
/-- only what is u's, and the row w -/
def Fq (own : Nat → Nat) (u w : Nat) (m m' : zM) : Prop := m'.2.2 = m.2.2 ∧ (∀ f a, own a ≠ u → zf m' f a = zf m f a) ∧ ∀ a i, own a ≠ u → a ≠ w → za m' a i = za m a i
theorem Fq.trans {w : Nat} {m2 : zM} (h1 : Fq own u w m m1) (h2 : Fq own u w m1 m2) : Fq own u w m m2 := ⟨h2.1.trans h1.1, fun f a h => (h2.2.1 f a h).trans (h1.2.1 f a h), fun a i h h' => (h2.2.2 a i h h').trans (h1.2.2 a i h h')⟩
theorem Fo.q {w : Nat} (h : Fo own u m m') : Fq own u w m m' := ⟨h.1, h.2.1, fun a i h' _ => h.2.2 a i h'⟩
theorem Fq.zap {w i : Nat} {v : Int32} : Fq own u w m (zap m w i v) := ⟨rfl, fun _ _ _ => rfl, fun a i' _ h' => za_ne (Or.inl h')⟩
theorem itC.to4 {i : Nat} {a : zItm} (h : itC P m rc i a) (e : ∀ j, 40 ≤ j → j < 44 → za m' (zR P j rc) i = za m (zR P j rc) i) : itC P m' rc i a := by
  cases a with
  | none =>
    show za m' _ _ = _
    rw [e _ (by omega) (by omega)]
    exact h
  | some a =>
    obtain ⟨ro, hh, z, a⟩ := a
    obtain ⟨q1, q2, q3, q4⟩ := h
    exact ⟨by rw [e _ (by omega) (by omega)]; exact q1, by rw [e _ (by omega) (by omega)]; exact q2, by rw [e _ (by omega) (by omega)]; exact q3, by rw [e _ (by omega) (by omega)]; exact q4⟩
theorem bR.q (h : bR own P m rc mk k it) (hu : rc ≠ u) (f : Fq own u (zR P 44 rc) m m') : bR own P m' rc mk k it := by
  obtain ⟨h1, h2, h3, h4, h5, h6⟩ := h
  refine ⟨h1, h2, h3, by rw [f.2.1 _ _ (by rw [h1]; exact hu)]; exact h4, by rw [f.2.1 _ _ (by rw [h1]; exact hu)]; exact h5, fun i hi => (h6 i hi).to4 (fun j a b => f.2.2 _ _ (by rw [(h2 j (by omega) (by omega)).1]; exact hu) (fun q => ?_))⟩
  have := h3 j 44 a (by omega) (by omega) (by omega) q
  omega
theorem oI_n2 {ro : Option Nat} {n : Nat} (h : ∀ r, ro = some r → r < n) (hn : n < 2 ^ 31) : ¬ oI ro = -2 := by
  cases ro with
  | none => decide
  | some r =>
    intro q
    have h1 := nI_pos' (show r < 2 ^ 31 by have := h r rfl; omega)
    rw [show oI (some r) = nI r from rfl] at q
    rw [q] at h1
    exact absurd h1 (by decide)
theorem c_play_l (hf : Mf own P (zR P 183 x) g N) (hF : itF it k R) (hB : B + 305 < 1000000) (hk : k ≤ 60) (hu : zR P 184 x ≠ zR P 183 x) : ∀ d j fu (m : zM), j + d = k → d < fu → GM P m (zR P 183 x) g → Pic P m (zR P 183 x) g N R c (plV c N it V0 j) → bR own P m (zR P 184 x) mk k it → InV (plV c N it V0 j) N R (B + 5 * j) → (∀ i, i < j → ∀ q, it i = some q → za m (zR P 44 (zR P 184 x)) i = plA c N it V0 i) →
    ∃ m', f_X10_playAgain_b21 P fu x (nI j) m = some (0, m') ∧ (∀ i, i < k → ∀ q, it i = some q → za m' (zR P 44 (zR P 184 x)) i = plA c N it V0 i) ∧ Fq own (zR P 183 x) (zR P 44 (zR P 184 x)) m m' ∧ ∀ i, j ≤ i → i ≤ k → InV (plV c N it V0 i) N R (B + 5 * i) := by
  intro d
  induction d with
  | zero =>
    intro j fu m hj hfu hG hp hR hI hr
    obtain ⟨fu, rfl⟩ : ∃ f, fu = f + 1 := ⟨fu - 1, by omega⟩
    have : j = k := by omega
    subst this
    unfold f_X10_playAgain_b21
    rw [zl_s, hR.2.2.2.1, if_pos (Int32.le_refl _)]
    exact ⟨m, rfl, hr, Fo.rfl'.q, fun i a b => by
      have : i = j := by omega
      subst this
      exact hI⟩
  | succ d ih =>
    intro j fu m hj hfu hG hp hR hI hr
    obtain ⟨fu, rfl⟩ : ∃ f, fu = f + 1 := ⟨fu - 1, by omega⟩
    have hjk : j < k := by omega
    have hR0 := hR
    obtain ⟨h1, h2, h3, h4, h5, h6⟩ := hR
    have l : ∀ i, 40 ≤ i → i < 45 → zlen P (zR P i (zR P 184 x)) = 60 := fun i a b => (h2 i a b).2
    have oth : own (zR P 44 (zR P 184 x)) ≠ zR P 183 x := by rw [(h2 44 (by omega) (by omega)).1]; exact hu
    unfold f_X10_playAgain_b21
    rw [zl_s, h4, if_neg (by rw [n_le (by omega) (by omega)]; omega)]
    simp only [zl_s]
    rw [l 40 (by omega) (by omega), l 41 (by omega) (by omega), l 42 (by omega) (by omega), l 44 (by omega) (by omega), zin_n (by omega) (by omega), n_nat (by omega), zgd_t]
    have hit := h6 j hjk
    unfold f_X10_playAgain_b99
    cases hc : it j with
    | none =>
      rw [hc] at hit
      have e40 : za m (zR P 40 (zR P 184 x)) j = -2 := hit
      obtain ⟨m1, q1, q2, q3, q4⟩ := c_passTick hf hI.ru.l hI.bd (by omega) hG hp
      have f1 : Fo own (zR P 183 x) m m1 := q4.fo (fun _ _ q => q.2) (fun _ _ q => q.elim)
      have eV : plV c N it V0 (j + 1) = sTk (plV c N it V0 j) N := by
        show (match it j with | none => _ | some q => _) = _
        rw [hc]
      rw [if_pos e40, q1, zb_s, zl_s, nI_1]
      obtain ⟨m2, r1, r2, r3, r4⟩ := ih (j + 1) fu m1 (by omega) (by omega) q2 (by rw [eV]; exact q3) (hR0.q hu f1.q) (by rw [eV]; exact ⟨(sTk_inv hI (by omega)).1, (sTk_inv hI (by omega)).2.1, (sTk_inv hI (by omega)).2.2.1, (sTk_inv hI (by omega)).2.2.2.1.mono (by omega), (sTk_inv hI (by omega)).2.2.2.2⟩) (fun i hi q hq => by
        by_cases e : i = j
        · rw [e, hc] at hq
          cases hq
        · rw [f1.2.2 _ _ oth]
          exact hr i (by omega) q hq)
      exact ⟨m2, r1, r2, f1.q.trans r3, fun i a b => by
        by_cases e : i = j
        · subst e
          exact hI
        · exact r4 i (by omega) b⟩
    | some q =>
      obtain ⟨ro, h, z, a⟩ := q
      rw [hc] at hit
      obtain ⟨a1, a2, a3, a4⟩ := hit
      obtain ⟨f1, f2, f3⟩ := hF j hjk ro h z a hc
      have h8 := hI.2.1.2
      obtain ⟨m1, T', q1, q2, q3, q4, q5, q6, -, -⟩ := c_answer hf hG hp hI (by omega) ro f3 f1 f2
      have eV : plV c N it V0 (j + 1) = (sAnswer c (plV c N it V0 j) N h z ro).2 := by
        show (match it j with | none => _ | some q => _) = _
        rw [hc]
      have eA : plA c N it V0 j = (sAnswer c (plV c N it V0 j) N h z ro).1 := by
        unfold plA
        rw [hc]
      rw [a1, if_neg (oI_n2 f3 (by omega)), zgd_t, zgd_t, zgd_t, a2, a3, q1, zb_s]
      dsimp only
      rw [zgd_t, nI_1]
      have ft : Fq own (zR P 183 x) (zR P 44 (zR P 184 x)) m (zap m1 (zR P 44 (zR P 184 x)) j (sAnswer c (plV c N it V0 j) N h z ro).1) := q6.q.trans Fq.zap
      obtain ⟨m2, r1, r2, r3, r4⟩ := ih (j + 1) fu (zap m1 (zR P 44 (zR P 184 x)) j (sAnswer c (plV c N it V0 j) N h z ro).1) (by omega) (by omega) (q2.to rfl) (by
        rw [eV]
        exact q3.fo' hf q5.ru.l (fun f a _ => rfl) (fun b i hb => za_ne (Or.inl (fun e => oth (by rw [← e]; exact hb))))) (hR0.q hu ft) (by rw [eV]; exact q5) (fun i hi q hq => by
        by_cases e : i = j
        · subst e
          rw [za_eq, eA]
        · rw [za_ne (Or.inr e), q6.2.2 _ _ oth]
          exact hr i (by omega) q hq)
      exact ⟨m2, r1, r2, ft.trans r3, fun i a b => by
        by_cases e : i = j
        · subst e
          exact hI
        · exact r4 i (by omega) b⟩
/-- how many answers are others -/
theorem c_chg_l (hR : bR own P m rc mk k it) (hk : k ≤ 60) (hF : itF it k 8) (hr : ∀ i, i < k → ∀ q, it i = some q → za m (zR P 44 rc) i = plA c N it V0 i) : ∀ d j fu, j + d = k → d < fu → f_X2_changedAnswers_b4 P fu rc (plC false c N it V0 j) (nI j) m = some (plC false c N it V0 k, m) := by
  obtain ⟨h1, h2, h3, h4, h5, h6⟩ := hR
  have l : ∀ i, 40 ≤ i → i < 45 → zlen P (zR P i rc) = 60 := fun i a b => (h2 i a b).2
  intro d
  induction d with
  | zero =>
    intro j fu hj hfu
    obtain ⟨fu, rfl⟩ : ∃ f, fu = f + 1 := ⟨fu - 1, by omega⟩
    have : j = k := by omega
    subst this
    unfold f_X2_changedAnswers_b4
    rw [h4, if_pos (Int32.le_refl _)]
  | succ d ih =>
    intro j fu hj hfu
    obtain ⟨fu, rfl⟩ : ∃ f, fu = f + 1 := ⟨fu - 1, by omega⟩
    have hit := h6 j (by omega)
    have hn := ih (j + 1) fu (by omega) (by omega)
    have eC : plC false c N it V0 (j + 1) = if plD false c N it V0 j = true then plC false c N it V0 j + 1 else plC false c N it V0 j := rfl
    unfold f_X2_changedAnswers_b4 f_X2_changedAnswers_b41
    rw [h4, if_neg (by rw [n_le (by omega) (by omega)]; omega)]
    simp only [zl_s]
    rw [l 40 (by omega) (by omega), l 43 (by omega) (by omega), l 44 (by omega) (by omega), zin_n (by omega) (by omega), n_nat (by omega), zgd_t, zgd_t, zgd_t, nI_1]
    cases hc : it j with
    | none =>
      rw [hc] at hit
      have eD : plD false c N it V0 j = false := by
        unfold plD
        rw [hc]
      rw [eC, eD, if_neg (by decide)] at hn
      rw [if_pos (show za m (zR P 40 rc) j = -2 from hit)]
      exact hn
    | some q =>
      obtain ⟨ro, h, z, a⟩ := q
      have er := hr j (by omega) _ hc
      rw [hc] at hit
      obtain ⟨a1, a2, a3, a4⟩ := hit
      have eD : plD false c N it V0 j = decide (¬ plA c N it V0 j = a) := by
        unfold plD
        rw [hc]
        rfl
      rw [a1, if_neg (oI_n2 (hF j (by omega) ro h z a hc).2.2 (by omega)), er, a4]
      by_cases e : plA c N it V0 j = a
      · rw [eC, eD, decide_eq_false (fun q => q e), if_neg (by decide)] at hn
        rw [if_pos e]
        exact hn
      · rw [eC, eD, decide_eq_true e, if_pos rfl] at hn
        rw [if_neg e]
        exact hn
theorem c_byB_l (hR : bR own P m rc mk k it) (hk : k ≤ 60) (hF : itF it k 8) (hr : ∀ i, i < k → ∀ q, it i = some q → za m (zR P 44 rc) i = plA c N it V0 i) : ∀ d j fu, j + d = k → d < fu → f_X2_answersByBackends_b4 P fu rc (plC true c N it V0 j) (nI j) m = some (plC true c N it V0 k, m) := by
  obtain ⟨h1, h2, h3, h4, h5, h6⟩ := hR
  have l : ∀ i, 40 ≤ i → i < 45 → zlen P (zR P i rc) = 60 := fun i a b => (h2 i a b).2
  intro d
  induction d with
  | zero =>
    intro j fu hj hfu
    obtain ⟨fu, rfl⟩ : ∃ f, fu = f + 1 := ⟨fu - 1, by omega⟩
    have : j = k := by omega
    subst this
    unfold f_X2_answersByBackends_b4
    rw [h4, if_pos (Int32.le_refl _)]
  | succ d ih =>
    intro j fu hj hfu
    obtain ⟨fu, rfl⟩ : ∃ f, fu = f + 1 := ⟨fu - 1, by omega⟩
    have hit := h6 j (by omega)
    have hn := ih (j + 1) fu (by omega) (by omega)
    have eC : plC true c N it V0 (j + 1) = if plD true c N it V0 j = true then plC true c N it V0 j + 1 else plC true c N it V0 j := rfl
    unfold f_X2_answersByBackends_b4 f_X2_answersByBackends_b35
    rw [h4, if_neg (by rw [n_le (by omega) (by omega)]; omega)]
    simp only [zl_s]
    rw [l 40 (by omega) (by omega), l 44 (by omega) (by omega), zin_n (by omega) (by omega), n_nat (by omega), zgd_t, zgd_t, nI_1]
    cases hc : it j with
    | none =>
      rw [hc] at hit
      have eD : plD true c N it V0 j = false := by
        unfold plD
        rw [hc]
      rw [eC, eD, if_neg (by decide)] at hn
      rw [if_pos (show za m (zR P 40 rc) j = -2 from hit)]
      exact hn
    | some q =>
      obtain ⟨ro, h, z, a⟩ := q
      have er := hr j (by omega) _ hc
      rw [hc] at hit
      obtain ⟨a1, a2, a3, a4⟩ := hit
      have eD : plD true c N it V0 j = decide (¬ plA c N it V0 j < 0) := by
        unfold plD
        rw [hc]
        rfl
      rw [a1, if_neg (oI_n2 (hF j (by omega) ro h z a hc).2.2 (by omega)), er]
      by_cases e : plA c N it V0 j < 0
      · rw [eC, eD, decide_eq_false (fun q => q e), if_neg (by decide)] at hn
        rw [if_pos e]
        exact hn
      · rw [eC, eD, decide_eq_true e, if_pos rfl] at hn
        rw [if_neg e]
        exact hn
end PL

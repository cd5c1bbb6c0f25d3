/-! ===== calls: play, answeredIf: the reference ===== -/
section PS
variable {own : Nat → Nat} {P : zSt} {m m' m0 m1 : zM} {x y B B' u N R rc : Nat} {g : zGr} {V V' V0 W : Nat → Int32} {sv mk : Bool} {Vs Vm T Q : Nat → Int32} {tn pn k : Nat} {it : zIt} {c : Int32}
/-- a text put aside -/
theorem r_keep_l (ok : yOK P y) (htn : tn ≤ 40) {c x2 : Int32} : ∀ d j fu (m : zM), j + d = tn → d < fu → (∀ i, i < j → za m (zR P 217 y) i = za m (zR P 206 y) i) →
    ∃ m', f_X11_plays_b40 P fu y c x2 (nI tn) (nI j) m = (zb (f_X11_copies P (zR P 202 y) (zR P 200 y) m') fun _ m74 => f_X11_plays_b88 P zfuel y x2 (nI tn) 0 0 (zfp m74 216 y c)) ∧ (∀ i, i < tn → za m' (zR P 217 y) i = za m' (zR P 206 y) i) ∧ Fp (fun _ _ => False) (fun a _ => a = zR P 217 y) m m' := by
  intro d
  induction d with
  | zero =>
    intro j fu m hj hfu h
    obtain ⟨fu, rfl⟩ : ∃ f, fu = f + 1 := ⟨fu - 1, by omega⟩
    have : j = tn := by omega
    subst this
    unfold f_X11_plays_b40
    rw [if_pos (Int32.le_refl _)]
    exact ⟨m, rfl, h, Fp.rfl'⟩
  | succ d ih =>
    intro j fu m hj hfu h
    obtain ⟨fu, rfl⟩ : ∃ f, fu = f + 1 := ⟨fu - 1, by omega⟩
    have n1 : zR P 206 y ≠ zR P 217 y := yne ok (by decide) (by decide) (by decide)
    have l206 := ok.2.2.2.2.1
    have l217 := ok.2.2.2.2.2.2.2.2.2.1
    unfold f_X11_plays_b40
    rw [if_neg (by rw [n_le (by omega) (by omega)]; omega)]
    simp only [zl_s]
    rw [l206, l217, zin_n (by omega) (by omega), zgd_t, zgd_t, n_nat (by omega), nI_1]
    obtain ⟨m2, q1, q2, q3⟩ := ih (j + 1) fu (zap m (zR P 217 y) j (za m (zR P 206 y) j)) (by omega) (by omega) (fun i hi => by
      rw [za_ne (a' := zR P 206 y) (Or.inl n1)]
      by_cases e : i = j
      · rw [e, za_eq]
      · rw [za_ne (Or.inr e)]
        exact h i (by omega))
    exact ⟨m2, q1, q2, (Fp.pua (A := fun a _ => a = zR P 217 y) Fp.rfl' rfl).trans q3⟩
theorem r_back_l (ok : yOK P y) (htn : tn ≤ 40) {w : Int32} : ∀ d j fu (m : zM), j + d = tn → d < fu → (∀ i, i < j → za m (zR P 206 y) i = za m (zR P 217 y) i) →
    ∃ m', f_X11_plays_b247 P fu y (nI tn) w (nI j) m = (zb (f_X11_copies P (zR P 203 y) (zR P 200 y) m') fun _ m281 => some (w, m281)) ∧ (∀ i, i < tn → za m' (zR P 206 y) i = za m' (zR P 217 y) i) ∧ Fp (fun _ _ => False) (fun a _ => a = zR P 206 y) m m' := by
  intro d
  induction d with
  | zero =>
    intro j fu m hj hfu h
    obtain ⟨fu, rfl⟩ : ∃ f, fu = f + 1 := ⟨fu - 1, by omega⟩
    have : j = tn := by omega
    subst this
    unfold f_X11_plays_b247
    rw [if_pos (Int32.le_refl _)]
    exact ⟨m, rfl, h, Fp.rfl'⟩
  | succ d ih =>
    intro j fu m hj hfu h
    obtain ⟨fu, rfl⟩ : ∃ f, fu = f + 1 := ⟨fu - 1, by omega⟩
    have n1 : zR P 217 y ≠ zR P 206 y := yne ok (by decide) (by decide) (by decide)
    have l206 := ok.2.2.2.2.1
    have l217 := ok.2.2.2.2.2.2.2.2.2.1
    unfold f_X11_plays_b247
    rw [if_neg (by rw [n_le (by omega) (by omega)]; omega)]
    simp only [zl_s]
    rw [l206, l217, zin_n (by omega) (by omega), zgd_t, zgd_t, n_nat (by omega), nI_1]
    obtain ⟨m2, q1, q2, q3⟩ := ih (j + 1) fu (zap m (zR P 206 y) j (za m (zR P 217 y) j)) (by omega) (by omega) (fun i hi => by
      rw [za_ne (a' := zR P 217 y) (Or.inl n1)]
      by_cases e : i = j
      · rw [e, za_eq]
      · rw [za_ne (Or.inr e)]
        exact h i (by omega))
    exact ⟨m2, q1, q2, (Fp.pua (A := fun a _ => a = zR P 206 y) Fp.rfl' rfl).trans q3⟩
/-- what is done with a recorded request, its text laid -/
def plT (P : zSt) (rec_88 : Nat → Int32 → Int32 → Int32 → Int32 → zM → Option (Int32 × zM)) (a0 : Nat) (x2 x3 x4 x5 : Int32) (m : zM) : Option (Int32 × zM) :=
  zl (zR P 208 a0) fun b164 =>
      zgd (zin (((4 : Int32) * x5) + (1 : Int32)) (zlen P b164)) <|
      zl (zR P 208 a0) fun b175 =>
      zgd (zin (((4 : Int32) * x5) + (2 : Int32)) (zlen P b175)) <|
      zb (f_X11_answers P a0 (za m b164 (((4 : Int32) * x5) + (1 : Int32)).toNatClampNeg) (za m b175 (((4 : Int32) * x5) + (2 : Int32)).toNatClampNeg) m) fun r185 m185 =>
      (if x2 = 0 then
        zl (zR P 208 a0) fun b207 =>
        zgd (zin (((4 : Int32) * x5) + (3 : Int32)) (zlen P b207)) <|
        (if r185 = (za m185 b207 (((4 : Int32) * x5) + (3 : Int32)).toNatClampNeg) then
          f_X11_plays_b224 P rec_88 a0 x2 x3 x5 x4 m185
        else
          f_X11_plays_b220 P rec_88 a0 x2 x3 x5 x4 m185)
      else
        (if r185 < 0 then
          f_X11_plays_b224 P rec_88 a0 x2 x3 x5 x4 m185
        else
          f_X11_plays_b220 P rec_88 a0 x2 x3 x5 x4 m185))
theorem r_ptxt_l (ok : yOK P y) {rec_88 : Nat → Int32 → Int32 → Int32 → Int32 → zM → Option (Int32 × zM)} {n i0 : Nat} (hn : n ≤ 40) (hi0 : i0 < 60) {x2 x3 x4 : Int32} : ∀ d j fu (m : zM), j + d = n → d < fu → zf m 207 y = nI n → (∀ i, i < j → za m (zR P 206 y) i = za m (zR P 209 y) (40 * i0 + i)) →
    ∃ m', f_X11_plays_b127 P rec_88 fu y x2 x3 x4 (nI i0) (nI j) m = plT P rec_88 y x2 x3 x4 (nI i0) m' ∧ (∀ i, i < n → za m' (zR P 206 y) i = za m' (zR P 209 y) (40 * i0 + i)) ∧ Fp (fun _ _ => False) (fun a _ => a = zR P 206 y) m m' := by
  intro d
  induction d with
  | zero =>
    intro j fu m hj hfu h7 h
    obtain ⟨fu, rfl⟩ : ∃ f, fu = f + 1 := ⟨fu - 1, by omega⟩
    have : j = n := by omega
    subst this
    unfold f_X11_plays_b127 plT
    rw [h7, if_pos (Int32.le_refl _)]
    exact ⟨m, rfl, h, Fp.rfl'⟩
  | succ d ih =>
    intro j fu m hj hfu h7 h
    obtain ⟨fu, rfl⟩ : ∃ f, fu = f + 1 := ⟨fu - 1, by omega⟩
    have n1 : zR P 209 y ≠ zR P 206 y := yne ok (by decide) (by decide) (by decide)
    have l206 := ok.2.2.2.2.1
    have l209 := ok.2.2.2.2.2.2.1
    have e : ((40 : Int32) * nI i0) + nI j = nI (40 * i0 + j) := by simp only [nlit, n_mul, n_add]
    unfold f_X11_plays_b127
    rw [h7, if_neg (by rw [n_le (by omega) (by omega)]; omega), zl_s, zl_s, e, l206, l209, zin_n (by omega) (by omega), zin_n (by omega) (by omega), zgd_t, zgd_t, n_nat (by omega), n_nat (by omega), zl_s, zl_s, nI_1]
    obtain ⟨m2, q1, q2, q3⟩ := ih (j + 1) fu (zap m (zR P 206 y) j (za m (zR P 209 y) (40 * i0 + j))) (by omega) (by omega) h7 (fun i hi => by
      rw [za_ne (a' := zR P 209 y) (Or.inl n1)]
      by_cases e : i = j
      · rw [e, za_eq]
      · rw [za_ne (Or.inr e)]
        exact h i (by omega))
    exact ⟨m2, q1, q2, (Fp.pua (A := fun a _ => a = zR P 206 y) Fp.rfl' rfl).trans q3⟩
/-- the replay's frame -/
abbrev PG (P : zSt) (y : Nat) (m m' : zM) : Prop := Fp (fun f a => f = 207 ∧ a = y) (fun a _ => a = zR P 200 y ∨ a = zR P 206 y) m m'
theorem PG.z (ok : yOK P y) (f : PG P y m m') {j : Nat} (hj : j ∈ yRows) (h0 : j ≠ 200) (h6 : j ≠ 206) : za m' (zR P j y) = za m (zR P j y) := by
  funext i
  refine f.2.2 _ _ (fun q => ?_)
  rcases q with q | q
  · exact yne ok hj (by decide) h0 q
  · exact yne ok hj (by decide) h6 q
theorem r_play_l (ok : yOK P y) (b : Bool) {x3 : Int32} (hF : itF it k R) (hk : k ≤ 60) (hI : ∀ i, i ≤ k → InV (plV c N it V0 i) N R (B + 5 * i)) (hB : B + 305 < 1000000) (hRm : R ≤ 8 ∧ Vm 230 = nI R ∧ RuL Vm R) (hVm : ∀ r, r < R → RuK Vm V0 r r) (hit : ∀ i, i < k → itY P m0 y Vm i (it i)) : ∀ d j fu (m : zM), j + d = k → d < fu → PG P y m0 m → zf m 210 y = nI k → zf m 216 y = c → za m (zR P 200 y) = plV c N it V0 j →
    ∃ m', f_X11_plays_b88 P fu y (bI b) x3 (plC b c N it V0 j) (nI j) m = f_X11_plays_b247 P zfuel y x3 (plC b c N it V0 k) 0 (zfp (zfp m' 216 y (-1)) 207 y x3) ∧ PG P y m0 m' := by
  intro d
  have l208 := ok.2.2.2.2.2.1
  induction d with
  | zero =>
    intro j fu m hj hfu f h210 h216 hV
    obtain ⟨fu, rfl⟩ : ∃ f, fu = f + 1 := ⟨fu - 1, by omega⟩
    have : j = k := by omega
    subst this
    unfold f_X11_plays_b88
    rw [h210, if_pos (Int32.le_refl _), zl_s, zl_s]
    exact ⟨m, rfl, f⟩
  | succ d ih =>
    intro j fu m hj hfu f h210 h216 hV
    obtain ⟨fu, rfl⟩ : ∃ f, fu = f + 1 := ⟨fu - 1, by omega⟩
    have hjk : j < k := by omega
    have hIj := hI j (by omega)
    have h12 := hIj.st.2.1
    have h8 := hIj.2.1.2
    have hij := hit j hjk
    have e8 : za m (zR P 208 y) = za m0 (zR P 208 y) := PG.z ok f (by decide) (by decide) (by decide)
    have e9 : za m (zR P 209 y) = za m0 (zR P 209 y) := PG.z ok f (by decide) (by decide) (by decide)
    have ej : (4 : Int32) * nI j = nI (4 * j) := by simp only [nlit, n_mul]
    have eC : plC b c N it V0 (j + 1) = if plD b c N it V0 j = true then plC b c N it V0 j + 1 else plC b c N it V0 j := rfl
    have fz : ∀ v, PG P y m (zfp m 207 y v) := fun v => Fp.put (S := fun f a => f = 207 ∧ a = y) Fp.rfl' (And.intro rfl rfl)
    unfold f_X11_plays_b88
    rw [h210, if_neg (by rw [n_le (by omega) (by omega)]; omega), zl_s, ej, l208, zin_n (by omega) (by omega), zgd_t, n_nat (by omega), zl_s, zf_eq, e8]
    cases hc : it j with
    | none =>
      rw [hc] at hij
      have e1 : za m0 (zR P 208 y) (4 * j) = -1 := hij
      have eD : plD b c N it V0 j = false := by
        unfold plD
        rw [hc]
      have eV : plV c N it V0 (j + 1) = sTk (plV c N it V0 j) N := by
        show (match it j with | none => _ | some q => _) = _
        rw [hc]
      have ht := r_ticks (m := zfp m 207 y (-1)) ok (N := N) (by rw [show za (zfp m 207 y (-1)) (yv P y) = plV c N it V0 j from hV]; exact hIj.st.1) h12
      rw [show za (zfp m 207 y (-1)) (yv P y) = plV c N it V0 j from hV] at ht
      have ht' : f_X11_ticks P y (zfp m 207 y (-1)) = some (0, wA (zfp m 207 y (-1)) (yv P y) (plV c N it V0 (j + 1))) := by
        rw [eV]
        exact ht
      rw [e1, if_neg (by decide), ht', zb_s]
      unfold f_X11_plays_b228
      rw [zl_s, nI_1]
      rw [eD, if_neg (by decide)] at eC
      have fw : PG P y (zfp m 207 y (-1)) (wA (zfp m 207 y (-1)) (yv P y) (plV c N it V0 (j + 1))) := ⟨rfl, fun _ _ _ => rfl, fun a i q => by rw [za_wA_ne (fun e => q (Or.inl e))]⟩
      obtain ⟨m2, q1, q2⟩ := ih (j + 1) fu (wA (zfp m 207 y (-1)) (yv P y) (plV c N it V0 (j + 1))) (by omega) (by omega) ((f.trans (fz _)).trans fw) (by rw [zf_wA, zf_ne (Or.inl (by omega))]; exact h210) (by rw [zf_wA, zf_ne (Or.inl (by omega))]; exact h216) za_wA
      rw [eC] at q1
      exact ⟨m2, q1, q2⟩
    | some q =>
      obtain ⟨ro, h, z, a⟩ := q
      rw [hc] at hij
      obtain ⟨g1, g2, g3, g4, g5, n, R', g6, g7, g8, g9, g10⟩ := hij
      obtain ⟨f1, f2, f3⟩ := hF j hjk ro h z a hc
      rw [hRm.2.1, n_inj (by omega) (by omega)] at g8
      subst g8
      rw [g7, if_pos (nI_pos' (by omega))]
      obtain ⟨m2, p1, p2, p3⟩ := r_ptxt_l (rec_88 := f_X11_plays_b88 P fu) (x2 := bI b) (x3 := x3) (x4 := plC b c N it V0 j) ok g6 (show j < 60 by omega) n 0 zfuel (zfp m 207 y (nI n)) (by omega) (by unfold zfuel; omega) zf_eq (by intro i hi; omega)
      have p1' : f_X11_plays_b127 P (f_X11_plays_b88 P fu) zfuel y (bI b) x3 (plC b c N it V0 j) (nI j) 0 (zfp m 207 y (nI n)) = plT P (f_X11_plays_b88 P fu) y (bI b) x3 (plC b c N it V0 j) (nI j) m2 := p1
      have fp2 : PG P y (zfp m 207 y (nI n)) m2 := p3.mono (fun _ _ q => q.elim) (fun _ _ q => Or.inr q)
      have f2' := (f.trans (fz (nI n))).trans fp2
      have k8 : za m2 (zR P 208 y) = za m0 (zR P 208 y) := PG.z ok f2' (by decide) (by decide) (by decide)
      have k9 : za m2 (zR P 209 y) = za m0 (zR P 209 y) := PG.z ok f2' (by decide) (by decide) (by decide)
      have z207 : zf m2 207 y = nI n := by rw [p3.2.1 _ _ (fun q => q), zf_eq]
      have z210 : zf m2 210 y = nI k := by rw [p3.2.1 _ _ (fun q => q), zf_ne (Or.inl (by omega))]; exact h210
      have z216 : zf m2 216 y = c := by rw [p3.2.1 _ _ (fun q => q), zf_ne (Or.inl (by omega))]; exact h216
      have zV : za m2 (zR P 200 y) = plV c N it V0 j := by
        rw [← hV]
        funext i
        exact p3.2.2 _ _ (fun q => yne ok (by decide) (by decide) (by decide) q)
      have hans := r_answers (m := m2) ok (c := c) (N := N) (R := R) (tn := n) (h := h) (z := z) z216 f1 f2 (by rw [zV]; exact hIj.st) (by rw [zV]; exact hIj.ru) z207 g6 (yne ok (by decide) (by decide) (by decide))
      have hro : sFst (sFits (sNew (plV c N it V0 j)) (za m2 (zR P 206 y)) n (nI h)) R 0 = ro := by
        rw [← g10]
        refine ro_eq h8 hRm.2.2 (fun r hr jj hjj => ?_) (fun i hi => by rw [p2 i hi, k9])
        have e1 := plV_keep hF (j := 231 + 58 * r + jj) (by unfold kA; omega) (by omega) j (by omega) (fun i' hi' => hI i' (by omega))
        rw [sNew_keep (by omega), e1]
        exact (hVm r hr).1 jj (by omega)
      rw [zV, hro] at hans
      have eV : plV c N it V0 (j + 1) = (sAnswer c (plV c N it V0 j) N h z ro).2 := by
        show (match it j with | none => _ | some q => _) = _
        rw [hc]
      have eA : plA c N it V0 j = (sAnswer c (plV c N it V0 j) N h z ro).1 := by
        unfold plA
        rw [hc]
      rw [← eV, ← eA] at hans
      have fw : PG P y m2 (wA m2 (yv P y) (plV c N it V0 (j + 1))) := ⟨rfl, fun _ _ _ => rfl, fun a i q => by rw [za_wA_ne (fun e => q (Or.inl e))]⟩
      have w8 : za (wA m2 (yv P y) (plV c N it V0 (j + 1))) (zR P 208 y) = za m0 (zR P 208 y) := by rw [za_wA_ne (yne ok (by decide) (by decide) (by decide)), k8]
      obtain ⟨m3, q1, q2⟩ := ih (j + 1) fu (wA m2 (yv P y) (plV c N it V0 (j + 1))) (by omega) (by omega) (f2'.trans fw) z210 z216 za_wA
      refine ⟨m3, ?_, q2⟩
      rw [p1']
      unfold plT
      have e1 : nI (4 * j) + 1 = nI (4 * j + 1) := n_add _ 1
      have e2 : nI (4 * j) + 2 = nI (4 * j + 2) := n_add _ 2
      have e3 : nI (4 * j) + 3 = nI (4 * j + 3) := n_add _ 3
      rw [zl_s, ej, e1, e2, e3, l208, zin_n (by omega) (by omega), zgd_t, zl_s, l208, zin_n (by omega) (by omega), zgd_t, n_nat (by omega), n_nat (by omega), k8, g3, g4, hans, zb_s, zl_s, l208, zin_n (by omega) (by omega), zgd_t, n_nat (by omega)]
      dsimp only
      rw [w8, g5]
      unfold f_X11_plays_b224 f_X11_plays_b220 f_X11_plays_b225 f_X11_plays_b228
      simp only [zl_s]
      rw [nI_1, show plC b c N it V0 j + 0 = plC b c N it V0 j from Int32.add_zero _]
      cases b with
      | false =>
        have eD : plD false c N it V0 j = decide (¬ plA c N it V0 j = a) := by
          unfold plD
          rw [hc]
          rfl
        rw [if_pos (show bI false = 0 from rfl)]
        by_cases e : plA c N it V0 j = a
        · rw [eC, eD, decide_eq_false (fun q => q e), if_neg (by decide)] at q1
          rw [if_pos e]
          exact q1
        · rw [eC, eD, decide_eq_true e, if_pos rfl] at q1
          rw [if_neg e]
          exact q1
      | true =>
        have eD : plD true c N it V0 j = decide (¬ plA c N it V0 j < 0) := by
          unfold plD
          rw [hc]
          rfl
        rw [if_neg (show ¬ bI true = 0 by decide)]
        by_cases e : plA c N it V0 j < 0
        · rw [eC, eD, decide_eq_false (fun q => q e), if_neg (by decide)] at q1
          rw [if_pos e]
          exact q1
        · rw [eC, eD, decide_eq_true e, if_pos rfl] at q1
          rw [if_neg e]
          exact q1
end PS

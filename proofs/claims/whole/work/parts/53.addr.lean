/-! ===== calls: addRule ===== -/
/-- a rule put behind the rules -/
def adR (V W : Nat → Int32) (R : Nat) : Nat → Int32 := fun j => if j = 230 then nI (R + 1) else if 231 + 58 * R ≤ j ∧ j < 231 + 58 * R + 58 then W (j - (231 + 58 * R)) else V j
def adL (V W : Nat → Int32) (R k : Nat) : Nat → Int32 := fun j => if 231 + 58 * R ≤ j ∧ j < 231 + 58 * R + k then W (j - (231 + 58 * R)) else V j
theorem adR_o {V W : Nat → Int32} {R j : Nat} (h : j ≠ 230) (h2 : j < 231 + 58 * R ∨ 231 + 58 * R + 58 ≤ j) : adR V W R j = V j := by
  unfold adR
  rw [if_neg h, if_neg (by omega)]
theorem adR_i {V W : Nat → Int32} {R k : Nat} (h : k < 58) : adR V W R (231 + 58 * R + k) = W k := by
  unfold adR
  rw [if_neg (by omega), if_pos (by omega)]
  congr 1
  omega
theorem adR_n {V W : Nat → Int32} {R : Nat} : adR V W R 230 = nI (R + 1) := if_pos rfl
theorem adL_0 {V W : Nat → Int32} {R : Nat} : adL V W R 0 = V := by
  funext j
  unfold adL
  rw [if_neg (by omega)]
theorem adL_s {V W : Nat → Int32} {R k : Nat} : uV (adL V W R k) (231 + 58 * R + k) (W k) = adL V W R (k + 1) := by
  funext j
  unfold uV adL
  by_cases h : j = 231 + 58 * R + k
  · rw [if_pos h, if_pos (by omega)]
    congr 1
    omega
  · rw [if_neg h]
    by_cases h2 : 231 + 58 * R ≤ j ∧ j < 231 + 58 * R + k
    · rw [if_pos h2, if_pos (by omega)]
    · rw [if_neg h2, if_neg (by omega)]
theorem adL_e {V W : Nat → Int32} {R : Nat} : uV (adL V W R 58) 230 (nI (R + 1)) = adR V W R := by
  funext j
  unfold uV adL adR
  by_cases h : j = 230
  · rw [if_pos h]
  · rw [if_neg h]
theorem prL_W {V W : Nat → Int32} {R : Nat} : ∀ n, n ≤ 3 → prL (adR V W R) R n = pL W n := by
  intro n
  induction n with
  | zero => intro _; rfl
  | succ n ih =>
    intro h
    unfold prL pL
    rw [ih (by omega), show 231 + 58 * R + 44 + 4 * n + 1 = 231 + 58 * R + (44 + 4 * n + 1) by omega, adR_i (by omega)]
/-- how far a reading can come -/
theorem pB_off {x : zW0} {k : Nat → (Nat → Int32) → zW0} {a b : Nat} (h : x.2.1 ≤ a) (hk : ∀ o W, o ≤ a → (k o W).2.1 ≤ b) (hab : a ≤ b) : (pB x k).2.1 ≤ b := by
  unfold pB
  split
  · exact hk _ _ h
  · omega
theorem pRange_off {H : Nat → Int32} {o : Nat} {W : Nat → Int32} : (pRange H o W).2.1 ≤ o + 5 := by
  unfold pRange
  repeat' split
  all_goals dsimp only; omega
theorem pEq_off {H : Nat → Int32} {o : Nat} {W : Nat → Int32} : (pEq H o W).2.1 ≤ o + 1 := by
  unfold pEq
  split <;> dsimp only <;> omega
theorem pTgt_off {H : Nat → Int32} {o n : Nat} {W : Nat → Int32} : (pTgt H o W n).2.1 ≤ o + 3 := by
  unfold pTgt
  repeat' split
  all_goals dsimp only; omega
theorem pTgs_off {H : Nat → Int32} : ∀ d o (W : Nat → Int32) n, (pTgs H d o W n).2.1 ≤ o + 4 * d := by
  intro d
  induction d with
  | zero => intro o W n; exact Nat.le_refl _
  | succ d ih =>
    intro o W n
    unfold pTgs
    refine pB_off (a := o + 3) pTgt_off (fun o' W' h => ?_) (by omega)
    split
    · have := ih (o' + 1) W' (n + 1)
      omega
    · dsimp only
      omega
theorem pOne_off {H : Nat → Int32} {sg lo hi : Int32} {c o : Nat} {W : Nat → Int32} : (pOne H sg lo hi c o W).2.1 ≤ o + 2 := by
  unfold pOne
  repeat' split
  all_goals dsimp only; omega
theorem pPre_off {tn : Nat} {T : Nat → Int32} : ∀ d o (W : Nat → Int32), (pPre tn T d o W).1 ≤ o + d := by
  intro d
  induction d with
  | zero => intro o W; exact Nat.le_refl _
  | succ d ih =>
    intro o W
    unfold pPre
    split
    · have := ih (o + 1) (uV (uV W (1 + o) (T o)) 0 (nI (o + 1)))
      omega
    · dsimp only
      omega
theorem pRead_off {tn : Nat} {T A : Nat → Int32} : (pRead tn T A).2.1 ≤ 70 := by
  unfold pRead
  split
  · unfold pTail
    have h0 := pPre_off (tn := tn) (T := T) 40 0 (pW0 A)
    refine pB_off (a := 45) (by have := pRange_off (H := pH tn T) (o := (pPre tn T 40 0 (pW0 A)).1) (W := (pPre tn T 40 0 (pW0 A)).2); omega) (fun o W h => ?_) (by omega)
    refine pB_off (a := 46) (by have := pEq_off (H := pH tn T) (o := o) (W := W); omega) (fun o W h => ?_) (by omega)
    refine pB_off (a := 58) (by have := pTgs_off (H := pH tn T) 3 o W 0; omega) (fun o W h => ?_) (by omega)
    refine pB_off (a := 60) (by have := pOne_off (H := pH tn T) (sg := 126) (lo := 0) (hi := 3) (c := 57) (o := o) (W := W); omega) (fun o W h => ?_) (by omega)
    refine pB_off (a := 62) (by have := pOne_off (H := pH tn T) (sg := 42) (lo := 1) (hi := 4) (c := 56) (o := o) (W := W); omega) (fun o W h => ?_) (by omega)
    unfold pEnd
    dsimp only
    omega
  · dsimp only
    omega
theorem nI_nm {a : Nat} (h : a < 2 ^ 31) : ¬ nI a = -1 := fun q => by
  have := nI_pos' h
  rw [q] at this
  exact absurd this (by decide)
section AR
variable {own : Nat → Nat} {P : zSt} {m m' : zM} {x y B B' u N R rc : Nat} {g : zGr} {V V' W : Nat → Int32} {sv mk : Bool} {Vs Vm T Q : Nat → Int32} {tn pn k : Nat} {it : zIt}
theorem RuA.new {n : Nat} (hn : 1 ≤ n) (h : PJ tn tn W n) (hl : pLn W ≤ 40) : RuA (adR V W R) R := by
  obtain ⟨-, h0, h41, h42, hch, h56, h57, hn3, h43, ht⟩ := h
  have e : ∀ k, k < 58 → adR V W R (231 + 58 * R + k) = W k := fun k hk => adR_i hk
  have e0 : adR V W R (231 + 58 * R) = W 0 := e 0 (by omega)
  have et : ∀ t c, t < 3 → c < 2 → adR V W R (231 + 58 * R + 44 + 4 * t + c) = W (44 + 4 * t + c) := fun t c a b => by
    rw [show 231 + 58 * R + 44 + 4 * t + c = 231 + 58 * R + (44 + 4 * t + c) by omega, e _ (by omega)]
  refine ⟨⟨by rw [e0]; exact h0, ⟨n, hn, hn3, by rw [e 43 (by omega)]; exact h43, fun t q => ?_⟩, by rw [e 56 (by omega)]; exact h56⟩, by rw [e 41 (by omega)]; exact h41, by rw [e 42 (by omega)]; exact h42, fun k hk => ?_, fun t q => ?_, by rw [e 57 (by omega)]; exact h57, ?_⟩
  · have := et t 0 (by omega) (by omega)
    rw [Nat.add_zero, Nat.add_zero] at this
    rw [this]
    exact (ht t q).1
  · rw [show 231 + 58 * R + 1 + k = 231 + 58 * R + (1 + k) by omega, e _ (by omega)]
    exact hch k hk
  · rw [e 43 (by omega), h43, n_nat (by omega)] at q
    rw [et t 1 (by omega) (by omega)]
    exact (ht t q).2
  · unfold pLn at hl
    unfold prN
    rw [e0, e 41 (by omega), e 42 (by omega), e 43 (by omega), e 57 (by omega), e 56 (by omega), prL_W _ (by rw [h43, n_nat (by omega)]; exact hn3)]
    exact hl
theorem InV.addR {n : Nat} (h : InV V N R B) (hR : R < 8) (hn : 1 ≤ n) (hj : PJ tn tn W n) (hl : pLn W ≤ 40) : InV (adR V W R) N (R + 1) B := by
  have h12 := h.st.2.1
  have o : ∀ j, j < 230 → adR V W R j = V j := fun j q => adR_o (by omega) (by omega)
  refine ⟨h.st.to (o _ (by omega)) (o _ (by omega)) (fun i hi => o _ (by omega)) (fun s t hs ht => Or.inl (o _ (by omega))), ⟨adR_n, by omega⟩, h.sv.to (fun s hs => ⟨o _ (by omega), o _ (by omega)⟩), h.bd.to (fun i k _ _ _ _ _ => o _ (by omega)), fun i hi => by rw [o _ (by omega)]; exact h.sr i hi, fun r hr => ?_⟩
  by_cases e : r = R
  · subst e
    exact RuA.new hn hj hl
  · exact (h.ra (show r < R by omega)).to ⟨fun j hj => adR_o (by omega) (by omega), fun t ht => ⟨adR_o (by omega) (by omega), adR_o (by omega) (by omega)⟩⟩
theorem c_takeRule {T n s rd : Nat} {ts : Nat → Nat} (hb : bMp own P m u g N R T V B) (hR : R < 8) (hn : 1 ≤ n) (hj : PJ tn tn W n) (hl : pLn W ≤ 40) (hs : RuP P m s ts W) (l3 : zlen P (zR P 63 s) = 3) (l40 : zlen P (zR P 140 (zR P 60 s)) = 40) (hz : ∀ t, t < 3 → zr m (zR P 63 s) t = ts t) (hrd : rd ≠ u) (o1 : own s = rd) (o2 : own (zR P 60 s) = rd) (o3 : own (zR P 140 (zR P 60 s)) = rd) (o4 : ∀ t, t < 3 → own (ts t) = rd) :
    ∃ m', f_X1_takeRule P u s m = some (nI R, m') ∧ bMp own P m' u g N (R + 1) T (adR V W R) B ∧ Fo own u m m' := by
  obtain ⟨hM, hG, hp, hx, h27, hI⟩ := hb
  have h12 := hI.st.2.1
  have h8 := hI.2.1.2
  have hf : Mf own P u g N := hM.mf h12
  have hq := hM.2.2.1
  have w := hf.2.1.2.2.2.2.2.2.2.2.2.2.2.2.2
  have hou := hM.ou
  obtain ⟨w1, w2, w3, w4⟩ := w R hR
  obtain ⟨l, l1, l2⟩ := hj.2.1
  obtain ⟨m1, c1, c2, c3⟩ := c_rcopy (P := P) (m := m) (d := gQ g R) (s := s) (l := l) (n := n) (td := gT g R) (ts := ts) (W := W) hs l2 l1 hj.2.2.2.2.1 hj.2.2.2.2.2.2.2.2.1 hj.2.2.2.2.2.2.2.1 (hf.1.2.2.2.1 R hR) l3 (hf.1.2.2.2.2.2.2.2 R hR) l40 (fun i j hi hj q => hrd (by rw [← o4 i hi, ← w4 j hj, q])) (fun i j hi hj q => (hf.2.1.2.2.1 R i R j hR hi hR hj q).2) (fun q => hrd (by rw [← o1, ← w1, q])) (fun q => hrd (by rw [← o2, ← w2]; exact congrArg own q)) (fun q => hrd (by rw [← o3, ← w3]; exact congrArg own q)) (fun t ht => hG.2.2.2.1 R t hR ht) hz
  have e24 : zf m1 24 u = nI R := by
    rw [c3.2.1 24 u (by
      rintro (⟨q1, q2, q3⟩ | ⟨q1, q2⟩ | ⟨q1, q2, t, q3, q4⟩) <;> omega)]
    exact hp.1.2.2.1
  have kf : ∀ f a, (f < 60 ∧ f ≠ 24) ∨ (67 ≤ f ∧ f < 120) ∨ 142 ≤ f → zf (zfp m1 24 u (nI (R + 1))) f a = zf m f a := fun f a h => by
    rw [zf_ne (Or.inl (by omega)), c3.2.1 f a (by
      rintro (⟨q1, q2, q3⟩ | ⟨q1, q2⟩ | ⟨q1, q2, t, q3, q4⟩) <;> omega)]
  have ka : ∀ a i, a ≠ gZ P g R → za (zfp m1 24 u (nI (R + 1))) a i = za m a i := fun a i h => c3.2.2 a i h
  have f1 : Fo own u m (zfp m1 24 u (nI (R + 1))) := (c3.fo (by
      rintro f a (⟨q1, q2, q3⟩ | ⟨q1, q2⟩ | ⟨q1, q2, t, q3, q4⟩)
      · rw [q3, w1]
      · rw [q2]
        exact w2
      · rw [q4, w4 t q3]) (fun a i q => by rw [q]; exact w3)).trans (Fo.zfp hou)
  have hL : RuL V R := hI.ru.l
  have f24 : Fp (fun f a => f = 24 ∧ a = u) (fun _ _ => False) m1 (zfp m1 24 u (nI (R + 1))) := Fp.put (S := fun f a => f = 24 ∧ a = u) Fp.rfl' (And.intro rfl rfl)
  have hrs : ∀ r, r < R + 1 → RuP P (zfp m1 24 u (nI (R + 1))) (gQ g r) (gT g r) (fun j => adR V W R (231 + 58 * r + j)) := by
    intro r hr
    refine RuP.fp (p := 0) (z := 0) (m := m1) ?_ f24 (fun i a b q => by omega) (fun q => by omega) (fun i t a b c q => by omega) (fun k q => q)
    by_cases e : r = R
    · subst e
      obtain ⟨a1, a2, a3, a4, a5, a6, a7, a8⟩ := c2
      have ea : ∀ k, k < 58 → adR V W r (231 + 58 * r + k) = W k := fun k hk => adR_i hk
      refine ⟨a1.trans (ea 41 (by omega)).symm, a2.trans (ea 42 (by omega)).symm, a3.trans (ea 43 (by omega)).symm, a4.trans (ea 56 (by omega)).symm, a5.trans (ea 57 (by omega)).symm, a6.trans (ea 0 (by omega)).symm, fun k hk => ?_, fun t k ht hk => ?_⟩
      · dsimp only at hk ⊢
        rw [ea 0 (by omega)] at hk
        have := l2 ▸ hk
        rw [n_nat (by omega)] at this
        rw [ea (1 + k) (by omega)]
        exact a7 k hk
      · dsimp only at ht ⊢
        rw [ea 43 (by omega)] at ht
        have h3 := hj.2.2.2.2.2.2.2.1
        have := ht
        rw [hj.2.2.2.2.2.2.2.2.1, n_nat (by omega)] at this
        rw [ea (44 + 4 * t + k) (by omega)]
        exact a8 t k ht hk
    · have hr' : r < R := by omega
      have h0 : RuP P m (gQ g r) (gT g r) (fun j => V (231 + 58 * r + j)) := RuP.of hp.2.2.2.1 hp.2.2.2.2 hr'
      have ln := (hL.2 r hr').2
      have h1 : RuP P m1 (gQ g r) (gT g r) (fun j => V (231 + 58 * r + j)) := by
        refine h0.fp (p := 0) (z := 0) c3 ?_ ?_ ?_ ?_
        · rintro i hi1 hi2 (⟨q1, q2, q3⟩ | ⟨q1, q2⟩ | ⟨q1, q2, t, q3, q4⟩)
          · exact e (hq.1 r R (by omega) hR q3)
          · omega
          · omega
        · rintro (⟨q1, q2, q3⟩ | ⟨q1, q2⟩ | ⟨q1, q2, t, q3, q4⟩)
          · omega
          · exact e (hq.2.1 r R (by omega) hR q2)
          · omega
        · rintro i t hi1 hi2 ht (⟨q1, q2, q3⟩ | ⟨q1, q2⟩ | ⟨q1, q2, t', q3, q4⟩)
          · omega
          · omega
          · exact e (hf.2.1.2.2.1 r t R t' (by omega) (by have : t < (V (231 + 58 * r + 43)).toNatClampNeg := ht; omega) hR q3 q4).1
        · intro j q
          exact e (hq.2.2 r R (by omega) hR q)
      have ev : ∀ j, j < 58 → adR V W R (231 + 58 * r + j) = V (231 + 58 * r + j) := fun j hj => adR_o (by omega) (by omega)
      obtain ⟨a1, a2, a3, a4, a5, a6, a7, a8⟩ := h1
      refine ⟨a1.trans (ev 41 (by omega)).symm, a2.trans (ev 42 (by omega)).symm, a3.trans (ev 43 (by omega)).symm, a4.trans (ev 56 (by omega)).symm, a5.trans (ev 57 (by omega)).symm, a6.trans (ev 0 (by omega)).symm, fun k hk => ?_, fun t k ht hk => ?_⟩
      · dsimp only at hk ⊢
        rw [ev 0 (by omega)] at hk
        have h3 := (hL.2 r hr').1
        rw [ev (1 + k) (by rw [Nat.add_zero] at hk; omega)]
        exact a7 k hk
      · dsimp only at ht ⊢
        rw [ev 43 (by omega)] at ht
        rw [ev (44 + 4 * t + k) (by omega)]
        exact a8 t k ht hk
  obtain ⟨pr, pt⟩ := RuP.to hrs
  refine ⟨zfp m1 24 u (nI (R + 1)), ?_, ⟨hM, hG.to f1.1, ⟨?_, ?_, ?_, pr, pt⟩, ?_, ?_, hI.addR hR hn hj hl⟩, f1⟩
  · unfold f_X1_takeRule
    rw [zl_s, hM.1.2.2.1, hp.1.2.2.1, zin_8 hR, zgd_t, n_nat (by omega), hG.2.2.1 R hR, zl_s, c1, zb_s, e24, nI_1, zl_s, zf_eq, show (1 : Int32) = nI 1 from rfl, n_sub _ _ (by omega), Nat.add_sub_cancel]
  · obtain ⟨q1, q2, q3, q4, q5, q6, q7⟩ := hp.1
    refine ⟨by rw [kf _ _ (by omega), q1], by rw [adR_o (by omega) (by omega), q2], zf_eq, adR_n, ?_, by rw [kf _ _ (by omega), q6, adR_o (by omega) (by omega)], fun j h1 h2 => by rw [kf _ _ (by omega), q7 j h1 h2, adR_o (by omega) (by omega)]⟩
    rw [kf _ _ (by omega), q5]
    unfold sLm
    rw [if_neg (by decide), if_neg (by decide), adR_o (by omega) (by omega)]
  · exact hp.2.1.cg (fun i k _ _ => kf _ _ (by have := bsl_lt k; omega)) (fun i k hi hk => adR_o (by omega) (by omega))
  · refine hp.2.2.1.cg (fun s j _ _ => kf _ _ (by omega)) (fun s z hs hz => ka _ _ (fun q => ?_)) (fun s h hs hh => ka _ _ (fun q => ?_)) (fun j h1 h2 => adR_o (by omega) (by omega))
    · exact (hf.2.1.2.2.2.2.2.2.2.2.1 R s hR hs).1 q.symm
    · exact (hf.2.1.2.2.2.2.2.2.2.2.1 R s hR hs).2.1 q.symm
  · have hT := hx.2.1
    exact hx.cg (kf _ _ (by omega)) (fun i k hi hk => ka _ _ (fun q => (hf.2.1.2.2.2.2.2.2.2.2.1 R i hR (by omega)).2.2 q.symm)) (adR_o (by omega) (by omega)) (fun i k hi hk => adR_o (by omega) (by omega))
  · rw [kf _ _ (by omega), adR_o (by omega) (by omega)]
    exact h27
theorem r_addR_l (ok : yOK P y) (hR : R < 8) (hV : V 230 = nI R) (hW : za m (zR P 215 y) = W) : ∀ d k fu, k + d = 58 → d < fu → f_X11_addRule_b51 P fu y (nI k) (wA m (yv P y) (adL V W R k)) = some (nI R, wA m (yv P y) (adR V W R)) := by
  intro d
  have e230 : ∀ k, adL V W R k 230 = nI R := fun k => by
    unfold adL
    rw [if_neg (by omega), hV]
  induction d with
  | zero =>
    intro k fu hk hfu
    obtain ⟨fu, rfl⟩ : ∃ f, fu = f + 1 := ⟨fu - 1, by omega⟩
    have : k = 58 := by omega
    subst this
    unfold f_X11_addRule_b51
    rw [if_pos (show (58 : Int32) ≤ nI 58 from Int32.le_refl _), zl_s, ok.1, show zin (230 : Int32) 723 = true by decide, zgd_t, zgd_t, show (230 : Int32).toNatClampNeg = 230 by decide, za_wA, e230, nI_1, zap_wA, adL_e, zl_s, zl_s, ok.1, show zin (230 : Int32) 723 = true by decide, zgd_t, za_wA, adR_n, show (1 : Int32) = nI 1 from rfl, n_sub _ _ (by omega), Nat.add_sub_cancel]
  | succ d ih =>
    intro k fu hk hfu
    obtain ⟨fu, rfl⟩ : ∃ f, fu = f + 1 := ⟨fu - 1, by omega⟩
    have e : ((231 : Int32) + ((58 : Int32) * nI R)) + nI k = nI (231 + 58 * R + k) := by simp only [nlit, n_mul, n_add]
    have n1 : zR P 215 y ≠ zR P 200 y := yne ok (by decide) (by decide) (by decide)
    have l215 := (ok_ne ok).2.2.2.2
    unfold f_X11_addRule_b51
    rw [if_neg (show ¬ (58 : Int32) ≤ nI k from fun q => by have := (n_le (a := 58) (by omega) (by omega)).mp q; omega), zl_s, zl_s, ok.1, show zin (230 : Int32) 723 = true by decide, zgd_t, show (230 : Int32).toNatClampNeg = 230 by decide, zl_s, l215, zin_n (by omega) (by omega), zgd_t, za_wA, e230, e, zin_v (by omega), zgd_t, nat_v (by omega), n_nat (by omega), za_wA_ne n1, hW, zap_wA, adL_s, zl_s, zl_s, nI_1]
    exact ih (k + 1) fu (by omega) (by omega)
theorem bY.rd (h : bY own P m y V sv Vs mk Vm tn T pn Q k it) (f : Fp (fun f a => (f = 213 ∨ f = 214) ∧ a = y) (fun a _ => a = zR P 215 y) m m') {b : Bool} (hb : zf m' 214 y = bI b) : bY own P m' y V sv Vs mk Vm tn T pn Q k it ∧ Fo own y m m' := by
  obtain ⟨h1, h2, h3, h4, ⟨h5, h5'⟩, ⟨h6, h6'⟩, ⟨h7, h7'⟩, ⟨h8, h8'⟩, ⟨h9, h9'⟩, h10, b0, h11⟩ := h
  have e : ∀ g, g ≠ 213 → g ≠ 214 → zf m' g y = zf m g y := fun g a c => f.2.1 g y (fun q => by rcases q.1 with q | q <;> omega)
  have ea : ∀ j, j ∈ yRows → j ≠ 215 → za m' (zR P j y) = za m (zR P j y) := fun j hj hn => by
    funext i
    exact f.2.2 _ _ (fun q => yne h1 hj (by decide) hn q)
  exact ⟨⟨h1, h2, h3, by rw [ea _ (by decide) (by decide)]; exact h4, ⟨by rw [e _ (by decide) (by decide)]; exact h5, by rw [ea _ (by decide) (by decide)]; exact h5'⟩, ⟨by rw [e _ (by decide) (by decide)]; exact h6, by rw [ea _ (by decide) (by decide)]; exact h6'⟩, ⟨by rw [e _ (by decide) (by decide)]; exact h7, by rw [ea _ (by decide) (by decide)]; exact h7'⟩, ⟨by rw [e _ (by decide) (by decide)]; exact h8, fun i hi => by rw [ea _ (by decide) (by decide)]; exact h8' i hi⟩, ⟨by rw [e _ (by decide) (by decide)]; exact h9, fun i hi => (h9' i hi).sm (fun j => by rw [ea _ (by decide) (by decide)]) (fun j => by rw [ea _ (by decide) (by decide)])⟩, by rw [e _ (by decide) (by decide)]; exact h10, b, hb⟩, f.fo (fun _ _ q => by rw [q.2, h2]) (fun _ _ q => by rw [q]; exact h3 215 (by decide))⟩
theorem L_addRule : Call own P x y (f_X10_addRule P x) (f_X11_addRule P y) := by
  intro B m hB h0
  obtain ⟨hn, V, sv, Vs, mk, Vm, tn, T, pn, Q, k, it, hC, hY, hI⟩ := h0
  obtain ⟨g, N, R, Tt, hb⟩ := hC.1
  have ok := hY.1
  have o := ow hn
  have hIn := hb.2.2.2.2.2
  have h12 := hIn.st.2.1
  have h8 := hIn.2.1.2
  obtain ⟨t1, t2, t3, t4, t5⟩ := hC.2.2.2.2.2.1
  obtain ⟨tt, d1, d2, d3, d4, d5, d6, d7, d8⟩ := hC.2.2.2.2.2.2.2.1
  have hdT : dT P (zR P 187 x) = zR P 185 x := d2
  generalize hAd : za m (zR P 215 y) = A
  obtain ⟨m1, p1, p2, p3, p4⟩ := c_read d1 (by rw [hdT]; exact t5) t4 hI.1 A
  have f1 : Fo own (zR P 187 x) m m1 := p3.fo (by
      rintro f a (⟨-, q⟩ | ⟨q1, q2, q3⟩ | ⟨q1, q2⟩ | ⟨q1, q2, t, q3, q4⟩)
      · rw [q, d3]
      · rw [q3, d4]
      · rw [q2]
        exact d5
      · rw [q4, d8 t q3]) (fun a i q => by rw [q]; exact d6)
  have hC1 := hC.rdr hn f1
  have hY1 := hY.sm (f1.z.sm (o 1 9 (by decide)))
  have eA1 : za m1 (zR P 215 y) = A := by
    funext i
    rw [← hAd]
    exact f1.2.2 _ _ (by rw [hY.2.2.1 215 (by decide)]; exact o 1 9 (by decide))
  obtain ⟨c1, c2⟩ := hC1.2.2.2.2.2.1.clr
  have hC2 := hC1.txt hn c2 c1
  have hY2 := hY1.sm (c2.sm (o 1 7 (by decide)))
  have g2 : ∀ f a, a ≠ zR P 185 x → zf (zfp m1 141 (zR P 185 x) 0) f a = zf m1 f a := fun f a h => zf_ne (Or.inr h)
  have eA2 : za (zfp m1 141 (zR P 185 x) 0) (zR P 215 y) = A := eA1
  have rz2 : ∀ a i, zr (zfp m1 141 (zR P 185 x) 0) a i = zr m1 a i := fun _ _ => rfl
  have za2 : ∀ a i, za (zfp m1 141 (zR P 185 x) 0) a i = za m1 a i := fun _ _ => rfl
  unfold f_X10_addRule f_X11_addRule
  rw [zl_s, p1, zb_s, zl_s, c_clearT, zb_s]
  dsimp only
  have p4' : (pRead tn T A).1 = true → RuP P (zfp m1 141 (zR P 185 x) 0) (dR P (zR P 187 x)) tt (pRead tn T A).2.2 := fun q =>
    RuP.fp (p := 0) (z := 0) (p4 q).1 (Fp.put (S := fun f a => f = 141 ∧ a = zR P 185 x) (A := fun _ _ => False) Fp.rfl' (And.intro rfl rfl)) (fun i a b q => by omega) (fun q => d1.2.2.2.1 (by rw [hdT]; exact q.2)) (fun i t a b c q => by omega) (fun k q => q)
  have rz : ∀ t, t < 3 → zr (zfp m1 141 (zR P 185 x) 0) (zR P 63 (dR P (zR P 187 x))) t = tt t := fun t ht => by
    rw [rz2]
    unfold zr
    rw [f1.1]
    exact d1.2.2.2.2.2.2 t ht
  generalize hm2 : zfp m1 141 (zR P 185 x) 0 = m2 at *
  -- the reference's reading, in any memory that holds its text
  have ref : ∀ m3, bY own P m3 y V sv Vs mk Vm tn T pn Q k it → za m3 (zR P 215 y) = A → ∃ m4 W', f_X11_reads P y (zfp m3 213 y 0) = some (0, m4) ∧ zf m4 213 y = nI (pRead tn T A).2.1 ∧ zf m4 214 y = bI (!(pRead tn T A).1) ∧ za m4 (zR P 215 y) = W' ∧ ((pRead tn T A).1 = true → W' = (pRead tn T A).2.2) ∧ bY own P m4 y V sv Vs mk Vm tn T pn Q k it ∧ Fo own y m3 m4 := by
    intro m3 h3 h4
    obtain ⟨b0, hb0⟩ := h3.2.2.2.2.2.2.2.2.2.2
    have yr : YR P y m3 (zfp m3 213 y 0) 0 b0 A := ⟨zf_eq, by rw [zf_ne (Or.inl (by omega)), hb0], h4, Fp.put (S := fun f a => (f = 213 ∨ f = 214) ∧ a = y) Fp.rfl' (And.intro (Or.inl rfl) rfl)⟩
    obtain ⟨m4, r1, W', ⟨r2, r3, r4, r5⟩, r6⟩ := r_reads ok (h3.yt t4 hI.1) yr
    rw [h3.2.2.2.2.2.2.1.2] at r2 r3 r6
    obtain ⟨e1, e2⟩ := h3.rd r5 r3
    exact ⟨m4, W', r1, r2, r3, r4, r6, e1, e2⟩
  cases hg : (pRead tn T A).1 with
  | false =>
    have hoff : (pRead tn T A).2.1 < 2 ^ 31 := by
      have := pRead_off (tn := tn) (T := T) (A := A)
      omega
    rw [if_neg (show ¬ (false = true) by decide), if_neg (nI_nm hoff)]
    obtain ⟨m4, W', r1, r2, r3, r4, r5, r6, r7⟩ := ref m2 hY2 eA2
    rw [hg] at r3
    refine ⟨-100 - nI (pRead tn T A).2.1, m2, _, rfl, ?_, hn, V, sv, Vs, mk, Vm, 0, T, pn, Q, k, it, (((hC2.sm hn r7.z).sm hn r6.clr.2.z).mono (by omega)), r6.clr.1, by intro j hj; omega, hI.2⟩
    rw [zl_s, r1, zb_s, zl_s]
    dsimp only
    rw [zf_ne (Or.inl (by omega)), r3, if_neg (by decide), zf_ne (Or.inl (by omega)), r2]
  | true =>
    rw [if_pos rfl, if_pos rfl, zl_s]
    obtain ⟨n, hn1, hj, hl⟩ := J_read t4 hI.1 hg
    have hb2 : bMp own P m2 (zR P 180 x) g N R Tt V B := bMp.sm (bMp.sm hb (f1.z.sm (o 2 9 (by decide)))) (c2.sm (o 2 7 (by decide)))
    have e24 : zf m2 24 (zR P 180 x) = nI R := hb2.2.2.1.1.2.2.1
    rw [e24]
    by_cases h7 : R < 8
    · rw [if_pos (show nI R < 8 from (n_lt (b := 8) (by omega) (by omega)).mpr h7), zl_s, c_stop, zb_s, zl_s, zl_s, zl_s]
      have hC3 := hC2.stop hn
      have f3 := hC2.2.2.2.2.1.stop.2
      have hY3 := hY2.sm (f3.sm (o 1 6 (by decide)))
      have hb3 := bMp.sm hb2 (f3.sm (o 2 6 (by decide)))
      have p5 : RuP P (zfp (zfp m2 45 (zR P 184 x) 0) 46 (zR P 184 x) 0) (dR P (zR P 187 x)) tt (pRead tn T A).2.2 :=
        RuP.fp (p := 0) (z := 0) (p4' hg) (Fp.put (S := fun f a => f = 45 ∨ f = 46) (A := fun _ _ => False) (Fp.put (S := fun f a => f = 45 ∨ f = 46) Fp.rfl' (Or.inl rfl)) (Or.inr rfl)) (fun i a b q => by omega) (fun q => by omega) (fun i t a b c q => by omega) (fun k q => q)
      have rz' : ∀ t, t < 3 → zr (zfp (zfp m2 45 (zR P 184 x) 0) 46 (zR P 184 x) 0) (zR P 63 (dR P (zR P 187 x))) t = tt t := rz
      have eA3 : za (zfp (zfp m2 45 (zR P 184 x) 0) 46 (zR P 184 x) 0) (zR P 215 y) = A := eA2
      dsimp only
      generalize zfp (zfp m2 45 (zR P 184 x) 0) 46 (zR P 184 x) 0 = m3 at *
      obtain ⟨m4, q1, q2, q3⟩ := c_takeRule hb3 h7 hn1 hj hl p5 d1.2.2.1 d1.2.1 rz' (o 9 2 (by decide)) d4 d5 d6 d8
      have q1' : f_X1_takeRule P (zR P 180 x) (zR P 81 (zR P 187 x)) m3 = some (nI R, m4) := q1
      rw [q1', zb_s]
      have hC4 := hC3.main hn q3.z q2.b (Nat.le_refl B)
      have hY4 := hY3.sm (q3.z.sm (o 1 2 (by decide)))
      have eA4 : za m4 (zR P 215 y) = A := by
        funext i
        rw [← eA3]
        exact q3.2.2 _ _ (by rw [hY.2.2.1 215 (by decide)]; exact o 1 2 (by decide))
      obtain ⟨m5, W', r1, r2, r3, r4, r5, r6, r7⟩ := ref m4 hY4 eA4
      rw [r5 hg] at r4
      obtain ⟨k1, k2⟩ := r6.clr
      have eW : za (zfp (zfp (zfp m5 207 y 0) 205 y 0) 210 y 0) (zR P 215 y) = (pRead tn T A).2.2 := r4
      have eV : za (zfp m5 207 y 0) (zR P 200 y) = V := k1.2.2.2.1
      have hC5 : CX own P (zfp m5 207 y 0) x (adR V (pRead tn T A).2.2 R) sv Vs false Vm 0 T pn Q 0 it B := (hC4.sm hn r7.z).sm hn k2.z
      refine ⟨nI R, m4, _, rfl, ?_, REL.chg hn (hC5.mono (by omega)) k1 (by intro j hj; omega)⟩
      rw [hg] at r3
      rw [zl_s, r1, zb_s, zl_s]
      dsimp only
      have z214 : zf (zfp m5 207 y 0) 214 y = 0 := by rw [zf_ne (Or.inl (by omega)), r3]; rfl
      rw [if_pos z214, zl_s, ok.1, show zin (230 : Int32) 723 = true by decide, zgd_t, show (230 : Int32).toNatClampNeg = 230 by decide, eV, hIn.2.1.1, if_neg (show ¬ nI R = 8 from fun q => by have := (n_inj (b := 8) (by omega) (by omega)).mp q; omega), r_changes, zb_s]
      have hl2 := r_addR_l (m := zfp (zfp (zfp m5 207 y 0) 205 y 0) 210 y 0) (V := V) ok h7 hIn.2.1.1 eW 58 0 zfuel (by omega) (by unfold zfuel; omega)
      have hs : wA (zfp (zfp (zfp m5 207 y 0) 205 y 0) 210 y 0) (yv P y) (adL V (pRead tn T A).2.2 R 0) = zfp (zfp (zfp m5 207 y 0) 205 y 0) 210 y 0 := by
        rw [adL_0]
        have e9 : za (zfp (zfp (zfp m5 207 y 0) 205 y 0) 210 y 0) (yv P y) = V := eV
        rw [← e9, wA_self]
      rw [hs] at hl2
      exact hl2
    · have : R = 8 := by omega
      subst this
      rw [if_neg (show ¬ nI 8 < 8 by decide)]
      obtain ⟨m4, W', r1, r2, r3, r4, r5, r6, r7⟩ := ref m2 hY2 eA2
      rw [hg] at r3
      refine ⟨-3, m2, _, rfl, ?_, hn, V, sv, Vs, mk, Vm, 0, T, pn, Q, k, it, (((hC2.sm hn r7.z).sm hn r6.clr.2.z).mono (by omega)), r6.clr.1, by intro j hj; omega, hI.2⟩
      have eV : za (zfp m4 207 y 0) (zR P 200 y) = V := r6.clr.1.2.2.2.1
      rw [zl_s, r1, zb_s, zl_s]
      dsimp only
      have z214 : zf (zfp m4 207 y 0) 214 y = 0 := by rw [zf_ne (Or.inl (by omega)), r3]; rfl
      rw [if_pos z214, zl_s, ok.1, show zin (230 : Int32) 723 = true by decide, zgd_t, show (230 : Int32).toNatClampNeg = 230 by decide, eV, hIn.2.1.1, if_pos (show nI 8 = 8 from rfl)]
end AR

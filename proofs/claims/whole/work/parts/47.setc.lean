section SC
variable {own : Nat → Nat} {P : zSt} {m m' : zM} {x y B B' u N R : Nat} {g : zGr} {V V' : Nat → Int32} {sv mk : Bool} {Vs Vm T Q : Nat → Int32} {tn pn k : Nat} {it : zIt}
theorem c_bbegin {b : Nat} {s z w : Int32} : ∃ m', f_X0_begin P b s z w m = some (0, m') ∧ (∀ k, k < 12 → zf m' (bsl k) b = adC s z w k) ∧ Fp (fun f a => f < 20 ∧ a = b) (fun _ _ => False) m m' := by
  unfold f_X0_begin
  simp only [zl_s]
  refine ⟨_, rfl, ?_, ?_⟩
  · intro k hk
    have hc : k = 0 ∨ k = 1 ∨ k = 2 ∨ k = 3 ∨ k = 4 ∨ k = 5 ∨ k = 6 ∨ k = 7 ∨ k = 8 ∨ k = 9 ∨ k = 10 ∨ k = 11 := by omega
    rcases hc with rfl | rfl | rfl | rfl | rfl | rfl | rfl | rfl | rfl | rfl | rfl | rfl <;> simp only [bsl, adC, zf_zfp, Nat.reduceEqDiff, and_true, and_false, true_and, false_and, if_true, if_false, reduceIte]
  · repeat (refine Fp.put ?_ (And.intro (by decide) rfl))
    exact Fp.rfl'
theorem InV.add (h : InV V N R B) (hN : N < 12) {s z w : Nat} (hs : s ≤ 3) (hw : w ≤ 9) : InV (adV V N (nI s) (nI z) (nI w)) (N + 1) R B := by
  obtain ⟨s1, s2, s3, s4, s5⟩ := h.st
  refine h.to2 ⟨?_, by omega, by rw [adV_o (by omega) (by omega)]; exact s3, fun i hi => ?_, fun s h hs hh => by rw [adV_o (by omega) (by omega)]; exact s5 s h hs hh⟩ (h.sv.to (fun s hs => ⟨adV_o (by omega) (by omega), adV_o (by omega) (by omega)⟩)) (fun i hi => ?_) (fun i hi => ?_) (fun j h1 h2 => adV_o (by omega) (by omega))
  · unfold adV
    rw [if_pos rfl]
  · by_cases e : i = N
    · subst e
      rw [adV_i hN (by omega)]
      exact ⟨w, hw, rfl⟩
    · rw [adV_o (by omega) (by omega)]
      exact s4 i (by omega)
  · by_cases e : i = N
    · subst e
      rw [adV_i hN (by omega), adV_i hN (by omega), adV_i hN (by omega), adV_i hN (by omega), adV_i hN (by omega)]
      exact ⟨⟨0, by omega, rfl⟩, ⟨0, by omega, rfl⟩, ⟨0, by omega, rfl⟩, ⟨0, by omega, rfl⟩, ⟨0, by omega, rfl⟩⟩
    · rw [adV_o (by omega) (by omega), adV_o (by omega) (by omega), adV_o (by omega) (by omega), adV_o (by omega) (by omega), adV_o (by omega) (by omega)]
      exact h.bd i (by omega)
  · by_cases e : i = N
    · subst e
      have e2 : adV V i (nI s) (nI z) (nI w) (12 * i) = nI s := adV_i (k := 0) hN (by omega)
      exact ⟨s, by omega, e2⟩
    · rw [adV_o (by omega) (by omega)]
      exact h.sr i (by omega)
theorem L_addBackend {a b c : Int32} : Call own P x y (f_X10_addBackend P x a b c) (f_X11_addBackend P y a b c) := by
  intro B m hB h0
  have hrel := REL.same h0
  obtain ⟨hn, V, sv, Vs, mk, Vm, tn, T, pn, Q, k, it, hC, hY, hI⟩ := h0
  obtain ⟨g, N, R, Tt, hb⟩ := hC.1
  have h12 := hb.2.2.2.2.2.1.2.1
  have ok := hY.1
  have o := ow hn
  have hN : za m (yv P y) 144 = nI N := by rw [hY.2.2.2.1, hb.2.2.2.2.2.1.1]
  unfold f_X10_addBackend f_X10_addBackend_b24 f_X11_addBackend f_X11_addBackend_b28
  simp only [c_isService, c_isZone, c_isWithin, r_isIn, zb_s, bIz]
  by_cases h1 : 0 ≤ a ∧ a ≤ 3
  · rw [if_neg (fun q => q h1)]
    by_cases h2 : 0 ≤ b ∧ b ≤ 2
    · rw [if_neg (fun q => q h2)]
      by_cases h3 : 0 ≤ c ∧ c ≤ 9
      · rw [if_neg (fun q => q h3), zl_s, hb.2.2.1.1.1]
        by_cases h4 : N < 12
        · obtain ⟨s, -, hs, rfl⟩ := rng (lo := 0) (hi := 3) (by omega) (by omega) h1.1 h1.2
          obtain ⟨z, -, hz, rfl⟩ := rng (lo := 0) (hi := 2) (by omega) (by omega) h2.1 h2.2
          obtain ⟨w, -, hw, rfl⟩ := rng (lo := 0) (hi := 9) (by omega) (by omega) h3.1 h3.2
          rw [if_pos (show nI N < 12 from (n_lt (b := 12) (by omega) (by omega)).mpr h4), zl_s, c_stop, zb_s]
          dsimp only
          have hC1 := hC.stop hn
          have f1 := hC.2.2.2.2.1.stop.2
          have hb1 := bMp.sm hb (f1.sm (o 2 6 (by decide)))
          generalize zfp (zfp m 45 (zR P 184 x) 0) 46 (zR P 184 x) 0 = m1 at *
          obtain ⟨m2, c1, c2, c3⟩ := c_bbegin (P := P) (m := m1) (b := gB g N) (s := nI s) (z := nI z) (w := nI w)
          have hob : own (gB g N) = zR P 180 x := hb1.1.2.1.2.2.2.2.2.2.2.2.2.2.2.1 N h4
          have hou := hb1.1.ou
          have e21 : zf m2 21 (zR P 180 x) = nI N := by rw [c3.2.1 _ _ (fun q => absurd q.1 (by omega)), hb1.2.2.1.1.1]
          unfold f_X1_takeBackend
          rw [zl_s, zl_s, hb1.1.1.1, hb1.2.2.1.1.1, zin_12 h4, zgd_t, n_nat (by omega), hb1.2.1.1 N h4, zl_s, c1, zb_s]
          dsimp only
          rw [e21, nI_1, zl_s, zf_eq, zb_s, show (1 : Int32) = nI 1 from rfl, n_sub _ _ (by omega), Nat.add_sub_cancel]
          dsimp only
          have f2 : Fo own (zR P 180 x) m1 (zfp m2 21 (zR P 180 x) (nI (N + 1))) := (c3.fo (fun _ _ q => by rw [q.2, hob]) (fun _ _ q => q.elim)).trans (Fo.zfp hou)
          have kf : ∀ f a, 20 ≤ f → f ≠ 21 → zf (zfp m2 21 (zR P 180 x) (nI (N + 1))) f a = zf m1 f a := fun f a h h' => by rw [zf_ne (Or.inl h'), c3.2.1 _ _ (fun q => absurd q.1 (by omega))]
          have hL := hb1.2.2.2.2.2.ru.l
          have pic2 : Pic P (zfp m2 21 (zR P 180 x) (nI (N + 1))) (zR P 180 x) g (N + 1) R (-1) (adV V N (nI s) (nI z) (nI w)) := by
            obtain ⟨q1, q2, q3, q4, q5, q6, q7⟩ := hb1.2.2.1.1
            have h8 := hL.1
            refine ⟨⟨zf_eq, ?_, ?_, ?_, ?_, ?_, fun j h1 h2 => ?_⟩, fun i j hi hj => ?_, hb1.2.2.1.2.2.1.cg (fun s j _ _ => kf _ _ (by omega) (by omega)) (fun _ _ _ _ => c3.2.2 _ _ (fun q => q)) (fun _ _ _ _ => c3.2.2 _ _ (fun q => q)) (fun j h1 h2 => adV_o (by omega) (by omega)), hb1.2.2.1.2.2.2.1.cg hL.1 (fun f r hr h1 h2 => kf _ _ (by omega) (by omega)) (fun r hr => kf _ _ (by omega) (by omega)) (fun _ _ _ _ => c3.2.2 _ _ (fun q => q)) (fun r hr => (hL.2 r hr).1) (fun r j hr hj => adV_o (by omega) (by omega)), hb1.2.2.1.2.2.2.2.cg (fun r t k' _ _ _ => kf _ _ (by have := tsl_lt k'; omega) (by have := tsl_lt k'; omega)) (fun r hr => adV_o (by omega) (by omega)) (fun r t k' hr ht hk' => by have := (hL.2 r hr).2; exact adV_o (by omega) (by omega))⟩
            · unfold adV
              rw [if_pos rfl]
            · rw [kf _ _ (by omega) (by omega), q3]
            · rw [adV_o (by omega) (by omega), q4]
            · rw [kf _ _ (by omega) (by omega), q5]
              unfold sLm
              rw [if_neg (by decide), if_neg (by decide), adV_o (by omega) (by omega)]
            · rw [kf _ _ (by omega) (by omega), q6, adV_o (by omega) (by omega)]
            · rw [kf _ _ (by omega) (by omega), q7 j h1 h2, adV_o (by omega) (by omega)]
            · have hbs := bsl_lt j
              rw [zf_ne (Or.inl (by omega))]
              by_cases e : i = N
              · subst e
                rw [c2 j hj, adV_i h4 hj]
              · rw [c3.2.1 _ _ (fun q => e (hb1.1.2.1.1 i N (by omega) h4 q.2)), adV_o (by omega) (by omega)]
                exact hb1.2.2.1.2.1 i j (by omega) hj
          have hx2 : PicX P (zfp m2 21 (zR P 180 x) (nI (N + 1))) (zR P 180 x) g Tt (adV V N (nI s) (nI z) (nI w)) := hb1.2.2.2.1.cg (kf _ _ (by omega) (by omega)) (fun i k hi hk => c3.2.2 _ _ (fun q => q)) (adV_o (by omega) (by omega)) (fun i k hi hk => adV_o (by omega) (by omega))
          have hb2 : bM own P (zfp m2 21 (zR P 180 x) (nI (N + 1))) (zR P 180 x) (adV V N (nI s) (nI z) (nI w)) B := ⟨g, N + 1, R, Tt, hb1.1, hb1.2.1.to f2.1, pic2, hx2, by rw [kf _ _ (by omega) (by omega), adV_o (by omega) (by omega)]; exact hb1.2.2.2.2.1, hb1.2.2.2.2.2.add h4 hs hw⟩
          have hC2 := hC1.main hn f2.z hb2 (Nat.le_refl B)
          have hY2 := (hY.sm (f1.sm (o 1 6 (by decide)))).sm (f2.z.sm (o 1 2 (by decide)))
          generalize zfp m2 21 (zR P 180 x) (nI (N + 1)) = m3 at *
          refine ⟨_, m3, _, rfl, ?_, REL.chg hn (hC2.mono (by omega)) hY2 hI.1⟩
          have hV2 := hY2.2.2.2.1
          have hV3 : za (zfp (zfp m3 205 y 0) 210 y 0) (zR P 200 y) = V := hV2
          have hV4 : za m3 (zR P 200 y) 144 = nI N := by rw [show za m3 (zR P 200 y) = V from hV2, hb.2.2.2.2.2.1.1]
          have hV5 : V 144 = nI N := hb.2.2.2.2.2.1.1
          rw [if_neg (fun q => q h1), if_neg (fun q => q h2), if_neg (fun q => q h3), zl_s, ok.1, show zin 144 723 = true by decide, zgd_t, show (144 : Int32).toNatClampNeg = 144 by decide, hV4, if_neg (by rw [show (12 : Int32) = nI 12 from rfl, n_inj (by omega) (by omega)]; omega), r_changes, zb_s]
          dsimp only
          rw [zl_s, ok.1, show zin 144 723 = true by decide, zgd_t, hV3, hV5, zl_s, zl_s, ok.1, show zin 144 723 = true by decide, zgd_t, zgd_t, hV3, hV5, n_add, zl_s, zap_eq, hV3]
          exact r_addB_l ok h4 12 0 zfuel (by omega) (by unfold zfuel; omega)
        · have : N = 12 := by omega
          subst this
          rw [if_neg (show ¬ nI 12 < 12 by decide)]
          refine ⟨-3, m, m, rfl, ?_, hrel⟩
          rw [if_neg (fun q => q h1), if_neg (fun q => q h2), if_neg (fun q => q h3), zl_s, ok.1, show zin 144 723 = true by decide, zgd_t, show (144 : Int32).toNatClampNeg = 144 by decide, hN, if_pos (show nI 12 = 12 from rfl)]
      · rw [if_pos h3]
        exact ⟨-2, m, m, rfl, by rw [if_neg (fun q => q h1), if_neg (fun q => q h2), if_pos h3], hrel⟩
    · rw [if_pos h2]
      exact ⟨-2, m, m, rfl, by rw [if_neg (fun q => q h1), if_pos h2], hrel⟩
  · rw [if_pos h1]
    exact ⟨-2, m, m, rfl, by rw [if_pos h1], hrel⟩
/-- text put behind the text -/
def apV (T : Nat → Int32) (tn : Nat) (c : Int32) : Nat → (Nat → Int32)
  | 0 => T
  | k + 1 => uV (apV T tn c k) (tn + k) c
theorem c_append_l {c n : Nat} (hc : c < 128) (htn : tn + n ≤ 40) (hl : zlen P (zR P 140 (zR P 185 x)) = 40) : ∀ d k fu (m : zM), k + d = n → d < fu → TxP P m (zR P 185 x) (tn + k) (apV T tn (nI c) k) →
    ∃ m', f_X10_append_b42 P fu x (nI c) (nI n) (nI k) m = some (nI (tn + n), m') ∧ TxP P m' (zR P 185 x) (tn + n) (apV T tn (nI c) n) ∧ Fp (fun f a => f = 141 ∧ a = zR P 185 x) (fun a _ => a = zR P 140 (zR P 185 x)) m m' := by
  intro d
  induction d with
  | zero =>
    intro k fu m hk hfu h
    obtain ⟨fu, rfl⟩ : ∃ f, fu = f + 1 := ⟨fu - 1, by omega⟩
    have : k = n := by omega
    subst this
    unfold f_X10_append_b42
    rw [if_pos (Int32.le_refl _), zl_s, h.1]
    exact ⟨m, rfl, h, Fp.rfl'⟩
  | succ d ih =>
    intro k fu m hk hfu h
    obtain ⟨fu, rfl⟩ : ∃ f, fu = f + 1 := ⟨fu - 1, by omega⟩
    obtain ⟨m1, p1, p2, p3⟩ := c_putT h (by omega) hl hc
    unfold f_X10_append_b42
    rw [if_neg (by rw [n_le (by omega) (by omega)]; omega), zl_s, p1, zb_s, zl_s, nI_1]
    obtain ⟨m2, q1, q2, q3⟩ := ih (k + 1) fu m1 (by omega) (by omega) p2
    exact ⟨m2, q1, q2, p3.trans q3⟩
theorem r_append_l (ok : yOK P y) {c n : Nat} (htn : tn + n ≤ 40) : ∀ d k fu (m : zM), k + d = n → d < fu → zf m 207 y = nI (tn + k) → za m (zR P 206 y) = apV T tn (nI c) k →
    ∃ m', f_X11_append_b39 P fu y (nI c) (nI n) (nI k) m = some (nI (tn + n), m') ∧ zf m' 207 y = nI (tn + n) ∧ za m' (zR P 206 y) = apV T tn (nI c) n ∧ Fp (fun f a => f = 207 ∧ a = y) (fun a _ => a = zR P 206 y) m m' := by
  obtain ⟨-, -, -, l1, -⟩ := ok_ne ok
  intro d
  induction d with
  | zero =>
    intro k fu m hk hfu h h2
    obtain ⟨fu, rfl⟩ : ∃ f, fu = f + 1 := ⟨fu - 1, by omega⟩
    have : k = n := by omega
    subst this
    unfold f_X11_append_b39
    rw [if_pos (Int32.le_refl _), h]
    exact ⟨m, rfl, h, h2, Fp.rfl'⟩
  | succ d ih =>
    intro k fu m hk hfu h h2
    obtain ⟨fu, rfl⟩ : ∃ f, fu = f + 1 := ⟨fu - 1, by omega⟩
    have e : zf (zap m (zR P 206 y) (tn + k) (nI c)) 207 y = nI (tn + k) := h
    unfold f_X11_append_b39
    rw [if_neg (by rw [n_le (by omega) (by omega)]; omega), zl_s, l1, h, zin_n (by omega) (by omega), zgd_t, n_nat (by omega), zl_s, e, nI_1, zl_s, zl_s, nI_1]
    obtain ⟨m2, q1, q2, q3, q4⟩ := ih (k + 1) fu (zfp (zap m (zR P 206 y) (tn + k) (nI c)) 207 y (nI (tn + k + 1))) (by omega) (by omega) zf_eq (by
      show za (zap m (zR P 206 y) (tn + k) (nI c)) (zR P 206 y) = _
      rw [zap_eq, za_wA, h2]
      rfl)
    exact ⟨m2, q1, q2, q3, (Fp.put (S := fun f a => f = 207 ∧ a = y) (Fp.pua (A := fun a _ => a = zR P 206 y) Fp.rfl' rfl) (And.intro rfl rfl)).trans q4⟩
theorem apV_at {c : Int32} {n j : Nat} : apV T tn c n j = if tn ≤ j ∧ j < tn + n then c else T j := by
  induction n with
  | zero =>
    unfold apV
    rw [if_neg (by omega)]
  | succ n ih =>
    unfold apV
    by_cases e : j = tn + n
    · rw [e, uV_s, if_pos (by omega)]
    · rw [uV_n e, ih]
      by_cases h : tn ≤ j ∧ j < tn + n
      · rw [if_pos h, if_pos (by omega)]
      · rw [if_neg h, if_neg (by omega)]
theorem bY.txt {tn' : Nat} {T' : Nat → Int32} (h : bY own P m y V sv Vs mk Vm tn T pn Q k it) (h7 : zf m' 207 y = nI tn') (h6 : za m' (zR P 206 y) = T') (f : Fp (fun f a => f = 207 ∧ a = y) (fun a _ => a = zR P 206 y) m m') : bY own P m' y V sv Vs mk Vm tn' T' pn Q k it ∧ Fo own y m m' := by
  obtain ⟨h1, h2, h3, h4, ⟨h5, h5'⟩, ⟨h6a, h6'⟩, ⟨h7a, h7'⟩, ⟨h8, h8'⟩, ⟨h9, h9'⟩, h10, b, h11⟩ := h
  have e : ∀ f, f ≠ 207 → zf m' f y = zf m f y := fun g hg => f.2.1 g y (fun q => hg q.1)
  have ea : ∀ j, j ∈ yRows → j ≠ 206 → za m' (zR P j y) = za m (zR P j y) := fun j hj hn => by
    funext i
    exact f.2.2 _ _ (fun q => yne h1 hj (by decide) hn q)
  refine ⟨⟨h1, h2, h3, by rw [ea _ (by decide) (by decide)]; exact h4, ⟨by rw [e _ (by decide)]; exact h5, by rw [ea _ (by decide) (by decide)]; exact h5'⟩, ⟨by rw [e _ (by decide)]; exact h6a, by rw [ea _ (by decide) (by decide)]; exact h6'⟩, ⟨h7, h6⟩, ⟨by rw [e _ (by decide)]; exact h8, fun i hi => by rw [ea _ (by decide) (by decide)]; exact h8' i hi⟩, ⟨by rw [e _ (by decide)]; exact h9, fun i hi => (h9' i hi).sm (fun j => by rw [ea _ (by decide) (by decide)]) (fun j => by rw [ea _ (by decide) (by decide)])⟩, by rw [e _ (by decide)]; exact h10, b, by rw [e _ (by decide)]; exact h11⟩, f.fo (fun _ _ q => by rw [q.2, h2]) (fun _ _ q => by rw [q]; exact h3 206 (by decide))⟩
theorem L_append {a b : Int32} : Call own P x y (f_X10_append P x a b) (f_X11_append P y a b) := by
  intro B m hB h0
  have hrel := REL.same h0
  obtain ⟨hn, V, sv, Vs, mk, Vm, tn, T, pn, Q, k, it, hC, hY, hI⟩ := h0
  have ok := hY.1
  have o := ow hn
  have hbt := hC.2.2.2.2.2.1
  obtain ⟨t1, t2, t3, t4, t5⟩ := hbt
  have h207 := hY.2.2.2.2.2.2.1.1
  have h206 := hY.2.2.2.2.2.2.1.2
  unfold f_X10_append f_X10_append_b20 f_X11_append f_X11_append_b20
  simp only [c_isWithin, r_isIn, zb_s, bIz]
  by_cases h1 : 0 ≤ a ∧ a ≤ 127
  · rw [if_neg (fun q => q h1)]
    by_cases h2 : 1 ≤ b ∧ b ≤ 40
    · obtain ⟨c, -, hc, rfl⟩ := rng (lo := 0) (hi := 127) (by omega) (by omega) h1.1 h1.2
      obtain ⟨n, hn1, hn2, rfl⟩ := rng (lo := 1) (hi := 40) (by omega) (by omega) h2.1 h2.2
      rw [if_neg (fun q => q h2), zl_s, t5.1, n_add]
      by_cases h3 : tn + n ≤ 40
      · rw [if_pos (show nI (tn + n) ≤ 40 from (n_le (b := 40) (by omega) (by omega)).mpr h3)]
        obtain ⟨m1, p1, p2, p3⟩ := c_append_l (P := P) (x := x) (T := T) (c := c) (n := n) (tn := tn) (by omega) h3 t3 n 0 zfuel m (by omega) (by unfold zfuel; omega) t5
        have p1' : f_X10_append_b42 P zfuel x (nI c) (nI n) 0 m = some (nI (tn + n), m1) := p1
        have f1 : Fz own (zR P 185 x) m m1 := (p3.fo (fun _ _ q => by rw [q.2, t1]) (fun _ _ q => by rw [q, t2])).z
        have hC1 := hC.txt hn f1 (tn' := tn + n) (T' := apV T tn (nI c) n) ⟨t1, t2, t3, h3, p2⟩
        have hY1 := hY.sm (f1.sm (o 1 7 (by decide)))
        obtain ⟨m2, r1, r2, r3, r4⟩ := r_append_l (P := P) (y := y) (T := T) (c := c) (n := n) (tn := tn) ok h3 n 0 zfuel m1 (by omega) (by unfold zfuel; omega) hY1.2.2.2.2.2.2.1.1 hY1.2.2.2.2.2.2.1.2
        have r1' : f_X11_append_b39 P zfuel y (nI c) (nI n) 0 m1 = some (nI (tn + n), m2) := r1
        obtain ⟨hY2, f2⟩ := hY1.txt r2 r3 r4
        have e207 : zf m1 207 y = nI tn := hY1.2.2.2.2.2.2.1.1
        refine ⟨_, m1, m2, p1', ?_, hn, V, sv, Vs, mk, Vm, tn + n, apV T tn (nI c) n, pn, Q, k, it, (hC1.sm hn f2.z).mono (by omega), hY2, ?_, hI.2⟩
        · rw [if_neg (fun q => q h1), if_neg (fun q => q h2), e207, n_add, if_pos (show nI (tn + n) ≤ 40 from (n_le (b := 40) (by omega) (by omega)).mpr h3)]
          exact r1'
        · intro j hj
          rw [apV_at]
          split
          · exact ⟨c, by omega, rfl⟩
          · exact hI.1 j (by omega)
      · rw [if_neg (show ¬ nI (tn + n) ≤ 40 from fun q => h3 ((n_le (b := 40) (by omega) (by omega)).mp q))]
        refine ⟨-3, m, m, rfl, ?_, hrel⟩
        rw [if_neg (fun q => q h1), if_neg (fun q => q h2), h207, n_add, if_neg (show ¬ nI (tn + n) ≤ 40 from fun q => h3 ((n_le (b := 40) (by omega) (by omega)).mp q))]
    · rw [if_pos h2]
      exact ⟨-2, m, m, rfl, by rw [if_neg (fun q => q h1), if_pos h2], hrel⟩
  · rw [if_pos h1]
    exact ⟨-2, m, m, rfl, by rw [if_pos h1], hrel⟩
end SC

/-! ===== calls: configure, addBackend, append ===== -/
theorem bIz {p : Prop} [Decidable p] : (bI (decide p) = 0) = ¬ p := by
  by_cases h : p
  · rw [decide_eq_true h, eq_iff_iff]
    exact ⟨fun q => absurd q (by decide), fun q => absurd h q⟩
  · rw [decide_eq_false h, eq_iff_iff]
    exact ⟨fun _ => h, fun _ => rfl⟩
section SB
variable {own : Nat → Nat} {P : zSt} {m m' : zM} {x y B B' u N R : Nat} {g : zGr} {V V' : Nat → Int32} {sv mk : Bool} {Vs Vm T Q : Nat → Int32} {tn pn k : Nat} {it : zIt}
theorem c_isService {s : Int32} : f_X10_isService P s m = some (bI (decide (0 ≤ s ∧ s ≤ 3)), m) := by
  unfold f_X10_isService
  rw [c_isWithin, zb_s, zbo_bI, zgd_t]
theorem c_isZone {s : Int32} : f_X10_isZone P s m = some (bI (decide (0 ≤ s ∧ s ≤ 2)), m) := by
  unfold f_X10_isZone
  rw [c_isWithin, zb_s, zbo_bI, zgd_t]
theorem c_isHeader {s : Int32} : f_X10_isHeader P s m = some (bI (decide (0 ≤ s ∧ s ≤ 9)), m) := by
  unfold f_X10_isHeader
  rw [c_isWithin, zb_s, zbo_bI, zgd_t]
def cfOK (a b c d e f : Int32) : Prop := (0 ≤ a ∧ a ≤ 3) ∧ (0 ≤ b ∧ b ≤ 2) ∧ (1 ≤ c ∧ c ≤ 9) ∧ (1 ≤ d ∧ d ≤ 20) ∧ (0 ≤ e ∧ e ≤ 100) ∧ (0 ≤ f ∧ f ≤ 100)
theorem c_conf {a b c d e f : Int32} (h : cfOK a b c d e f) : f_X10_configure P x a b c d e f m = f_X10_configure_b64 P x a b c d e f 1 m := by
  obtain ⟨h1, h2, h3, h4, h5, h6⟩ := h
  unfold f_X10_configure
  simp only [c_isService, c_isWithin, zb_s, bIz, h1, h2, h3, h4, h5, h6, not_true_eq_false, if_false, and_self]
theorem c_conf_n {a b c d e f : Int32} (h : ¬ cfOK a b c d e f) : f_X10_configure P x a b c d e f m = some (-2, m) := by
  have hb : f_X10_configure_b63 P x a b c d e f m = some (-2, m) := by
    unfold f_X10_configure_b63 f_X10_configure_b64
    rw [if_pos rfl]
  unfold f_X10_configure
  simp only [c_isService, c_isWithin, zb_s, bIz, hb]
  by_cases h1 : 0 ≤ a ∧ a ≤ 3
  · rw [if_neg (fun q => q h1)]
    by_cases h2 : 0 ≤ b ∧ b ≤ 2
    · rw [if_neg (fun q => q h2)]
      by_cases h3 : 1 ≤ c ∧ c ≤ 9
      · rw [if_neg (fun q => q h3)]
        by_cases h4 : 1 ≤ d ∧ d ≤ 20
        · rw [if_neg (fun q => q h4)]
          by_cases h5 : 0 ≤ e ∧ e ≤ 100
          · rw [if_neg (fun q => q h5)]
            by_cases h6 : 0 ≤ f ∧ f ≤ 100
            · exact absurd ⟨h1, h2, h3, h4, h5, h6⟩ h
            · rw [if_pos h6]
          · rw [if_pos h5]
        · rw [if_pos h4]
      · rw [if_pos h3]
    · rw [if_pos h2]
  · rw [if_pos h1]
theorem r_conf_n {a b c d e f : Int32} (h : ¬ cfOK a b c d e f) : f_X11_configure P y a b c d e f m = some (-2, m) := by
  unfold f_X11_configure f_X11_configure_b61
  simp only [r_isIn, zb_s, bIz]
  by_cases h1 : 0 ≤ a ∧ a ≤ 3
  · rw [if_neg (fun q => q h1)]
    by_cases h2 : 0 ≤ b ∧ b ≤ 2
    · rw [if_neg (fun q => q h2)]
      by_cases h3 : 1 ≤ c ∧ c ≤ 9
      · rw [if_neg (fun q => q h3)]
        by_cases h4 : 1 ≤ d ∧ d ≤ 20
        · rw [if_neg (fun q => q h4)]
          by_cases h5 : 0 ≤ e ∧ e ≤ 100
          · rw [if_neg (fun q => q h5)]
            by_cases h6 : 0 ≤ f ∧ f ≤ 100
            · exact absurd ⟨h1, h2, h3, h4, h5, h6⟩ h
            · rw [if_pos h6]
          · rw [if_pos h5]
        · rw [if_pos h4]
      · rw [if_pos h3]
    · rw [if_pos h2]
  · rw [if_pos h1]
def cfV (V : Nat → Int32) (s : Nat) (b c d e f : Int32) : Nat → Int32 := uV (uV (uV (uV (uV V (145 + 21 * s) b) (145 + 21 * s + 1) c) (145 + 21 * s + 2) d) (145 + 21 * s + 3) e) (145 + 21 * s + 4) f
theorem r_conf (ok : yOK P y) {s : Nat} (hs : s < 4) {b c d e f : Int32} (h : cfOK (nI s) b c d e f) : f_X11_configure P y (nI s) b c d e f m = some (za m (yv P y) (145 + 21 * s), wA (zfp (zfp m 205 y 0) 210 y 0) (yv P y) (cfV (za m (yv P y)) s b c d e f)) := by
  obtain ⟨h1, h2, h3, h4, h5, h6⟩ := h
  have e1 : (145 : Int32) + 21 * nI s = nI (145 + 21 * s) := by rw [show (145 : Int32) = nI 145 from rfl, show (21 : Int32) = nI 21 from rfl, n_mul, n_add]
  have k0 : 145 + 21 * s < 723 := by omega
  have k1 : 145 + 21 * s + 1 < 723 := by omega
  have k2 : 145 + 21 * s + 2 < 723 := by omega
  have k3 : 145 + 21 * s + 3 < 723 := by omega
  have k4 : 145 + 21 * s + 4 < 723 := by omega
  unfold f_X11_configure cfV
  simp only [r_isIn, zb_s, bIz, h1, h2, h3, h4, h5, h6, not_true_eq_false, if_false, and_self, r_changes]
  simp only [nlit, n_mul, n_add, zl_s, zb_s, zgd_t, zin_v, nat_v, za_wA, wA_wA, zf_wA, zap_eq, k0, k1, k2, k3, k4, ok.1]
  rfl
theorem L_configure {a b c d e f : Int32} : Call own P x y (f_X10_configure P x a b c d e f) (f_X11_configure P y a b c d e f) := by
  intro B m hB h0
  obtain ⟨hn, V, sv, Vs, mk, Vm, tn, T, pn, Q, k, it, hC, hY, hI⟩ := h0
  obtain ⟨g, N, R, Tt, hb⟩ := hC.1
  have h12 := hb.2.2.2.2.2.1.2.1
  have ok := hY.1
  have o := ow hn
  by_cases hcf : cfOK a b c d e f
  · obtain ⟨s, -, hs, rfl⟩ := rng (lo := 0) (hi := 3) (by omega) (by omega) hcf.1.1 hcf.1.2
    obtain ⟨p, -, hp, rfl⟩ := rng (lo := 0) (hi := 2) (by omega) (by omega) hcf.2.1.1 hcf.2.1.2
    obtain ⟨d', hd1, hd, rfl⟩ := rng (lo := 1) (hi := 20) (by omega) (by omega) hcf.2.2.2.1.1 hcf.2.2.2.1.2
    rw [c_conf hcf]
    unfold f_X10_configure_b64
    rw [if_neg (by decide), zl_s, c_stop, zb_s]
    dsimp only
    have hC1 := hC.stop hn
    have f1 := hC.2.2.2.2.1.stop.2
    have hb1 := bMp.sm hb (f1.sm (o 2 6 (by decide)))
    generalize zfp (zfp m 45 (zR P 184 x) 0) 46 (zR P 184 x) 0 = m1 at *
    have hL := hb1.2.2.2.2.2.ru.l
    have e100 : zf m1 100 (gS g s) = V (145 + 21 * s) := (PicS1.of hb1.2.2.1.2.2.1 s (by omega)).1 0 (by omega)
    rw [zl_s, zl_s, hb1.1.1.2.1, zin_4 (by omega), zgd_t, n_nat (by omega), hb1.2.1.2.1 s (by omega), zl_s, e100, zl_s, zl_s, zl_s, zl_s, zl_s, zl_s]
    have os : own (gS g s) = zR P 180 x := (hb1.1.2.1.2.2.2.2.2.2.2.2.2.2.2.2.1 s (by omega)).1
    have f2 : Fz own (zR P 180 x) m1 (zfp (zfp (zfp (zfp (zfp m1 100 (gS g s) (nI p)) 101 (gS g s) c) 102 (gS g s) (nI d')) 103 (gS g s) e) 104 (gS g s) f) := (((((Fo.zfp os).trans (Fo.zfp os)).trans (Fo.zfp os)).trans (Fo.zfp os)).trans (Fo.zfp os)).z
    have up := fun {m : zM} {V : Nat → Int32} (h : Pic P m (zR P 180 x) g N R (-1) V) (hL : RuL V R) (j : Nat) (v : Int32) (hj : j < 8) => Pic.updP h hL hb1.1.2.1 h12 (s := s) (j := j) (x := v) (by omega) hj
    have l1 : RuL (uV V (145 + 21 * s) (nI p)) R := hL.up (fun r hr => by omega)
    have l2 : RuL (uV (uV V (145 + 21 * s) (nI p)) (145 + 21 * s + 1) c) R := l1.up (fun r hr => by omega)
    have l3 : RuL (uV (uV (uV V (145 + 21 * s) (nI p)) (145 + 21 * s + 1) c) (145 + 21 * s + 2) (nI d')) R := l2.up (fun r hr => by omega)
    have l4 : RuL (uV (uV (uV (uV V (145 + 21 * s) (nI p)) (145 + 21 * s + 1) c) (145 + 21 * s + 2) (nI d')) (145 + 21 * s + 3) e) R := l3.up (fun r hr => by omega)
    have pic2 : Pic P (zfp (zfp (zfp (zfp (zfp m1 100 (gS g s) (nI p)) 101 (gS g s) c) 102 (gS g s) (nI d')) 103 (gS g s) e) 104 (gS g s) f) (zR P 180 x) g N R (-1) (cfV V s (nI p) c (nI d') e f) := up (up (up (up (up hb1.2.2.1 hL 0 (nI p) (by omega)) l1 1 c (by omega)) l2 2 (nI d') (by omega)) l3 3 e (by omega)) l4 4 f (by omega)
    have kk : ∀ j, (j < 145 + 21 * s ∨ 145 + 21 * s + 4 < j) → cfV V s (nI p) c (nI d') e f j = V j := fun j hj => by
      unfold cfV
      rw [uV_n (by omega), uV_n (by omega), uV_n (by omega), uV_n (by omega), uV_n (by omega)]
    have hIn : InV (cfV V s (nI p) c (nI d') e f) N R B := by
      have h := hb1.2.2.2.2.2
      refine h.to2 (h.st.to (kk _ (by omega)) (kk _ (by omega)) (fun i hi => kk _ (by omega)) (fun s' h' hs' hh => Or.inl (kk _ (by omega)))) (fun s' hs' => ?_) (h.bd.to (fun i k h1 h2 h3 h4 h5 => kk _ (by omega))) (fun i hi => by rw [kk _ (by omega)]; exact h.sr i hi) (fun j h1 h2 => kk _ (by omega))
      by_cases es : s' = s
      · subst es
        refine ⟨⟨p, hp, ?_⟩, d', hd1, hd, ?_⟩
        · unfold cfV
          rw [uV_n (by omega), uV_n (by omega), uV_n (by omega), uV_n (by omega), uV_s]
        · unfold cfV
          rw [uV_n (by omega), uV_n (by omega), uV_s]
      · rw [kk _ (by omega), kk _ (by omega)]
        exact h.sv s' hs'
    have hx2 : PicX P (zfp (zfp (zfp (zfp (zfp m1 100 (gS g s) (nI p)) 101 (gS g s) c) 102 (gS g s) (nI d')) 103 (gS g s) e) 104 (gS g s) f) (zR P 180 x) g Tt (cfV V s (nI p) c (nI d') e f) := (((((hb1.2.2.2.1.zf (by omega)).zf (by omega)).zf (by omega)).zf (by omega)).zf (by omega)).cg rfl (fun _ _ _ _ => rfl) (kk _ (by omega)) (fun i k hi hk => kk _ (by omega))
    have hb2 : bM own P (zfp (zfp (zfp (zfp (zfp m1 100 (gS g s) (nI p)) 101 (gS g s) c) 102 (gS g s) (nI d')) 103 (gS g s) e) 104 (gS g s) f) (zR P 180 x) (cfV V s (nI p) c (nI d') e f) B := ⟨g, N, R, Tt, hb1.1, hb1.2.1, pic2, hx2, by rw [zf_ne (Or.inl (by omega)), zf_ne (Or.inl (by omega)), zf_ne (Or.inl (by omega)), zf_ne (Or.inl (by omega)), zf_ne (Or.inl (by omega)), kk _ (by omega)]; exact hb1.2.2.2.2.1, hIn⟩
    have hC2 := hC1.main hn f2 hb2 (Nat.le_refl B)
    have hY2 := (hY.sm (f1.sm (o 1 6 (by decide)))).sm (f2.sm (o 1 2 (by decide)))
    generalize zfp (zfp (zfp (zfp (zfp m1 100 (gS g s) (nI p)) 101 (gS g s) c) 102 (gS g s) (nI d')) 103 (gS g s) e) 104 (gS g s) f = m2 at *
    refine ⟨_, m2, _, rfl, ?_, REL.chg hn (hC2.mono (by omega)) hY2 hI.1⟩
    rw [r_conf ok (by omega) hcf, hY2.2.2.2.1]
  · exact ⟨-2, m, m, c_conf_n hcf, r_conf_n hcf, REL.same ⟨hn, V, sv, Vs, mk, Vm, tn, T, pn, Q, k, it, hC, hY, hI⟩⟩
/-- a new backend's row -/
def adC (s z w : Int32) : Nat → Int32
  | 0 => s
  | 1 => z
  | 2 => w
  | 3 => 255
  | _ => 0
def adV (V : Nat → Int32) (N : Nat) (s z w : Int32) (j : Nat) : Int32 := if j = 144 then nI (N + 1) else if 12 * N ≤ j ∧ j < 12 * N + 12 then adC s z w (j - 12 * N) else V j
theorem adV_o {V : Nat → Int32} {N : Nat} {s z w : Int32} {j : Nat} (h1 : j ≠ 144) (h2 : j < 12 * N ∨ 12 * N + 12 ≤ j) : adV V N s z w j = V j := by
  unfold adV
  rw [if_neg h1, if_neg (by omega)]
theorem adV_i {V : Nat → Int32} {N : Nat} {s z w : Int32} {k : Nat} (hN : N < 12) (hk : k < 12) : adV V N s z w (12 * N + k) = adC s z w k := by
  unfold adV
  rw [if_neg (by omega), if_pos (by omega), Nat.add_sub_cancel_left]
def adZ (V : Nat → Int32) (N : Nat) : Nat → (Nat → Int32)
  | 0 => uV V 144 (nI (N + 1))
  | k + 1 => uV (adZ V N k) (12 * N + k) 0
theorem adZ_at {V : Nat → Int32} {N k j : Nat} (hN : N < 12) (hk : k ≤ 12) : adZ V N k j = if j = 144 then nI (N + 1) else if 12 * N ≤ j ∧ j < 12 * N + k then 0 else V j := by
  induction k with
  | zero =>
    unfold adZ
    by_cases h : j = 144
    · rw [if_pos h, h, uV_s]
    · rw [if_neg h, uV_n h, if_neg (by omega)]
  | succ k ih =>
    unfold adZ
    by_cases e : j = 12 * N + k
    · rw [e, uV_s, if_neg (by omega), if_pos (by omega)]
    · rw [uV_n e, ih (by omega)]
      by_cases h : j = 144
      · rw [if_pos h, if_pos h]
      · rw [if_neg h, if_neg h]
        by_cases h2 : 12 * N ≤ j ∧ j < 12 * N + k
        · rw [if_pos h2, if_pos (by omega)]
        · rw [if_neg h2, if_neg (by omega)]
theorem r_addB_l (ok : yOK P y) {V : Nat → Int32} {N : Nat} {s z w : Int32} (hN : N < 12) : ∀ d k fu, k + d = 12 → d < fu → f_X11_addBackend_b76 P fu y s z w (nI N) (nI k) (wA m (yv P y) (adZ V N k)) = some (nI N, wA m (yv P y) (adV V N s z w)) := by
  intro d
  induction d with
  | zero =>
    intro k fu hk hfu
    obtain ⟨fu, rfl⟩ : ∃ f, fu = f + 1 := ⟨fu - 1, by omega⟩
    have : k = 12 := by omega
    subst this
    unfold f_X11_addBackend_b76
    rw [if_pos (by decide), show (0 : Int32) = nI 0 from rfl, r_sets ok hN (by omega), zb_s, show (1 : Int32) = nI 1 from rfl]
    dsimp only
    rw [r_sets ok hN (by omega), zb_s, show (2 : Int32) = nI 2 from rfl]
    dsimp only
    rw [r_sets ok hN (by omega), zb_s, show (3 : Int32) = nI 3 from rfl]
    dsimp only
    rw [r_sets ok hN (by omega), zb_s]
    dsimp only
    simp only [za_wA, wA_wA]
    congr 3
    funext j
    unfold adV
    by_cases h3 : j = 12 * N + 3
    · rw [h3, uV_s, if_neg (by omega), if_pos (by omega), Nat.add_sub_cancel_left]
      rfl
    · rw [uV_n h3]
      by_cases h2 : j = 12 * N + 2
      · rw [h2, uV_s, if_neg (by omega), if_pos (by omega), Nat.add_sub_cancel_left]
        rfl
      · rw [uV_n h2]
        by_cases h1 : j = 12 * N + 1
        · rw [h1, uV_s, if_neg (by omega), if_pos (by omega), Nat.add_sub_cancel_left]
          rfl
        · rw [uV_n h1]
          by_cases h0 : j = 12 * N + 0
          · rw [h0, uV_s, if_neg (by omega), if_pos (by omega), Nat.add_sub_cancel_left]
            rfl
          · rw [uV_n h0, adZ_at hN (by omega)]
            by_cases hj : j = 144
            · rw [if_pos hj, if_pos hj]
            · rw [if_neg hj, if_neg hj]
              by_cases hr : 12 * N ≤ j ∧ j < 12 * N + 12
              · rw [if_pos hr, if_pos hr]
                obtain ⟨q, hq⟩ : ∃ q, j - 12 * N = q + 4 := ⟨j - 12 * N - 4, by omega⟩
                rw [hq]
                rfl
              · rw [if_neg hr, if_neg hr]
  | succ d ih =>
    intro k fu hk hfu
    obtain ⟨fu, rfl⟩ : ∃ f, fu = f + 1 := ⟨fu - 1, by omega⟩
    unfold f_X11_addBackend_b76
    rw [if_neg (by rw [show (12 : Int32) = nI 12 from rfl, n_le (by omega) (by omega)]; omega), r_sets ok hN (by omega), zb_s]
    dsimp only
    rw [za_wA, wA_wA, zl_s, nI_1]
    exact ih (k + 1) fu (by omega) (by omega)
end SB

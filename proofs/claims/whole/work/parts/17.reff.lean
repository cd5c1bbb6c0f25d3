def sMay (c : Int32) (V : Nat → Int32) (N s r done att : Nat) : Bool := decide (c ≠ 1 ∧ nI att < V (231 + 58 * r + 56) ∧ 100 ≤ V (145 + 21 * s + 5) ∧ mWo (mAv V (nI s) N) done ≠ 0)
def sLoop (c : Int32) (N s r h z : Nat) : Nat → Nat → Nat → (Nat → Int32) → Int32 × (Nat → Int32)
  | 0, _, _, V => (-6, V)
  | k + 1, done, att, V =>
    let p := sPick c V N s h z (mWo (mAv V (nI s) N) done)
    let V2 := sTry c p.2 N p.1 s (nI z) att
    if sGood p.2 p.1 = true then (nI p.1, uV V2 (145 + 21 * s + 7) (V2 (145 + 21 * s + 7) + 1))
    else if sMay c V2 N s r (done ||| 2 ^ p.1) (att + 1) = true then sLoop c N s r h z k (done ||| 2 ^ p.1) (att + 1) (uV V2 (145 + 21 * s + 5) (V2 (145 + 21 * s + 5) - 100))
    else (-6, V2)
theorem sTrace_keep {V : Nat → Int32} {b : Nat} {g : Bool} {z : Int32} {T j : Nat} (h : j < 706 ∨ (707 + 4 * T + 3 < j)) : sTrace V b g z T j = V j := by
  unfold sTrace
  rw [uV_n (by omega), uV_n (by omega), uV_n (by omega), uV_n (by omega), uV_n (by omega)]
theorem sTry_keep {c : Int32} {V : Nat → Int32} {N b s : Nat} {z : Int32} {T j : Nat} (h : j < 706 ∨ (707 + 4 * T + 3 < j)) (h1 : j < 12 * b + 5 ∨ 12 * b + 9 < j) (h2 : j ≠ 702) (h3 : j ≠ 704) (hb : b < 12) : sTry c V N b s z T j = V j := by
  unfold sTry
  rw [sTrace_keep h]
  split
  · exact sTry1_keep (by omega)
  · rw [sEject_keep (by omega)]
    exact sTry1_keep (by omega)
theorem sTry_706 {c : Int32} {V : Nat → Int32} {N b s : Nat} {z : Int32} {T : Nat} (hb : b < 12) (hT : V 706 = nI T) : sTry c V N b s z T 706 = nI (T + 1) := by
  unfold sTry sTrace
  rw [uV_s, uV_n (by omega), uV_n (by omega), uV_n (by omega), uV_n (by omega)]
  have e : (if sGood V b = true then sTry1 V b else sEject c (sTry1 V b) N b s) 706 = nI T := by
    split
    · rw [sTry1_keep (by omega), hT]
    · rw [sEject_keep (by omega), sTry1_keep (by omega), hT]
  rw [e, nI_1]
theorem sTry_st {c : Int32} {V : Nat → Int32} {N b s : Nat} {z : Int32} {T : Nat} (hV : StV V N) (hb : b < 12) : StV (sTry c V N b s z T) N := by
  have h12 := hV.2.1
  exact hV.to (sTry_keep (by omega) (by omega) (by omega) (by omega) hb) (sTry_keep (by omega) (by omega) (by omega) (by omega) hb) (fun i hi => sTry_keep (by omega) (by omega) (by omega) (by omega) hb) (fun s h hs hh => Or.inl (sTry_keep (by omega) (by omega) (by omega) (by omega) hb))
theorem uV_st {V : Nat → Int32} {N j : Nat} {x : Int32} (hV : StV V N) (h1 : j ≠ 144) (h2 : j ≠ 229) (h3 : ∀ i, i < N → j ≠ 12 * i + 2) (h4 : ∀ s h, s < 4 → h < 10 → j ≠ 145 + 21 * s + 11 + h) : StV (uV V j x) N :=
  hV.to (uV_n (by omega)) (uV_n (by omega)) (fun i hi => uV_n (Ne.symm (h3 i hi))) (fun s h hs hh => Or.inl (uV_n (Ne.symm (h4 s h hs hh))))
theorem av_mem {V : Nat → Int32} {s : Int32} {N i : Nat} {done : Nat} (h12 : N ≤ 12) (h : (mWo (mAv V s N) done).testBit i = true) : sMem V i s = true := by
  rw [mWo_bit (lt31 mAv_lt h12), mAv_bit] at h
  simp only [Bool.and_eq_true] at h
  have h2 := h.1.2
  unfold sAv at h2
  simp only [Bool.and_eq_true] at h2
  exact h2.1
section RF
variable {P : zSt} {y : Nat} {m : zM}
theorem r_serves_l (ok : yOK P y) {c : Int32} {N s r h z mo : Nat} (hs : s < 4) (hr : r < 8) (hh : h < 10) (hz : z < 3) (hmo : mo ≤ 4) : ∀ k fu done att (V : Nat → Int32) (m : zM), zf m 216 y = c → za m (yv P y) = V → StV V N → V 706 = nI att → V (231 + 58 * r + 56) = nI mo → mo ≤ att + k → att < mo → done < 2 ^ N → mWo (mAv V (nI s) N) done ≠ 0 → k < fu →
    f_X11_serves_b90 P fu y (nI s) (nI r) (nI h) (nI z) (nI (145 + 21 * s)) (nI done) (nI att) m = some ((sLoop c N s r h z k done att V).1, wA m (yv P y) (sLoop c N s r h z k done att V).2) := by
  have hs1 : ∀ j, j < 21 → 145 + 21 * s + j < 723 := by omega
  have hr1 : 231 + 58 * r + 56 < 723 := by omega
  intro k
  induction k with
  | zero =>
    intro fu done att V m _ _ _ _ _ h1 h2
    omega
  | succ k ih =>
    intro fu done att V m hc0 hm hV h706 hmoV hk hatt hdone hne hf
    obtain ⟨fu, rfl⟩ : ∃ f, fu = f + 1 := ⟨fu - 1, by omega⟩
    have h12 := hV.2.1
    have hc : CandOf V N s (mWo (mAv V (nI s) N) done) := ⟨mWo_lt mAv_lt, fun i hi => av_mem h12 hi⟩
    obtain ⟨hb, hbc⟩ := sPick_lt (c := c) (V := V) (s := s) (h := h) (z := z) hc.1 hne h12
    have hp := r_picks (m := m) ok hc0 hs hh hz (by rw [hm]; exact hV) (by rw [hm]; exact hc) hne
    rw [hm] at hp
    have hst := sPick_st (c := c) hV hs hh hz hc.1 hne
    have k1 : ∀ j, 144 ≤ j → 229 ≤ j → (sPick c V N s h z (mWo (mAv V (nI s) N) done)).2 j = V j := fun j _ _ => sPick_keep (by omega) (by omega) (by omega)
    unfold f_X11_serves_b90
    rw [r_availables ok (by rw [hm]; exact hV.1) h12, zb_s]
    dsimp only
    rw [hm, n_wo (lt31 mAv_lt h12) (lt31 hdone h12), hp, zb_s]
    dsimp only
    unfold sLoop
    dsimp only
    generalize hP : sPick c V N s h z (mWo (mAv V (nI s) N) done) = p at *
    have hb12 : p.1 < 12 := by omega
    have ht := r_tries (m := wA m (yv P y) p.2) ok (c := c) (N := N) (b := p.1) (s := s) (T := att) (z := nI z) hc0 hb12 hs (by rw [za_wA]; exact hst.1) h12 (by rw [za_wA, k1 706 (by omega) (by omega), h706]) (by omega)
    rw [za_wA, wA_wA] at ht
    have hd2 : done ||| 2 ^ p.1 < 2 ^ N := Nat.or_lt_two_pow hdone (Nat.pow_lt_pow_right (by decide) hb)
    rw [n_shl (by omega), n_or (lt31 hdone h12) (p2lt hb12), zl_s, nI_1, zl_s, ht, zb_s]
    dsimp only
    have kT : ∀ j, (144 ≤ j ∧ j < 702) → sTry c p.2 N p.1 s (nI z) att j = p.2 j := fun j hj => sTry_keep (by omega) (by omega) (by omega) (by omega) hb12
    have hT706 : sTry c p.2 N p.1 s (nI z) att 706 = nI (att + 1) := sTry_706 hb12 (by rw [k1 706 (by omega) (by omega), h706])
    have hTst : StV (sTry c p.2 N p.1 s (nI z) att) N := sTry_st hst hb12
    have hTmo : sTry c p.2 N p.1 s (nI z) att (231 + 58 * r + 56) = nI mo := by rw [kT _ (by omega), k1 _ (by omega) (by omega), hmoV]
    generalize hV2 : sTry c p.2 N p.1 s (nI z) att = V2 at *
    cases hg : sGood p.2 p.1 with
    | true =>
      rw [if_neg (by decide)]
      simp only [if_true]
      simp only [nlit, n_mul, n_add, zl_s, zb_s, zgd_t, zin_v, nat_v, za_wA, wA_wA, zf_wA, zap_eq, ok.1, hs1, Nat.reduceLT]
    | false =>
      rw [if_pos bI_f]
      simp only [Bool.false_eq_true, if_false]
      rw [zf_wA, hc0]
      have e56 : (((231 : Int32) + ((58 : Int32) * nI r)) + (56 : Int32)) = nI (231 + 58 * r + 56) := by
        rw [show (58 : Int32) = nI 58 from rfl, show (231 : Int32) = nI 231 from rfl, show (56 : Int32) = nI 56 from rfl, n_mul, n_add, n_add]
      have e5 : nI (145 + 21 * s) + (5 : Int32) = nI (145 + 21 * s + 5) := by
        rw [show (5 : Int32) = nI 5 from rfl, n_add]
      have hav := r_availables (m := wA m (yv P y) V2) ok (s := nI s) (by rw [za_wA]; exact hTst.1) h12
      rw [za_wA] at hav
      have hwo := n_wo (lt31 (mAv_lt (V := V2) (s := nI s) (n := N)) h12) (lt31 hd2 h12)
      have h31 : mWo (mAv V2 (nI s) N) (done ||| 2 ^ p.1) < 2 ^ 31 := lt31 (mWo_lt mAv_lt) h12
      unfold f_X11_serves_b211 f_X11_serves_b212
      rw [e56, e5]
      simp only [zl_s, ok.1, zin_v hr1, zin_v (hs1 5 (by omega)), nat_v hr1, nat_v (hs1 5 (by omega)), zgd_t, za_wA, hav, zb_s, hwo]
      unfold sMay
      by_cases h1 : c = 1
      · simp [h1]
      · by_cases h2 : V2 (231 + 58 * r + 56) ≤ nI (att + 1)
        · have h2' : ¬ nI (att + 1) < V2 (231 + 58 * r + 56) := Int32.not_lt.mpr h2
          simp [h1, h2, h2']
        · have h2' : nI (att + 1) < V2 (231 + 58 * r + 56) := Int32.not_le.mp h2
          by_cases h3 : V2 (145 + 21 * s + 5) < 100
          · have h3' : ¬ 100 ≤ V2 (145 + 21 * s + 5) := Int32.not_le.mpr h3
            simp [h1, h2, h2', h3, h3']
          · have h3' : 100 ≤ V2 (145 + 21 * s + 5) := Int32.not_lt.mp h3
            by_cases h4 : mWo (mAv V2 (nI s) N) (done ||| 2 ^ p.1) = 0
            · simp [h1, h2, h2', h3, h3', h4, nI_0]
            · have h4' : ¬ nI (mWo (mAv V2 (nI s) N) (done ||| 2 ^ p.1)) = 0 := by
                rw [show (0 : Int32) = nI 0 from rfl, n_inj h31 (by decide)]
                exact h4
              simp only [h1, h2, h2', h3, h3', h4, h4', if_false, if_true, ne_eq, not_false_eq_true, and_self, decide_true, show ¬ ((1 : Int32) = 0) by decide]
              rw [hTmo, n_lt (by omega) (by omega)] at h2'
              have hq := ih fu (done ||| 2 ^ p.1) (att + 1) (uV V2 (145 + 21 * s + 5) (V2 (145 + 21 * s + 5) - 100)) (wA m (yv P y) (uV V2 (145 + 21 * s + 5) (V2 (145 + 21 * s + 5) - 100))) hc0 za_wA
                (uV_st hTst (by omega) (by omega) (by omega) (by omega)) (by rw [uV_n (by omega)]; exact hT706) (by rw [uV_n (by omega)]; exact hTmo) (by omega) h2' hd2
                (by
                  have e : mAv (uV V2 (145 + 21 * s + 5) (V2 (145 + 21 * s + 5) - 100)) (nI s) N = mAv V2 (nI s) N := by
                    have : ∀ n, n ≤ 12 → mAv (uV V2 (145 + 21 * s + 5) (V2 (145 + 21 * s + 5) - 100)) (nI s) n = mAv V2 (nI s) n := by
                      intro n
                      induction n with
                      | zero => intro _; rfl
                      | succ i ih2 =>
                        intro hi
                        rw [mAv_s, mAv_s, ih2 (by omega)]
                        unfold sAv sMem
                        rw [uV_n (by omega), uV_n (by omega), uV_n (by omega)]
                    exact this N h12
                  rw [e]
                  exact h4) (by omega)
              rw [wA_wA] at hq
              rw [zap_wA]
              exact hq
def sServe (c : Int32) (V : Nat → Int32) (N s r h z : Nat) : Int32 × (Nat → Int32) :=
  let V1 := uV V (145 + 21 * s + 6) (V (145 + 21 * s + 6) + 1)
  let V2 := uV V1 (145 + 21 * s + 5) (V1 (145 + 21 * s + 5) + V1 (145 + 21 * s + 4))
  let V3 := uV V2 (145 + 21 * s + 5) (if V2 (145 + 21 * s + 5) ≤ 1000 then V2 (145 + 21 * s + 5) else 1000)
  sLoop c N s r h z 4 0 0 V3
theorem mAv_congr {V V' : Nat → Int32} {s : Int32} (h : ∀ j, j < 144 → V' j = V j) : ∀ n, n ≤ 12 → mAv V' s n = mAv V s n := by
  intro n
  induction n with
  | zero => intro _; rfl
  | succ i ih2 =>
    intro hi
    rw [mAv_s, mAv_s, ih2 (by omega)]
    unfold sAv sMem
    rw [h _ (by omega), h _ (by omega), h _ (by omega)]
theorem mWo_z {a : Nat} (ha : a < 2 ^ 31) : mWo a 0 = a := by
  apply Nat.eq_of_testBit_eq
  intro i
  rw [mWo_bit ha, Nat.zero_testBit]
  simp
theorem r_serves (ok : yOK P y) {c : Int32} {N s r h z mo : Nat} (hc0 : zf m 216 y = c) (hs : s < 4) (hr : r < 8) (hh : h < 10) (hz : z < 3) (hV : StV (za m (yv P y)) N) (h706 : za m (yv P y) 706 = nI 0) (hmo : za m (yv P y) (231 + 58 * r + 56) = nI mo) (hmo1 : 1 ≤ mo ∧ mo ≤ 4) (hne : mAv (za m (yv P y)) (nI s) N ≠ 0) :
    f_X11_serves P y (nI s) (nI r) (nI h) (nI z) m = some ((sServe c (za m (yv P y)) N s r h z).1, wA m (yv P y) (sServe c (za m (yv P y)) N s r h z).2) := by
  have hs1 : ∀ j, j < 21 → 145 + 21 * s + j < 723 := by omega
  have h12 := hV.2.1
  have key : ∀ x : Int32, f_X11_serves_b90 P zfuel y (nI s) (nI r) (nI h) (nI z) (nI (145 + 21 * s)) (nI 0) (nI 0) (wA m (yv P y) (uV (uV (uV (za m (yv P y)) (145 + 21 * s + 6) (za m (yv P y) (145 + 21 * s + 6) + nI 1)) (145 + 21 * s + 5) (uV (za m (yv P y)) (145 + 21 * s + 6) (za m (yv P y) (145 + 21 * s + 6) + nI 1) (145 + 21 * s + 5) + uV (za m (yv P y)) (145 + 21 * s + 6) (za m (yv P y) (145 + 21 * s + 6) + nI 1) (145 + 21 * s + 4))) (145 + 21 * s + 5) x)) = some ((sLoop c N s r h z 4 0 0 (uV (uV (uV (za m (yv P y)) (145 + 21 * s + 6) (za m (yv P y) (145 + 21 * s + 6) + nI 1)) (145 + 21 * s + 5) (uV (za m (yv P y)) (145 + 21 * s + 6) (za m (yv P y) (145 + 21 * s + 6) + nI 1) (145 + 21 * s + 5) + uV (za m (yv P y)) (145 + 21 * s + 6) (za m (yv P y) (145 + 21 * s + 6) + nI 1) (145 + 21 * s + 4))) (145 + 21 * s + 5) x)).1, wA m (yv P y) (sLoop c N s r h z 4 0 0 (uV (uV (uV (za m (yv P y)) (145 + 21 * s + 6) (za m (yv P y) (145 + 21 * s + 6) + nI 1)) (145 + 21 * s + 5) (uV (za m (yv P y)) (145 + 21 * s + 6) (za m (yv P y) (145 + 21 * s + 6) + nI 1) (145 + 21 * s + 5) + uV (za m (yv P y)) (145 + 21 * s + 6) (za m (yv P y) (145 + 21 * s + 6) + nI 1) (145 + 21 * s + 4))) (145 + 21 * s + 5) x)).2) := by
    intro x
    have hq := r_serves_l ok (c := c) (N := N) hs hr hh hz hmo1.2 4 zfuel 0 0 _ (wA m (yv P y) (uV (uV (uV (za m (yv P y)) (145 + 21 * s + 6) (za m (yv P y) (145 + 21 * s + 6) + nI 1)) (145 + 21 * s + 5) (uV (za m (yv P y)) (145 + 21 * s + 6) (za m (yv P y) (145 + 21 * s + 6) + nI 1) (145 + 21 * s + 5) + uV (za m (yv P y)) (145 + 21 * s + 6) (za m (yv P y) (145 + 21 * s + 6) + nI 1) (145 + 21 * s + 4))) (145 + 21 * s + 5) x)) hc0 za_wA
      (uV_st (uV_st (uV_st hV (by omega) (by omega) (by omega) (by omega)) (by omega) (by omega) (by omega) (by omega)) (by omega) (by omega) (by omega) (by omega))
      (by rw [uV_n (by omega), uV_n (by omega), uV_n (by omega)]; exact h706) (by rw [uV_n (by omega), uV_n (by omega), uV_n (by omega)]; exact hmo) (by omega) (by omega) (Nat.two_pow_pos _)
      (by
        rw [mAv_congr (fun j hj => by rw [uV_n (by omega), uV_n (by omega), uV_n (by omega)]) N h12, mWo_z (lt31 mAv_lt h12)]
        exact hne) (by unfold zfuel; omega)
    rw [wA_wA] at hq
    exact hq
  unfold f_X11_serves f_X11_serves_b83 sServe
  simp only [nlit, n_mul, n_add, zl_s, zb_s, zgd_t, zin_v, nat_v, za_wA, wA_wA, zf_wA, zap_eq, ok.1, hs1, show 145 + 21 * s < 723 by omega, Nat.reduceLT]
  split
  · rename_i h1
    simp only [h1, if_true]
    exact key _
  · rename_i h1
    simp only [h1, if_false]
    exact key _
end RF

theorem uV_uV {V : Nat → Int32} {i : Nat} {x y : Int32} : uV (uV V i x) i y = uV V i y := by
  funext k
  unfold uV
  by_cases h : k = i <;> simp [h]
theorem sBit_01 {p a : Int32} : sBit p a = 0 ∨ sBit p a = 1 := by
  unfold sBit
  generalize p >>> ((a - a / 8 * 8) &&& 31) = x
  have h := pk_and x (m := 1) 1 (by decide)
  rcases Nat.mod_two_eq_zero_or_one x.toBitVec.toNat with h1 | h1
  · left
    rw [h, show (2 : Nat) ^ 1 = 2 from rfl, h1]
    rfl
  · right
    rw [h, show (2 : Nat) ^ 1 = 2 from rfl, h1]
    rfl
/-- the services' numbers -/
def SrV (V : Nat → Int32) (N : Nat) : Prop := ∀ i, i < N → ∃ s, s < 4 ∧ V (12 * i) = nI s
theorem sMi_neg {V : Nat → Int32} {N : Nat} {x : Int32} (h : SrV V N) (hx : x < 0) : sMi V x N = none := by
  cases hq : sMi V x N with
  | none => rfl
  | some b =>
    exfalso
    obtain ⟨hb, hm⟩ := sMi_lt hq
    obtain ⟨s, hs, hv⟩ := h b hb
    have := (of_decide_eq_true hm).1
    rw [hv] at this
    rw [← this] at hx
    exact nI_pos (by omega) hx
theorem sMi_congr {V V' : Nat → Int32} {s : Int32} (h : ∀ j, j < 144 → V' j = V j) : ∀ n, n ≤ 12 → sMi V' s n = sMi V s n := by
  intro n
  induction n with
  | zero => intro _; rfl
  | succ k ih =>
    intro hk
    have e := ih (by omega)
    have em : sMem V' k s = sMem V k s := by
      unfold sMem
      rw [h _ (by omega), h _ (by omega)]
    rw [sMi_s, sMi_s, e, em]
    cases hm : sMem V k s with
    | false => simp only [Bool.false_eq_true, if_false]
    | true =>
      simp only [if_true]
      cases hq : sMi V s k with
      | none => dsimp only
      | some b =>
        have hb := (sMi_lt hq).1
        dsimp only
        rw [h _ (by omega), h _ (by omega)]
theorem sMirror_up {V : Nat → Int32} {N j : Nat} {s x : Int32} (h12 : N ≤ 12) (hj : 144 ≤ j) (hj2 : j ≠ 703) : sMirror (uV V j x) N s = uV (sMirror V N s) j x := by
  unfold sMirror
  rw [sMi_congr (V := V) (fun i hi => uV_n (by omega)) N h12]
  cases hq : sMi V s N with
  | none => rfl
  | some b =>
    have hb := (sMi_lt hq).1
    dsimp only
    rw [uV_n (show 12 * b + 11 ≠ j by omega), uV_n (show 12 * b + 3 ≠ j by omega), uV_n (show 12 * b + 10 ≠ j by omega), uV_comm (i := j) (j := 12 * b + 11) (by omega), uV_n (show 12 * b + 10 ≠ j by omega), uV_comm (i := j) (j := 12 * b + 10) (by omega), uV_n (show 703 ≠ j by omega), uV_comm (i := j) (j := 703) hj2]
theorem sMirror_keep {V : Nat → Int32} {N j : Nat} {s : Int32} (h : ∀ b, b < N → j ≠ 12 * b + 10 ∧ j ≠ 12 * b + 11) (h3 : j ≠ 703) : sMirror V N s j = V j := by
  unfold sMirror
  cases hq : sMi V s N with
  | none => rfl
  | some b =>
    have hb := (sMi_lt hq).1
    dsimp only
    rw [uV_n h3, uV_n (h b hb).1, uV_n (h b hb).2]
section CG
variable {own : Nat → Nat} {P : zSt} {m0 m : zM} {u N R T : Nat} {g : zGr} {c : Int32} {V : Nat → Int32}
theorem Ms.updT (h : Ms own P m0 m u g N R c V T) (hL : RuL V R) (hf : Mf own P u g N) {r t k : Nat} {x : Int32} (hr : r < R) (ht : t < (V (231 + 58 * r + 43)).toNatClampNeg) (hk : k < 4) : Ms own P m0 (zfp m (tsl k) (gT g r t) x) u g N R c (uV V (231 + 58 * r + 44 + 4 * t + k) x) T := by
  have h8 := hL.1
  have h3 := (hL.2 r hr).2
  have := tsl_lt k
  exact ⟨h.1, h.2.1.updT hL hf.2.1 hf.2.2 hr ht hk, (h.2.2.1.zf (by omega)).up (by omega), h.2.2.2.trans (Fr.zfp ((hf.2.1.2.2.2.2.2.2.2.2.2.2.2.2.2 r (by omega)).2.2.2 t (by omega)) (by omega))⟩
theorem Ms.updG (h : Ms own P m0 m u g N R c V T) (hL : RuL V R) (hf : Mf own P u g N) {r t : Nat} {x : Int32} (hr : r < R) (ht : t < 3) : Ms own P m0 (zfp m 122 (gT g r t) x) u g N R c V T := by
  have h8 := hL.1
  exact ⟨h.1, h.2.1.updF hL (by omega), h.2.2.1.zf (by omega), h.2.2.2.trans (Fr.zfp ((hf.2.1.2.2.2.2.2.2.2.2.2.2.2.2.2 r (by omega)).2.2.2 t (by omega)) (by omega))⟩
/-- the targets' marks -/
def FlT (m : zM) (g : zGr) (r n : Nat) (p : Nat → Bool) : Prop := ∀ t, t < n → zf m 122 (gT g r t) = bI (p t)
theorem FlT.ne {m : zM} {r n f a : Nat} {p : Nat → Bool} {v : Int32} (h : FlT m g r n p) (e : f ≠ 122) : FlT (zfp m f a v) g r n p := fun i hi => by rw [zf_ne (Or.inl (Ne.symm e))]; exact h i hi
theorem c_choT_l (hf : Mf own P u g N) (hL : RuL V R) {r n : Nat} {p : Nat → Bool} (hr : r < R) (hn : V (231 + 58 * r + 43) = nI n) (hn3 : n ≤ 3) : ∀ d k fu (m : zM), k + d = n → d < fu → Ms own P m0 m u g N R c (sCw (tCi r) (tWi r) p V k).2.2 T → FlT m g r n p →
    ∃ m', f_X9_chooseByWeights_16_b7 P fu (zR P 63 (gQ g r)) (nI n) (oI (sCw (tCi r) (tWi r) p V k).1) (sCw (tCi r) (tWi r) p V k).2.1 (nI k) m = some (oI (sCw (tCi r) (tWi r) p V n).1, m') ∧ Ms own P m0 m' u g N R c (sCwE (tCi r) (tWi r) p V n).2 T := by
  have h12 := hf.2.2
  have h8 := hL.1
  have r8 : r < 8 := by omega
  have hlen := hf.1.2.2.2.1 r r8
  have kp : ∀ k, k ≤ n → ∀ r', r' < R → (sCw (tCi r) (tWi r) p V k).2.2 (231 + 58 * r') = V (231 + 58 * r') ∧ (sCw (tCi r) (tWi r) p V k).2.2 (231 + 58 * r' + 43) = V (231 + 58 * r' + 43) := fun k hk r' hr' => ⟨sCw_keep (fun i hi => (by have := ne_rt (r := r) (r' := r') (t := i) (k := 2) (j := 0) (by omega) (by omega) (by omega); unfold tCi; omega)), sCw_keep (fun i hi => (by have := ne_rt (r := r) (r' := r') (t := i) (k := 2) (j := 43) (by omega) (by omega) (by omega); unfold tCi; omega))⟩
  have hlk : ∀ k, k ≤ n → RuL (sCw (tCi r) (tWi r) p V k).2.2 R := fun k hk => hL.to (kp k hk)
  have hnk : ∀ k, k ≤ n → (sCw (tCi r) (tWi r) p V k).2.2 (231 + 58 * r + 43) = nI n := fun k hk => by rw [(kp k hk r hr).2, hn]
  intro d
  induction d with
  | zero =>
    intro k fu m hk hfu hM h2
    obtain ⟨fu, rfl⟩ : ∃ f, fu = f + 1 := ⟨fu - 1, by omega⟩
    have : k = n := by omega
    subst this
    unfold f_X9_chooseByWeights_16_b7 f_X9_chooseByWeights_16_b85 f_X9_chooseByWeights_16_b102
    rw [if_pos (Int32.le_refl _)]
    unfold sCwE
    dsimp only
    cases hq : (sCw (tCi r) (tWi r) p V k).1 with
    | none =>
      rw [if_pos (show oI none = (-1 : Int32) from rfl)]
      exact ⟨m, rfl, hM⟩
    | some b =>
      have hb := (sCw_lt hq).1
      have hbt : b < ((sCw (tCi r) (tWi r) p V k).2.2 (231 + 58 * r + 43)).toNatClampNeg := by rw [hnk k (Nat.le_refl _), n_nat (by omega)]; exact hb
      rw [show oI (some b) = nI b from rfl, if_neg (fun h => nI_pos (show b < 2 ^ 31 by omega) (by rw [h]; decide)), hlen, zin_3 (by omega), zgd_t, n_nat (by omega), hM.1.2.2.2.1 r b r8 (by omega), zl_s, zl_s]
      have e : zf m 121 (gT g r b) = (sCw (tCi r) (tWi r) p V k).2.2 (tCi r b) := hM.2.1.2.2.2.2 r b 2 hr hbt (by omega)
      rw [e]
      exact ⟨_, rfl, hM.updT (hlk k (Nat.le_refl _)) hf (k := 2) hr hbt (by omega)⟩
  | succ d ih =>
    intro k fu m hk hfu hM h2
    obtain ⟨fu, rfl⟩ : ∃ f, fu = f + 1 := ⟨fu - 1, by omega⟩
    have hkn : k < n := by omega
    have hLk := hlk k (by omega)
    have hkt : k < ((sCw (tCi r) (tWi r) p V k).2.2 (231 + 58 * r + 43)).toNatClampNeg := by rw [hnk k (by omega), n_nat (by omega)]; exact hkn
    have hg := ih (k + 1) fu
    rw [sCw_s] at hg
    unfold f_X9_chooseByWeights_16_b7 f_X9_chooseByWeights_16_b76 f_X9_chooseByWeights_16_b79
    rw [if_neg (by rw [n_le (by omega) (by omega)]; omega), hlen, if_neg (by rw [show Int32.ofNat 3 = nI 3 from rfl, n_le (by omega) (by omega)]; omega), zin_3 (by omega), zgd_t, n_nat (by omega), hM.1.2.2.2.1 r k r8 (by omega), zl_s, h2 k hkn]
    cases hc : p k with
    | false =>
      rw [hc] at hg
      simp only [Bool.false_eq_true, if_false] at hg
      rw [if_pos bI_f, zl_s, nI_1]
      exact hg m (by omega) (by omega) hM h2
    | true =>
      rw [hc] at hg
      simp only [if_true] at hg
      rw [if_neg (by decide), zl_s, zl_s]
      have e1 : zf m 121 (gT g r k) = (sCw (tCi r) (tWi r) p V k).2.2 (tCi r k) := hM.2.1.2.2.2.2 r k 2 hr hkt (by omega)
      have e0 : zf m 120 (gT g r k) = (sCw (tCi r) (tWi r) p V k).2.2 (tWi r k) := hM.2.1.2.2.2.2 r k 1 hr hkt (by omega)
      rw [e1, e0]
      have hM1 : Ms own P m0 (zfp m 121 (gT g r k) ((sCw (tCi r) (tWi r) p V k).2.2 (tCi r k) + (sCw (tCi r) (tWi r) p V k).2.2 (tWi r k))) u g N R c (uV (sCw (tCi r) (tWi r) p V k).2.2 (tCi r k) ((sCw (tCi r) (tWi r) p V k).2.2 (tCi r k) + (sCw (tCi r) (tWi r) p V k).2.2 (tWi r k))) T := hM.updT hLk hf (k := 2) hr hkt (by omega)
      have e43 : ∀ x, uV (sCw (tCi r) (tWi r) p V k).2.2 (tCi r k) x (231 + 58 * r + 43) = nI n := fun x => by rw [uV_n (by unfold tCi; omega), hnk k (by omega)]
      have h21 : FlT (zfp m 121 (gT g r k) ((sCw (tCi r) (tWi r) p V k).2.2 (tCi r k) + (sCw (tCi r) (tWi r) p V k).2.2 (tWi r k))) g r n p := h2.ne (by decide)
      have ew : zf (zfp m 121 (gT g r k) ((sCw (tCi r) (tWi r) p V k).2.2 (tCi r k) + (sCw (tCi r) (tWi r) p V k).2.2 (tWi r k))) 120 (gT g r k) = uV (sCw (tCi r) (tWi r) p V k).2.2 (tCi r k) ((sCw (tCi r) (tWi r) p V k).2.2 (tCi r k) + (sCw (tCi r) (tWi r) p V k).2.2 (tWi r k)) (tWi r k) := hM1.2.1.2.2.2.2 r k 1 hr (by rw [e43, n_nat (by omega)]; exact hkn) (by omega)
      rw [ew]
      cases hq : (sCw (tCi r) (tWi r) p V k).1 with
      | none =>
        rw [hq] at hg
        rw [if_pos (show oI none = (-1 : Int32) from rfl), nI_1]
        exact hg _ (by omega) (by omega) hM1 h21
      | some b =>
        have hb := (sCw_lt hq).1
        rw [hq] at hg
        dsimp only at hg
        rw [show oI (some b) = nI b from rfl, if_neg (fun h => nI_pos (show b < 2 ^ 31 by omega) (by rw [h]; decide)), zin_3 (by omega), zgd_t, n_nat (by omega), hM1.1.2.2.2.1 r b r8 (by omega), zl_s]
        have ek : zf (zfp m 121 (gT g r k) ((sCw (tCi r) (tWi r) p V k).2.2 (tCi r k) + (sCw (tCi r) (tWi r) p V k).2.2 (tWi r k))) 121 (gT g r k) = uV (sCw (tCi r) (tWi r) p V k).2.2 (tCi r k) ((sCw (tCi r) (tWi r) p V k).2.2 (tCi r k) + (sCw (tCi r) (tWi r) p V k).2.2 (tWi r k)) (tCi r k) := hM1.2.1.2.2.2.2 r k 2 hr (by rw [e43, n_nat (by omega)]; exact hkn) (by omega)
        have eb : zf (zfp m 121 (gT g r k) ((sCw (tCi r) (tWi r) p V k).2.2 (tCi r k) + (sCw (tCi r) (tWi r) p V k).2.2 (tWi r k))) 121 (gT g r b) = uV (sCw (tCi r) (tWi r) p V k).2.2 (tCi r k) ((sCw (tCi r) (tWi r) p V k).2.2 (tCi r k) + (sCw (tCi r) (tWi r) p V k).2.2 (tWi r k)) (tCi r b) := hM1.2.1.2.2.2.2 r b 2 hr (by rw [e43, n_nat (by omega)]; omega) (by omega)
        rw [ek, eb, nI_1]
        by_cases h9 : uV (sCw (tCi r) (tWi r) p V k).2.2 (tCi r k) ((sCw (tCi r) (tWi r) p V k).2.2 (tCi r k) + (sCw (tCi r) (tWi r) p V k).2.2 (tWi r k)) (tCi r b) < uV (sCw (tCi r) (tWi r) p V k).2.2 (tCi r k) ((sCw (tCi r) (tWi r) p V k).2.2 (tCi r k) + (sCw (tCi r) (tWi r) p V k).2.2 (tWi r k)) (tCi r k)
        · rw [if_pos h9] at hg
          rw [if_neg (Int32.not_le.mpr h9)]
          exact hg _ (by omega) (by omega) hM1 h21
        · rw [if_neg h9] at hg
          rw [if_pos (Int32.not_lt.mp h9)]
          exact hg _ (by omega) (by omega) hM1 h21
/-- the answer of chooseService -/
def oS (V : Nat → Int32) (r : Nat) : Option Nat → Int32
  | none => -1
  | some t => V (231 + 58 * r + 44 + 4 * t)
theorem c_cho_l (hf : Mf own P u g N) (hL : RuL V R) {r n : Nat} (hr : r < R) (hn : V (231 + 58 * r + 43) = nI n) (hn1 : 1 ≤ n) (hn3 : n ≤ 3) : ∀ d k fu (m : zM), k + d = n → d < fu → Ms own P m0 m u g N R c V T → (∀ t, t < k → zf m 122 (gT g r t) = bI (tCand V N r t)) →
    ∃ m', f_X1_chooseService_b2 P fu u (gQ g r) (nI k) m = some (oS V r (sChoose V N r n).1, m') ∧ Ms own P m0 m' u g N R c (sChoose V N r n).2 T := by
  have h12 := hf.2.2
  have h8 := hL.1
  have r8 : r < 8 := by omega
  have hlen := hf.1.2.2.2.1 r r8
  intro d
  induction d with
  | zero =>
    intro k fu m hk hfu hM h2
    obtain ⟨fu, rfl⟩ : ∃ f, fu = f + 1 := ⟨fu - 1, by omega⟩
    have : k = n := by omega
    subst this
    have e64 : zf m 64 (gQ g r) = nI k := by rw [(hM.2.1.2.2.2.1 r hr).2.2.1, hn]
    obtain ⟨m1, f1, f2⟩ := c_choT_l (c := c) hf hL (p := tCand V N r) hr hn hn3 k 0 zfuel m (by omega) (by unfold zfuel; omega) hM h2
    have f1' : f_X9_chooseByWeights_16 P (zR P 63 (gQ g r)) (nI k) m = some (oI (sCw (tCi r) (tWi r) (tCand V N r) V k).1, m1) := f1
    unfold f_X1_chooseService_b2
    rw [e64, if_pos (Int32.le_refl _), zl_s, f1', zb_s]
    dsimp only
    unfold sChoose
    dsimp only
    have eE : (sCwE (tCi r) (tWi r) (tCand V N r) V k).1 = (sCw (tCi r) (tWi r) (tCand V N r) V k).1 := by
      unfold sCwE
      dsimp only
      cases (sCw (tCi r) (tWi r) (tCand V N r) V k).1 <;> rfl
    rw [eE]
    cases hq : (sCw (tCi r) (tWi r) (tCand V N r) V k).1 with
    | none =>
      rw [if_pos (show oI none = (-1 : Int32) from rfl)]
      exact ⟨m1, rfl, f2⟩
    | some b =>
      have hb := (sCw_lt hq).1
      have kp : ∀ r', r' < R → (sCwE (tCi r) (tWi r) (tCand V N r) V k).2 (231 + 58 * r') = V (231 + 58 * r') ∧ (sCwE (tCi r) (tWi r) (tCand V N r) V k).2 (231 + 58 * r' + 43) = V (231 + 58 * r' + 43) := fun r' hr' => ⟨sCwE_keep (fun i hi => (by have := ne_rt (r := r) (r' := r') (t := i) (k := 2) (j := 0) (by omega) (by omega) (by omega); unfold tCi; omega)), sCwE_keep (fun i hi => (by have := ne_rt (r := r) (r' := r') (t := i) (k := 2) (j := 43) (by omega) (by omega) (by omega); unfold tCi; omega))⟩
      have hL1 : RuL (sCwE (tCi r) (tWi r) (tCand V N r) V k).2 R := hL.to kp
      have hbt : b < ((sCwE (tCi r) (tWi r) (tCand V N r) V k).2 (231 + 58 * r + 43)).toNatClampNeg := by rw [(kp r hr).2, hn, n_nat (by omega)]; exact hb
      have e124 : zf m1 124 (gT g r b) = (sCwE (tCi r) (tWi r) (tCand V N r) V k).2 (231 + 58 * r + 44 + 4 * b + 3) := f2.2.1.2.2.2.2 r b 3 hr hbt (by omega)
      have hM1 := f2.updT hL1 hf (k := 3) (x := (sCwE (tCi r) (tWi r) (tCand V N r) V k).2 (231 + 58 * r + 44 + 4 * b + 3) + 1) hr hbt (by omega)
      have ez : ∀ x, zr (zfp m1 124 (gT g r b) x) (zR P 63 (gQ g r)) b = gT g r b := fun _ => f2.1.2.2.2.1 r b r8 (by omega)
      have e123 : zf (zfp m1 124 (gT g r b) ((sCwE (tCi r) (tWi r) (tCand V N r) V k).2 (231 + 58 * r + 44 + 4 * b + 3) + 1)) 123 (gT g r b) = V (231 + 58 * r + 44 + 4 * b) := by
        have h9 : zf m1 123 (gT g r b) = (sCwE (tCi r) (tWi r) (tCand V N r) V k).2 (231 + 58 * r + 44 + 4 * b + 0) := f2.2.1.2.2.2.2 r b 0 hr hbt (by omega)
        rw [zf_ne (Or.inl (by omega)), h9, sCwE_keep (fun i hi => by unfold tCi; omega)]
        rfl
      rw [show oI (some b) = nI b from rfl, if_neg (fun h => nI_pos (show b < 2 ^ 31 by omega) (by rw [h]; decide)), zl_s, hlen, zin_3 (by omega), zgd_t, n_nat (by omega), f2.1.2.2.2.1 r b r8 (by omega), zl_s, e124, zl_s, zl_s, hlen, zin_3 (by omega), zgd_t, ez, zl_s, e123]
      exact ⟨_, rfl, hM1⟩
  | succ d ih =>
    intro k fu m hk hfu hM h2
    obtain ⟨fu, rfl⟩ : ∃ f, fu = f + 1 := ⟨fu - 1, by omega⟩
    have hkn : k < n := by omega
    have hkt : k < (V (231 + 58 * r + 43)).toNatClampNeg := by rw [hn, n_nat (by omega)]; exact hkn
    have e64 : zf m 64 (gQ g r) = nI n := by rw [(hM.2.1.2.2.2.1 r hr).2.2.1, hn]
    have e123 : zf m 123 (gT g r k) = V (231 + 58 * r + 44 + 4 * k) := hM.2.1.2.2.2.2 r k 0 hr hkt (by omega)
    have hav := c_hasAv (s := V (231 + 58 * r + 44 + 4 * k)) hM.1 hf hM.2.1.2.1 hM.2.1.1.1
    unfold f_X1_chooseService_b2
    rw [e64, if_neg (by rw [n_le (by omega) (by omega)]; omega), zl_s, hlen, zin_3 (by omega), zgd_t, n_nat (by omega), hM.1.2.2.2.1 r k r8 (by omega), zl_s, zl_s, hlen, zin_3 (by omega), zgd_t, hM.1.2.2.2.1 r k r8 (by omega), zl_s, e123, hav, zb_s, zbo_bI, zgd_t, zl_s, nI_1, zl_s]
    refine ih (k + 1) fu _ (by omega) (by omega) (hM.updG hL hf hr (by omega)) (fun t ht => ?_)
    by_cases e : t = k
    · subst e
      rw [zf_eq]
      rfl
    · rw [zf_ne (Or.inr (fun q => e (hf.2.1.2.2.1 r t r k r8 (by omega) r8 (by omega) q).2))]
      exact h2 t (by omega)
theorem c_cho (hf : Mf own P u g N) (hL : RuL V R) {r n : Nat} (hr : r < R) (hn : V (231 + 58 * r + 43) = nI n) (hn1 : 1 ≤ n) (hn3 : n ≤ 3) (hM : Ms own P m0 m u g N R c V T) :
    ∃ m', f_X1_chooseService P u (gQ g r) m = some (oS V r (sChoose V N r n).1, m') ∧ Ms own P m0 m' u g N R c (sChoose V N r n).2 T :=
  c_cho_l hf hL hr hn hn1 hn3 n 0 zfuel m (by omega) (by unfold zfuel; omega) hM (by intro t ht; omega)
theorem c_mirror_l (hf : Mf own P u g N) (hL : RuL V R) {s : Int32} {B : Nat} (hB : BdV V N B) (hB2 : B < 1000000) (hM : Ms own P m0 m u g N R c V T) : ∀ d k fu, k + d = N → d < fu → ∃ m', f_X1_mirror_b4 P fu u s (oI (sMi V s k)) (nI k) m = some (0, m') ∧ Ms own P m0 m' u g N R c (sMirror V N s) T := by
  have h12 := hf.2.2
  have h8 := hL.1
  intro d
  induction d with
  | zero =>
    intro k fu hk hfu
    obtain ⟨fu, rfl⟩ : ∃ f, fu = f + 1 := ⟨fu - 1, by omega⟩
    have : k = N := by omega
    subst this
    unfold f_X1_mirror_b4 sMirror
    rw [hM.2.1.1.1, if_pos (Int32.le_refl _)]
    cases hq : sMi V s k with
    | none =>
      rw [if_pos (show oI none = (-1 : Int32) from rfl)]
      exact ⟨m, rfl, hM⟩
    | some b =>
      have hb := (sMi_lt hq).1
      obtain ⟨a, a1, a2⟩ := (hB b hb).2.2.2.2
      rw [show oI (some b) = nI b from rfl, if_neg (fun h => nI_pos (show b < 2 ^ 31 by omega) (by rw [h]; decide)), zl_s, hf.1.1, zin_12 (by omega), zgd_t, n_nat (by omega), hM.1.1 b (by omega), zl_s]
      have e5 : zf m 5 (gB g b) = V (12 * b + 3) := hM.2.1.2.1 b 3 hb (by omega)
      have e11 : zf m 11 (gB g b) = V (12 * b + 10) := hM.2.1.2.1 b 10 hb (by omega)
      have e12 : zf m 12 (gB g b) = V (12 * b + 11) := hM.2.1.2.1 b 11 hb (by omega)
      unfold f_X0_attemptAsShadow f_X0_attemptAsShadow_b24
      rw [e5, e11, a2, c_succeeds (by omega), zb_s, ← a2]
      dsimp only
      have tail : ∀ (m1 : zM) (V1 : Nat → Int32), Ms own P m0 m1 u g k R c V1 T → RuL V1 R → V1 (12 * b + 10) = V (12 * b + 10) → V1 703 = V 703 → ∃ m', (zb (zl (zfp m1 11 (gB g b) (zf m1 11 (gB g b) + 1)) fun m31 => some (0, m31)) fun _ m70 => zl (zfp m70 33 u (zf m70 33 u + 1)) fun m80 => some (0, m80)) = some (0, m') ∧ Ms own P m0 m' u g k R c (uV (uV V1 (12 * b + 10) (V1 (12 * b + 10) + 1)) 703 (V1 703 + 1)) T := by
        intro m1 V1 hM1 hL1 _ _
        have f11 : zf m1 11 (gB g b) = V1 (12 * b + 10) := hM1.2.1.2.1 b 10 hb (by omega)
        have hM2 := hM1.updB hL1 hf (k := 10) (x := V1 (12 * b + 10) + 1) hb (by omega)
        have f33 : zf (zfp m1 11 (gB g b) (V1 (12 * b + 10) + 1)) 33 u = V1 703 := by
          have := hM2.2.1.1.2.2.2.2.2.2 33 (by omega) (by omega)
          rw [uV_n (by omega)] at this
          exact this
        rw [f11, zl_s, zb_s]
        dsimp only
        rw [f33, zl_s]
        exact ⟨_, rfl, hM2.updC (hL1.up (fun r hr => by omega)) hf (j := 33) (by omega) (by omega)⟩
      have e703 : ∀ V1 : Nat → Int32, uV V1 (12 * b + 10) (V1 (12 * b + 10) + 1) 703 = V1 703 := fun V1 => uV_n (by omega)
      rcases sBit_01 (p := V (12 * b + 3)) (a := V (12 * b + 10)) with h0 | h1
      · rw [h0, decide_eq_false (by decide), if_pos bI_f, Int32.add_zero, uV_self, e703]
        exact tail m V hM hL rfl rfl
      · rw [h1, decide_eq_true rfl, if_neg (by decide), e12, zl_s, e703]
        exact tail _ _ (hM.updB hL hf (k := 11) hb (by omega)) (hL.up (fun r hr => by omega)) (uV_n (by omega)) (uV_n (by omega))
  | succ d ih =>
    intro k fu hk hfu
    obtain ⟨fu, rfl⟩ : ∃ f, fu = f + 1 := ⟨fu - 1, by omega⟩
    have hkN : k < N := by omega
    have hg := ih (k + 1) fu (by omega) (by omega)
    rw [sMi_s] at hg
    unfold f_X1_mirror_b4 f_X1_mirror_b51 f_X1_mirror_b53
    rw [hM.2.1.1.1, if_neg (by rw [n_le (by omega) (by omega)]; omega), zl_s, hf.1.1, zin_12 (show k < 12 by omega), zgd_t, n_nat (by omega), hM.1.1 k (by omega), zl_s, c_mem hM.2.1.2.1 hkN, zb_s]
    dsimp only
    cases hc : sMem V k s with
    | false =>
      rw [hc] at hg
      simp only [Bool.false_eq_true, if_false] at hg
      rw [if_pos bI_f, zl_s, nI_1]
      exact hg
    | true =>
      rw [hc] at hg
      simp only [if_true] at hg
      rw [if_neg (by decide)]
      cases hq : sMi V s k with
      | none =>
        rw [hq] at hg
        rw [if_pos (show oI none = (-1 : Int32) from rfl), zl_s, nI_1]
        exact hg
      | some b =>
        have hb := (sMi_lt hq).1
        rw [hq] at hg
        dsimp only at hg
        have ek : zf m 11 (gB g k) = V (12 * k + 10) := hM.2.1.2.1 k 10 hkN (by omega)
        have eb : zf m 11 (gB g b) = V (12 * b + 10) := hM.2.1.2.1 b 10 (by omega) (by omega)
        rw [show oI (some b) = nI b from rfl, if_neg (fun h => nI_pos (show b < 2 ^ 31 by omega) (by rw [h]; decide)), zl_s, hf.1.1, zin_12 (show k < 12 by omega), zgd_t, hM.1.1 k (by omega), zl_s, zl_s, hf.1.1, zin_12 (show b < 12 by omega), zgd_t, n_nat (show b < 2 ^ 31 by omega), hM.1.1 b (by omega), zl_s, ek, eb]
        by_cases h9 : V (12 * k + 10) < V (12 * b + 10)
        · rw [if_pos h9] at hg
          rw [if_neg (Int32.not_le.mpr h9), zl_s, nI_1]
          exact hg
        · rw [if_neg h9] at hg
          rw [if_pos (Int32.not_lt.mp h9), zl_s, nI_1]
          exact hg
theorem c_mirror (hf : Mf own P u g N) (hL : RuL V R) {s : Int32} {B : Nat} (hB : BdV V N B) (hB2 : B < 1000000) (hM : Ms own P m0 m u g N R c V T) : ∃ m', f_X1_mirror P u s m = some (0, m') ∧ Ms own P m0 m' u g N R c (sMirror V N s) T :=
  c_mirror_l hf hL hB hB2 hM N 0 zfuel (by omega) (by have := hf.2.2; unfold zfuel; omega)
end CG

/-! ===== calls: request, tick: the records ===== -/
def itU (it : zIt) (k : Nat) (a : Option (Option Nat × Nat × Nat × Int32)) : zIt := fun i => if i = k then a else it i
def itT (it : zIt) (k : Nat) : zIt := fun i => if i < k then it i else none
section RC
variable {own : Nat → Nat} {P : zSt} {m m' : zM} {x y B B' u N R rc : Nat} {g : zGr} {V V' : Nat → Int32} {sv mk : Bool} {Vs Vm T Q : Nat → Int32} {tn pn k : Nat} {it : zIt}
theorem itC.to {i : Nat} {a : Option (Option Nat × Nat × Nat × Int32)} (h : itC P m rc i a) (e : ∀ j, 40 ≤ j → j < 45 → za m' (zR P j rc) i = za m (zR P j rc) i) : itC P m' rc i a := by
  cases a with
  | none =>
    show za m' _ _ = _
    rw [e _ (by omega) (by omega)]
    exact h
  | some a =>
    obtain ⟨ro, hh, z, a⟩ := a
    obtain ⟨q1, q2, q3, q4⟩ := h
    exact ⟨by rw [e _ (by omega) (by omega)]; exact q1, by rw [e _ (by omega) (by omega)]; exact q2, by rw [e _ (by omega) (by omega)]; exact q3, by rw [e _ (by omega) (by omega)]; exact q4⟩
theorem c_room0 (h : bR own P m rc false k it) (hk : k = 0) {n : Nat} (hn : n ≤ 60) : f_X2_makesRoomFor P rc (nI n) m = some (0, m) := by
  unfold f_X2_makesRoomFor f_X2_makesRoomFor_b15
  rw [h.2.2.2.1, hk, n_add, if_pos (show nI (0 + n) ≤ 60 from (n_le (b := 60) (by omega) (by omega)).mpr (by omega)), h.2.2.2.2.1]
  rfl
theorem c_room1 (h : bR own P m rc true k it) (hk : k ≤ 60) {n : Nat} (hn : k + n ≤ 60) : f_X2_makesRoomFor P rc (nI n) m = some (1, m) := by
  unfold f_X2_makesRoomFor f_X2_makesRoomFor_b15
  rw [h.2.2.2.1, n_add, if_pos (show nI (k + n) ≤ 60 from (n_le (b := 60) (by omega) (by omega)).mpr (by omega)), h.2.2.2.2.1]
  rfl
theorem c_room2 (h : bR own P m rc true k it) (hk : k ≤ 60) {n : Nat} (hn : n ≤ 60) (hn2 : 60 < k + n) : f_X2_makesRoomFor P rc (nI n) m = some (0, zfp (zfp m 45 rc 0) 46 rc 0) := by
  unfold f_X2_makesRoomFor f_X2_makesRoomFor_b15
  rw [h.2.2.2.1, n_add, if_neg (show ¬ nI (k + n) ≤ 60 from fun q => by have := (n_le (b := 60) (by omega) (by omega)).mp q; omega), c_stop, zb_s]
  dsimp only
  rw [zf_eq]
  rfl
theorem c_rec1 (h : bR own P m rc true k it) (hk : k < 60) {ro : Option Nat} {hh zz : Nat} {a : Int32} : ∃ m', f_X2_addRequest P rc (oI ro) (nI hh) (nI zz) a m = some (0, m') ∧ bR own P m' rc true (k + 1) (itU it k (some (ro, hh, zz, a))) ∧ Fz own rc m m' := by
  have h0 := h
  obtain ⟨h1, h2, h3, h4, h5, h6⟩ := h
  have l : ∀ j, 40 ≤ j → j < 45 → zlen P (zR P j rc) = 60 := fun j a b => (h2 j a b).2
  have ne : ∀ i j, 40 ≤ i → i < 45 → 40 ≤ j → j < 45 → i ≠ j → zR P i rc ≠ zR P j rc := fun i j a b c d e q => e (h3 i j a b c d q)
  unfold f_X2_addRequest
  rw [show f_X2_makesRoomFor P rc 1 m = some (1, m) from c_room1 (n := 1) h0 (by omega) (by omega), zb_s]
  dsimp only
  rw [if_neg (by decide)]
  simp only [zl_s]
  have e4 : ∀ (m1 : zM) a i v, zf (zap m1 a i v) 45 rc = zf m1 45 rc := fun _ _ _ _ => rfl
  simp only [e4, h4, l 40 (by omega) (by omega), l 41 (by omega) (by omega), l 42 (by omega) (by omega), l 43 (by omega) (by omega), zin_n (show k < 2 ^ 31 by omega) hk, zgd_t, n_nat (show k < 2 ^ 31 by omega)]
  refine ⟨_, rfl, ⟨h1, h2, h3, ?_, ?_, fun i hi => ?_⟩, ?_⟩
  · rw [zf_eq]
    exact n_add k 1
  · rw [zf_ne (Or.inl (by omega))]
    exact h5
  · unfold itU
    by_cases e : i = k
    · subst e
      rw [if_pos rfl]
      refine ⟨?_, ?_, ?_, ?_⟩
      · show za (zap (zap (zap (zap m _ _ _) _ _ _) _ _ _) _ _ _) _ _ = _
        rw [za_ne (Or.inl (ne 40 43 (by omega) (by omega) (by omega) (by omega) (by omega))), za_ne (Or.inl (ne 40 42 (by omega) (by omega) (by omega) (by omega) (by omega))), za_ne (Or.inl (ne 40 41 (by omega) (by omega) (by omega) (by omega) (by omega))), za_eq]
      · show za (zap (zap (zap (zap m _ _ _) _ _ _) _ _ _) _ _ _) _ _ = _
        rw [za_ne (Or.inl (ne 41 43 (by omega) (by omega) (by omega) (by omega) (by omega))), za_ne (Or.inl (ne 41 42 (by omega) (by omega) (by omega) (by omega) (by omega))), za_eq]
      · show za (zap (zap (zap (zap m _ _ _) _ _ _) _ _ _) _ _ _) _ _ = _
        rw [za_ne (Or.inl (ne 42 43 (by omega) (by omega) (by omega) (by omega) (by omega))), za_eq]
      · show za (zap (zap (zap (zap m _ _ _) _ _ _) _ _ _) _ _ _) _ _ = _
        rw [za_eq]
    · rw [if_neg e]
      exact (h6 i (by omega)).to (fun j a b => by
        show za (zap (zap (zap (zap m _ _ _) _ _ _) _ _ _) _ _ _) _ _ = _
        rw [za_ne (Or.inr e), za_ne (Or.inr e), za_ne (Or.inr e), za_ne (Or.inr e)])
  · have o : ∀ j, 40 ≤ j → j < 45 → own (zR P j rc) = rc := fun j a b => (h2 j a b).1
    exact (((((Fo.zap (o 40 (by omega) (by omega))).trans (Fo.zap (o 41 (by omega) (by omega)))).trans (Fo.zap (o 42 (by omega) (by omega)))).trans (Fo.zap (o 43 (by omega) (by omega)))).trans (Fo.zfp h1)).z
/-- a request, recorded by the class -/
theorem c_addReq (h : bR own P m rc mk k it) (hk : k ≤ 60) (h0 : mk = false → k = 0) {ro : Option Nat} {hh zz : Nat} {a : Int32} : ∃ m', f_X2_addRequest P rc (oI ro) (nI hh) (nI zz) a m = some (0, m') ∧ Fz own rc m m' ∧
    ((mk = true ∧ k < 60 ∧ bR own P m' rc true (k + 1) (itU it k (some (ro, hh, zz, a)))) ∨ (¬ (mk = true ∧ k < 60) ∧ bR own P m' rc false 0 it)) := by
  cases mk with
  | false =>
    have hk0 := h0 rfl
    refine ⟨m, ?_, ⟨fun _ _ _ => rfl, fun _ _ _ => rfl, fun _ _ _ => rfl⟩, Or.inr ⟨fun q => (by cases q.1), by rw [← hk0]; exact h⟩⟩
    unfold f_X2_addRequest
    rw [show f_X2_makesRoomFor P rc 1 m = some (0, m) from c_room0 (n := 1) h hk0 (by omega), zb_s]
    rfl
  | true =>
    by_cases h6 : k < 60
    · obtain ⟨m', a1, a2, a3⟩ := c_rec1 (ro := ro) (hh := hh) (zz := zz) (a := a) h h6
      exact ⟨m', a1, a3, Or.inl ⟨rfl, h6, a2⟩⟩
    · have : k = 60 := by omega
      refine ⟨_, ?_, h.stop.2, Or.inr ⟨fun q => h6 q.2, h.stop.1⟩⟩
      unfold f_X2_addRequest
      rw [show f_X2_makesRoomFor P rc 1 m = some (0, _) from c_room2 (n := 1) h hk (by omega) (by omega), zb_s]
      rfl
theorem c_ticks_l (h1 : own rc = rc) (h2 : own (zR P 40 rc) = rc) (hl : zlen P (zR P 40 rc) = 60) {n : Nat} (hkn : k + n ≤ 60) : ∀ d j fu (m : zM), j + d = n → d < fu → zf m 45 rc = nI (k + j) → (∀ i, k ≤ i → i < k + j → za m (zR P 40 rc) i = -2) →
    ∃ m', f_X2_addTicks_b10 P fu rc (nI n) (nI j) m = some (0, m') ∧ zf m' 45 rc = nI (k + n) ∧ (∀ i, k ≤ i → i < k + n → za m' (zR P 40 rc) i = -2) ∧ Fp (fun f a => f = 45 ∧ a = rc) (fun a i => a = zR P 40 rc ∧ k ≤ i) m m' := by
  intro d
  induction d with
  | zero =>
    intro j fu m hj hfu h3 h4
    obtain ⟨fu, rfl⟩ : ∃ f, fu = f + 1 := ⟨fu - 1, by omega⟩
    have : j = n := by omega
    subst this
    unfold f_X2_addTicks_b10
    rw [if_pos (Int32.le_refl _)]
    exact ⟨m, rfl, h3, h4, Fp.rfl'⟩
  | succ d ih =>
    intro j fu m hj hfu h3 h4
    obtain ⟨fu, rfl⟩ : ∃ f, fu = f + 1 := ⟨fu - 1, by omega⟩
    unfold f_X2_addTicks_b10
    have e4 : ∀ (m1 : zM) a i v, zf (zap m1 a i v) 45 rc = zf m1 45 rc := fun _ _ _ _ => rfl
    rw [if_neg (by rw [n_le (by omega) (by omega)]; omega), zl_s, h3, hl, zin_n (by omega) (by omega), zgd_t, n_nat (by omega), zl_s, e4, h3, nI_1, zl_s, zl_s, nI_1]
    obtain ⟨m2, q1, q2, q3, q4⟩ := ih (j + 1) fu (zfp (zap m (zR P 40 rc) (k + j) (-2)) 45 rc (nI (k + j + 1))) (by omega) (by omega) zf_eq (fun i a b => by
      show za (zap m (zR P 40 rc) (k + j) (-2)) (zR P 40 rc) i = -2
      by_cases e : i = k + j
      · rw [e, za_eq]
      · rw [za_ne (Or.inr e)]
        exact h4 i a (by omega))
    exact ⟨m2, q1, q2, q3, (Fp.put (S := fun f a => f = 45 ∧ a = rc) (Fp.pua (A := fun a i => a = zR P 40 rc ∧ k ≤ i) Fp.rfl' (And.intro rfl (by omega))) (And.intro rfl rfl)).trans q4⟩
/-- ticks, recorded by the class -/
theorem c_addTicks (h : bR own P m rc mk k it) (hk : k ≤ 60) (h0 : mk = false → k = 0) {n : Nat} (hn : n ≤ 50) : ∃ m', f_X2_addTicks P rc (nI n) m = some (0, m') ∧ Fz own rc m m' ∧
    ((mk = true ∧ k + n ≤ 60 ∧ bR own P m' rc true (k + n) (itT it k)) ∨ (¬ (mk = true ∧ k + n ≤ 60) ∧ bR own P m' rc false 0 it)) := by
  cases mk with
  | false =>
    have hk0 := h0 rfl
    refine ⟨m, ?_, ⟨fun _ _ _ => rfl, fun _ _ _ => rfl, fun _ _ _ => rfl⟩, Or.inr ⟨fun q => (by cases q.1), by rw [← hk0]; exact h⟩⟩
    unfold f_X2_addTicks
    rw [c_room0 (n := n) h hk0 (by omega), zb_s]
    rfl
  | true =>
    by_cases h6 : k + n ≤ 60
    · obtain ⟨h1, h2, h3, h4, h5, h7⟩ := h
      obtain ⟨m', a1, a2, a3, a4⟩ := c_ticks_l h1 (h2 40 (by omega) (by omega)).1 (h2 40 (by omega) (by omega)).2 h6 n 0 zfuel m (by omega) (by unfold zfuel; omega) h4 (by intro i a b; omega)
      refine ⟨m', ?_, (a4.fo (fun _ _ q => by rw [q.2, h1]) (fun _ _ q => by rw [q.1]; exact (h2 40 (by omega) (by omega)).1)).z, Or.inl ⟨rfl, h6, h1, h2, h3, a2, ?_, fun i hi => ?_⟩⟩
      · unfold f_X2_addTicks
        rw [c_room1 (n := n) ⟨h1, h2, h3, h4, h5, h7⟩ hk h6, zb_s]
        exact a1
      · rw [a4.2.1 _ _ (fun q => absurd q.1 (by omega))]
        exact h5
      · unfold itT
        by_cases e : i < k
        · rw [if_pos e]
          exact (h7 i e).to (fun j a b => a4.2.2 _ _ (fun q => by omega))
        · rw [if_neg e]
          exact a3 i (by omega) hi
    · refine ⟨_, ?_, h.stop.2, Or.inr ⟨fun q => h6 q.2, h.stop.1⟩⟩
      unfold f_X2_addTicks
      rw [c_room2 (n := n) h hk (by omega) (by omega), zb_s]
      rfl
theorem itY.to {i : Nat} {a : Option (Option Nat × Nat × Nat × Int32)} (h : itY P m y Vm i a) (hR : ∃ R, R ≤ 8 ∧ Vm 230 = nI R ∧ RuL Vm R) (h8 : ∀ j, 4 * i ≤ j → j < 4 * i + 4 → za m' (zR P 208 y) j = za m (zR P 208 y) j) (h9 : ∀ j, j < 40 → za m' (zR P 209 y) (40 * i + j) = za m (zR P 209 y) (40 * i + j)) : itY P m' y Vm i a := by
  cases a with
  | none =>
    show za m' _ _ = _
    rw [h8 _ (by omega) (by omega)]
    exact h
  | some a =>
    obtain ⟨ro, hh, z, a⟩ := a
    obtain ⟨q1, q2, q3, q4, q5, n, R, q6, q7, q8, q9, q10⟩ := h
    refine ⟨q1, q2, by rw [h8 _ (by omega) (by omega)]; exact q3, by rw [h8 _ (by omega) (by omega)]; exact q4, by rw [h8 _ (by omega) (by omega)]; exact q5, n, R, q6, by rw [h8 _ (by omega) (by omega)]; exact q7, q8, q9, ?_⟩
    obtain ⟨R', r1, r2, r3⟩ := hR
    rw [q8, n_inj (by omega) (by omega)] at r2
    subst r2
    rw [← q10]
    exact sFst_congr R 0 (fun r _ hr => sFits_congr (r3.2 r (by omega)).1 (fun _ _ => rfl) (fun k hk => h9 k (by omega)))
theorem r_path_l (ok : yOK P y) (htn : tn ≤ 40) (hk : k < 60) {w : Int32} : ∀ d j fu (m : zM), j + d = tn → d < fu → zf m 207 y = nI tn → zf m 210 y = nI k → za m (zR P 206 y) = T → (∀ i, i < j → za m (zR P 209 y) (40 * k + i) = T i) →
    ∃ m', f_X11_request_b106 P fu y w (nI j) m = some (w, m') ∧ zf m' 207 y = nI 0 ∧ zf m' 210 y = nI (k + 1) ∧ (∀ i, i < tn → za m' (zR P 209 y) (40 * k + i) = T i) ∧ Fp (fun f a => (f = 207 ∨ f = 210) ∧ a = y) (fun a i => a = zR P 209 y ∧ 40 * k ≤ i ∧ i < 40 * k + 40) m m' := by
  intro d
  induction d with
  | zero =>
    intro j fu m hj hfu h1 h2 h3 h4
    obtain ⟨fu, rfl⟩ : ∃ f, fu = f + 1 := ⟨fu - 1, by omega⟩
    have : j = tn := by omega
    subst this
    unfold f_X11_request_b106 f_X11_request_b153
    rw [if_pos (by rw [h1]; exact Int32.le_refl _), zl_s, h2, zl_s, nI_1]
    refine ⟨_, rfl, zf_eq, ?_, h4, ?_⟩
    · rw [zf_ne (Or.inl (by omega)), zf_eq]
    · exact Fp.put (S := fun f a => (f = 207 ∨ f = 210) ∧ a = y) (Fp.put (S := fun f a => (f = 207 ∨ f = 210) ∧ a = y) Fp.rfl' (And.intro (Or.inr rfl) rfl)) (And.intro (Or.inl rfl) rfl)
  | succ d ih =>
    intro j fu m hj hfu h1 h2 h3 h4
    obtain ⟨fu, rfl⟩ : ∃ f, fu = f + 1 := ⟨fu - 1, by omega⟩
    unfold f_X11_request_b106
    have e : ((40 : Int32) * nI k) + nI j = nI (40 * k + j) := by simp only [nlit, n_mul, n_add]
    have l206 := ok.2.2.2.2.1
    have l209 := ok.2.2.2.2.2.2.1
    rw [if_neg (by rw [h1, n_le (by omega) (by omega)]; omega), zl_s, zl_s, h2, e, l206, l209, zin_n (by omega) (by omega), zgd_t, zin_n (by omega) (by omega), zgd_t, n_nat (by omega), n_nat (by omega), zl_s, zl_s, nI_1]
    obtain ⟨m2, q1, q2, q3, q4, q5⟩ := ih (j + 1) fu (zap m (zR P 209 y) (40 * k + j) (za m (zR P 206 y) j)) (by omega) (by omega) h1 h2 (by
      funext i
      rw [za_ne (Or.inl (yne ok (by decide) (by decide) (by decide))), h3]) (fun i hi => by
      by_cases e : i = j
      · rw [e, za_eq, h3]
      · rw [za_ne (Or.inr (by omega))]
        exact h4 i (by omega))
    exact ⟨m2, q1, q2, q3, q4, (Fp.pua (A := fun a i => a = zR P 209 y ∧ 40 * k ≤ i ∧ i < 40 * k + 40) Fp.rfl' (And.intro rfl (And.intro (by omega) (by omega)))).trans q5⟩
/-- the tail of the reference's request -/
def rqT (P : zSt) (y : Nat) (h z w : Int32) (m : zM) : Option (Int32 × zM) := if (zf m 205 y) = 0 then f_X11_request_b46 P y h z w m else (if (zf m 210 y) = (60 : Int32) then zb (f_X11_changes P y m) fun _ m43 => f_X11_request_b46 P y h z w m43 else f_X11_request_b46 P y h z w m)
theorem bY.clr (h : bY own P m y V sv Vs mk Vm tn T pn Q k it) : bY own P (zfp m 207 y 0) y V sv Vs mk Vm 0 T pn Q k it ∧ Fo own y m (zfp m 207 y 0) :=
  h.txt (tn' := 0) (T' := T) zf_eq h.2.2.2.2.2.2.1.2 (Fp.put (S := fun f a => f = 207 ∧ a = y) Fp.rfl' (And.intro rfl rfl))
theorem r_addReq (hY : bY own P m y V sv Vs mk Vm tn T pn Q k it) (htn : tn ≤ 40) (hk : k ≤ 60) (h0 : mk = false → k = 0) {ro : Option Nat} {h z : Nat} {w : Int32} (hh : h < 10) (hz : z < 3) (hM : mk = true → ∃ R, R ≤ 8 ∧ Vm 230 = nI R ∧ RuL Vm R ∧ sFst (sFits Vm T tn (nI h)) R 0 = ro) :
    ∃ m', rqT P y (nI h) (nI z) w m = some (w, m') ∧ Fz own y m m' ∧
    ((mk = true ∧ k < 60 ∧ bY own P m' y V sv Vs true Vm 0 T pn Q (k + 1) (itU it k (some (ro, h, z, w)))) ∨ (¬ (mk = true ∧ k < 60) ∧ bY own P m' y V sv Vs false Vm 0 T pn Q 0 it)) := by
  have ok := hY.1
  have e205 := hY.2.2.2.2.2.1.1
  have e210 := hY.2.2.2.2.2.2.2.2.1.1
  unfold rqT
  cases mk with
  | false =>
    have e0 : zf m 205 y = 0 := e205
    have hk0 := h0 rfl
    subst hk0
    unfold f_X11_request_b46 f_X11_request_b153
    rw [if_pos e0, if_pos e0, zl_s]
    exact ⟨_, rfl, hY.clr.2.z, Or.inr ⟨fun q => (by cases q.1), hY.clr.1⟩⟩
  | true =>
    have e0 : ¬ zf m 205 y = 0 := by rw [e205]; decide
    rw [if_neg e0]
    by_cases h6 : k < 60
    · rw [if_neg (by rw [e210, show (60 : Int32) = nI 60 from rfl, n_inj (by omega) (by omega)]; omega)]
      unfold f_X11_request_b46
      have e1 : (4 : Int32) * nI k = nI (4 * k) := by simp only [nlit, n_mul]
      have l208 := ok.2.2.2.2.2.1
      have e7 : ∀ (m1 : zM) a i v, zf (zap m1 a i v) 207 y = zf m1 207 y := fun _ _ _ _ => rfl
      rw [if_neg e0]
      simp only [zl_s]
      rw [e210, e1, show nI (4 * k) + 1 = nI (4 * k + 1) from n_add _ 1, show nI (4 * k) + 2 = nI (4 * k + 2) from n_add _ 2, show nI (4 * k) + 3 = nI (4 * k + 3) from n_add _ 3, l208, zin_n (by omega) (by omega), zgd_t, zin_n (by omega) (by omega), zgd_t, zin_n (by omega) (by omega), zgd_t, zin_n (by omega) (by omega), zgd_t, n_nat (by omega), n_nat (by omega), n_nat (by omega), n_nat (by omega), hY.2.2.2.2.2.2.1.1]
      obtain ⟨m', p1, p2, p3, p4, p5⟩ := r_path_l (T := T) (w := w) ok htn h6 tn 0 zfuel (zap (zap (zap (zap m (zR P 208 y) (4 * k) (nI tn)) (zR P 208 y) (4 * k + 1) (nI h)) (zR P 208 y) (4 * k + 2) (nI z)) (zR P 208 y) (4 * k + 3) w) (by omega) (by unfold zfuel; omega) hY.2.2.2.2.2.2.1.1 e210 (by
        have n6 : zR P 206 y ≠ zR P 208 y := yne ok (by decide) (by decide) (by decide)
        funext i
        rw [za_ne (Or.inl n6), za_ne (Or.inl n6), za_ne (Or.inl n6), za_ne (Or.inl n6), hY.2.2.2.2.2.2.1.2]) (by intro i hi; omega)
      obtain ⟨h1, h2, h3, h4, ⟨h5, h5'⟩, ⟨h6a, h6'⟩, ⟨h7, h7'⟩, ⟨h8, h8'⟩, ⟨h9, h9'⟩, h10, b, h11⟩ := hY
      have n98 : zR P 208 y ≠ zR P 209 y := yne ok (by decide) (by decide) (by decide)
      have f0 : Fp (fun f a => (f = 207 ∨ f = 210) ∧ a = y) (fun a i => (a = zR P 208 y ∧ 4 * k ≤ i ∧ i < 4 * k + 4) ∨ (a = zR P 209 y ∧ 40 * k ≤ i ∧ i < 40 * k + 40)) m m' := by
        refine Fp.trans ?_ (p5.mono (fun _ _ q => q) (fun _ _ q => Or.inr q))
        exact Fp.pua (Fp.pua (Fp.pua (Fp.pua Fp.rfl' (Or.inl (And.intro rfl (And.intro (by omega) (by omega))))) (Or.inl (And.intro rfl (And.intro (by omega) (by omega))))) (Or.inl (And.intro rfl (And.intro (by omega) (by omega))))) (Or.inl (And.intro rfl (And.intro (by omega) (by omega))))
      have e : ∀ f, f ≠ 207 → f ≠ 210 → zf m' f y = zf m f y := fun f a c => f0.2.1 f y (fun q => by rcases q.1 with q | q <;> omega)
      have ea : ∀ j, j ∈ yRows → j ≠ 208 → j ≠ 209 → za m' (zR P j y) = za m (zR P j y) := fun j hj a c => by
        funext i
        refine f0.2.2 _ _ (fun q => ?_)
        rcases q with q | q
        · exact yne ok hj (by decide) a q.1
        · exact yne ok hj (by decide) c q.1
      have e8 : ∀ i, za m' (zR P 208 y) i = za (zap (zap (zap (zap m (zR P 208 y) (4 * k) (nI tn)) (zR P 208 y) (4 * k + 1) (nI h)) (zR P 208 y) (4 * k + 2) (nI z)) (zR P 208 y) (4 * k + 3) w) (zR P 208 y) i := fun i => p5.2.2 _ _ (fun q => n98 q.1)
      obtain ⟨R, r1, r2, r3, r4⟩ := hM rfl
      have p1' : f_X11_request_b106 P zfuel y w 0 (zap (zap (zap (zap m (zR P 208 y) (4 * k) (nI tn)) (zR P 208 y) (4 * k + 1) (nI h)) (zR P 208 y) (4 * k + 2) (nI z)) (zR P 208 y) (4 * k + 3) w) = some (w, m') := p1
      refine ⟨m', p1', (f0.fo (fun _ _ q => by rw [q.2, h2]) (fun a i q => by rcases q with q | q <;> rw [q.1]; exact h3 208 (by decide); exact h3 209 (by decide))).z, Or.inl ⟨trivial, h6, h1, h2, h3, by rw [ea _ (by decide) (by decide) (by decide)]; exact h4, ⟨by rw [e _ (by decide) (by decide)]; exact h5, by rw [ea _ (by decide) (by decide) (by decide)]; exact h5'⟩, ⟨by rw [e _ (by decide) (by decide)]; exact h6a, by rw [ea _ (by decide) (by decide) (by decide)]; exact h6'⟩, ⟨p2, by rw [ea _ (by decide) (by decide) (by decide)]; exact h7'⟩, ⟨by rw [e _ (by decide) (by decide)]; exact h8, fun i hi => by rw [ea _ (by decide) (by decide) (by decide)]; exact h8' i hi⟩, ⟨p3, fun i hi => ?_⟩, by rw [e _ (by decide) (by decide)]; exact h10, b, by rw [e _ (by decide) (by decide)]; exact h11⟩⟩
      unfold itU
      by_cases ei : i = k
      · subst ei
        rw [if_pos rfl]
        refine ⟨hh, hz, ?_, ?_, ?_, tn, R, htn, ?_, r2, r1, ?_⟩
        · rw [e8, za_ne (Or.inr (by omega)), za_ne (Or.inr (by omega)), za_eq]
        · rw [e8, za_ne (Or.inr (by omega)), za_eq]
        · rw [e8, za_eq]
        · rw [e8, za_ne (Or.inr (by omega)), za_ne (Or.inr (by omega)), za_ne (Or.inr (by omega)), za_eq]
        · rw [← r4]
          exact sFst_congr R 0 (fun r _ hr => sFits_congr (r3.2 r (by omega)).1 (fun _ _ => rfl) (fun j hj => p4 j hj))
      · rw [if_neg ei]
        exact (h9' i (by omega)).to ⟨R, r1, r2, r3⟩ (fun j a c => f0.2.2 _ _ (fun q => by
          rcases q with q | q
          · omega
          · exact n98 q.1)) (fun j hj => f0.2.2 _ _ (fun q => by
          rcases q with q | q
          · exact n98 q.1.symm
          · omega))
    · have hk6 : k = 60 := by omega
      rw [if_pos (by rw [e210, hk6]; rfl), r_changes, zb_s]
      dsimp only
      have hs := hY.stop
      have e0' : zf (zfp (zfp m 205 y 0) 210 y 0) 205 y = 0 := by rw [zf_ne (Or.inl (by omega)), zf_eq]
      unfold f_X11_request_b46 f_X11_request_b153
      rw [if_pos e0', zl_s]
      exact ⟨_, rfl, (((Fo.zfp hY.2.1).trans (Fo.zfp hY.2.1)).trans hs.clr.2).z, Or.inr ⟨fun q => h6 q.2, hs.clr.1⟩⟩
end RC

/-! ===== class object and reference, side by side ===== -/
def GO (own : Nat → Nat) (P : zSt) (u : Nat) (g : zGr) : Prop := own (zR P 20 u) = u ∧ own (zR P 22 u) = u ∧ own (zR P 23 u) = u ∧ own (zR P 160 (zR P 35 u)) = u ∧ (∀ r, r < 8 → own (zR P 63 (gQ g r)) = u) ∧ zR P 20 u ≠ zR P 23 u ∧ zR P 22 u ≠ zR P 23 u ∧ zR P 160 (zR P 35 u) ≠ zR P 23 u ∧ ∀ r, r < 8 → zR P 63 (gQ g r) ≠ zR P 23 u
def MS (own : Nat → Nat) (P : zSt) (u : Nat) (g : zGr) : Prop := GL P u g ∧ GD own P u g ∧ GQ P g ∧ GO own P u g
/-- what is u's is the same -/
def Sm (own : Nat → Nat) (u : Nat) (m m' : zM) : Prop := (∀ a i, own a = u → zr m' a i = zr m a i) ∧ (∀ f a, own a = u → zf m' f a = zf m f a) ∧ ∀ a i, own a = u → za m' a i = za m a i
/-- only what is u's is another -/
def Fz (own : Nat → Nat) (u : Nat) (m m' : zM) : Prop := (∀ a i, own a ≠ u → zr m' a i = zr m a i) ∧ (∀ f a, own a ≠ u → zf m' f a = zf m f a) ∧ ∀ a i, own a ≠ u → za m' a i = za m a i
theorem Fo.z {own : Nat → Nat} {u : Nat} {m m' : zM} (h : Fo own u m m') : Fz own u m m' := ⟨fun a i _ => by unfold zr; rw [h.1], h.2.1, h.2.2⟩
theorem Fz.sm {own : Nat → Nat} {u v : Nat} {m m' : zM} (h : Fz own u m m') (e : v ≠ u) : Sm own v m m' := ⟨fun a i q => h.1 a i (by rw [q]; exact e), fun f a q => h.2.1 f a (by rw [q]; exact e), fun a i q => h.2.2 a i (by rw [q]; exact e)⟩
theorem Fz.trans {own : Nat → Nat} {u : Nat} {m m1 m2 : zM} (h1 : Fz own u m m1) (h2 : Fz own u m1 m2) : Fz own u m m2 := ⟨fun a i q => (h2.1 a i q).trans (h1.1 a i q), fun f a q => (h2.2.1 f a q).trans (h1.2.1 f a q), fun a i q => (h2.2.2 a i q).trans (h1.2.2 a i q)⟩
abbrev zIt : Type := Nat → Option (Option Nat × Nat × Nat × Int32)
def bM (own : Nat → Nat) (P : zSt) (m : zM) (u : Nat) (V : Nat → Int32) (B : Nat) : Prop := ∃ g N R T, MS own P u g ∧ GM P m u g ∧ Pic P m u g N R (-1) V ∧ PicX P m u g T V ∧ zf m 27 u = V 697 ∧ InV V N R B
def bC (own : Nat → Nat) (P : zSt) (m : zM) (u : Nat) (on : Bool) (V : Nat → Int32) (B : Nat) : Prop := ∃ g, MS own P u g ∧ GM P m u g ∧ (on = true → ∃ N R, Pic P m u g N R (-1) V ∧ zf m 27 u = V 697 ∧ InV V N R B)
def bT (own : Nat → Nat) (P : zSt) (m : zM) (t n : Nat) (w : Nat → Int32) : Prop := own t = t ∧ own (zR P 140 t) = t ∧ zlen P (zR P 140 t) = 40 ∧ n ≤ 40 ∧ TxP P m t n w
def bD (own : Nat → Nat) (P : zSt) (m : zM) (rd tx : Nat) : Prop := ∃ tt, DF P m rd tt ∧ zR P 80 rd = tx ∧ own rd = rd ∧ own (dR P rd) = rd ∧ own (dP P rd) = rd ∧ own (dZ P rd) = rd ∧ own (zR P 63 (dR P rd)) = rd ∧ ∀ t, t < 3 → own (tt t) = rd
def itC (P : zSt) (m : zM) (rc i : Nat) : Option (Option Nat × Nat × Nat × Int32) → Prop
  | none => za m (zR P 40 rc) i = -2
  | some (ro, h, z, a) => za m (zR P 40 rc) i = oI ro ∧ za m (zR P 41 rc) i = nI h ∧ za m (zR P 42 rc) i = nI z ∧ za m (zR P 43 rc) i = a
def bR (own : Nat → Nat) (P : zSt) (m : zM) (rc : Nat) (mk : Bool) (k : Nat) (it : zIt) : Prop := own rc = rc ∧ (∀ j, 40 ≤ j → j < 45 → own (zR P j rc) = rc ∧ zlen P (zR P j rc) = 60) ∧ (∀ i j, 40 ≤ i → i < 45 → 40 ≤ j → j < 45 → zR P i rc = zR P j rc → i = j) ∧ zf m 45 rc = nI k ∧ zf m 46 rc = bI mk ∧ ∀ i, i < k → itC P m rc i (it i)
def bX (own : Nat → Nat) (P : zSt) (m : zM) (x : Nat) (sv : Bool) : Prop := own x = x ∧ zf m 188 x = bI sv
def itY (P : zSt) (m : zM) (y : Nat) (Vm : Nat → Int32) (i : Nat) : Option (Option Nat × Nat × Nat × Int32) → Prop
  | none => za m (zR P 208 y) (4 * i) = -1
  | some (ro, h, z, a) => h < 10 ∧ z < 3 ∧ za m (zR P 208 y) (4 * i + 1) = nI h ∧ za m (zR P 208 y) (4 * i + 2) = nI z ∧ za m (zR P 208 y) (4 * i + 3) = a ∧ ∃ n R, n ≤ 40 ∧ za m (zR P 208 y) (4 * i) = nI n ∧ Vm 230 = nI R ∧ R ≤ 8 ∧ sFst (sFits Vm (fun j => za m (zR P 209 y) (40 * i + j)) n (nI h)) R 0 = ro
def yRows : List Nat := [200, 201, 202, 203, 206, 208, 209, 211, 215, 217]
def bY (own : Nat → Nat) (P : zSt) (m : zM) (y : Nat) (V : Nat → Int32) (sv : Bool) (Vs : Nat → Int32) (mk : Bool) (Vm : Nat → Int32) (tn : Nat) (T : Nat → Int32) (pn : Nat) (Q : Nat → Int32) (k : Nat) (it : zIt) : Prop :=
  yOK P y ∧ own y = y ∧ (∀ j, j ∈ yRows → own (zR P j y) = y) ∧ za m (yv P y) = V ∧ (zf m 204 y = bI sv ∧ za m (zR P 201 y) = Vs) ∧ (zf m 205 y = bI mk ∧ za m (zR P 202 y) = Vm) ∧ (zf m 207 y = nI tn ∧ za m (zR P 206 y) = T) ∧ (zf m 212 y = nI pn ∧ ∀ i, i < pn → za m (zR P 211 y) i = Q i) ∧ (zf m 210 y = nI k ∧ ∀ i, i < k → itY P m y Vm i (it i)) ∧ zf m 216 y = -1 ∧ ∃ b, zf m 214 y = bI b
/-- the owners are apart -/
def owners (P : zSt) (x y : Nat) : List Nat := [x, y, zR P 180 x, zR P 181 x, zR P 182 x, zR P 183 x, zR P 184 x, zR P 185 x, zR P 186 x, zR P 187 x]
/-- facts of the numbers -/
def bI' (V : Nat → Int32) (mk : Bool) (Vm : Nat → Int32) (tn : Nat) (T : Nat → Int32) (pn : Nat) (k : Nat) : Prop := (∀ j, j < tn → ∃ c, c < 128 ∧ T j = nI c) ∧ k ≤ 60 ∧ (mk = false → k = 0) ∧ (mk = true → V 230 = Vm 230 ∧ ∀ r R, V 230 = nI R → R ≤ 8 → r < R → RuK Vm V r r)
def CX (own : Nat → Nat) (P : zSt) (m : zM) (x : Nat) (V : Nat → Int32) (sv : Bool) (Vs : Nat → Int32) (mk : Bool) (Vm : Nat → Int32) (tn : Nat) (T : Nat → Int32) (pn : Nat) (Q : Nat → Int32) (k : Nat) (it : zIt) (B : Nat) : Prop :=
  bM own P m (zR P 180 x) V B ∧ bC own P m (zR P 181 x) mk Vm B ∧ bC own P m (zR P 182 x) sv Vs B ∧ bC own P m (zR P 183 x) false V B ∧ bR own P m (zR P 184 x) mk k it ∧ bT own P m (zR P 185 x) tn T ∧ bT own P m (zR P 186 x) pn Q ∧ bD own P m (zR P 187 x) (zR P 185 x) ∧ bX own P m x sv
def REL (own : Nat → Nat) (P : zSt) (x y B : Nat) (m : zM) : Prop := (owners P x y).Nodup ∧ ∃ V sv Vs mk Vm tn T pn Q k it, CX own P m x V sv Vs mk Vm tn T pn Q k it B ∧ bY own P m y V sv Vs mk Vm tn T pn Q k it ∧ bI' V mk Vm tn T pn k
section RL
variable {own : Nat → Nat} {P : zSt} {m m' : zM} {u x y B : Nat} {V : Nat → Int32}
theorem MS.mf {g : zGr} {N : Nat} (h : MS own P u g) (h12 : N ≤ 12) : Mf own P u g N := ⟨h.1, h.2.1, h12⟩
theorem MS.ou {g : zGr} (h : MS own P u g) : own u = u := h.2.1.2.2.2.2.2.2.2.2.2.1
theorem GM.sm {g : zGr} (h : GM P m u g) (hs : MS own P u g) (f : Sm own u m m') : GM P m' u g := by
  obtain ⟨o1, o2, o3, o4, o5, -⟩ := hs.2.2.2
  obtain ⟨h1, h2, h3, h4, h5⟩ := h
  exact ⟨fun i hi => by rw [f.1 _ _ o1]; exact h1 i hi, fun i hi => by rw [f.1 _ _ o2]; exact h2 i hi, fun i hi => by rw [f.1 _ _ o3]; exact h3 i hi, fun r t hr ht => by rw [f.1 _ _ (o5 r hr)]; exact h4 r t hr ht, fun i hi => by rw [f.1 _ _ o4]; exact h5 i hi⟩
theorem PicX.sm {g : zGr} {T : Nat} (h : PicX P m u g T V) (hs : MS own P u g) (f : Sm own u m m') : PicX P m' u g T V :=
  h.cg (f.2.1 _ _ hs.2.1.2.2.2.2.2.2.2.2.2.2.1) (fun i k hi _ => f.2.2 _ _ (hs.2.1.2.2.2.2.2.2.2.2.2.2.2.2.1 i (by have := h.2.1; omega)).2.2.2) rfl (fun _ _ _ _ => rfl)
theorem bM.sm (h : bM own P m u V B) (f : Sm own u m m') : bM own P m' u V B := by
  obtain ⟨g, N, R, T, h1, h2, h3, h4, h5, h6⟩ := h
  exact ⟨g, N, R, T, h1, h2.sm h1 f, h3.fo' (h1.mf h6.1.2.1) h6.ru.l f.2.1 f.2.2, h4.sm h1 f, by rw [f.2.1 _ _ h1.ou, h5], h6⟩
theorem bC.sm {on : Bool} (h : bC own P m u on V B) (f : Sm own u m m') : bC own P m' u on V B := by
  obtain ⟨g, h1, h2, h3⟩ := h
  refine ⟨g, h1, h2.sm h1 f, fun q => ?_⟩
  obtain ⟨N, R, a1, a2, a3⟩ := h3 q
  exact ⟨N, R, a1.fo' (h1.mf a3.1.2.1) a3.ru.l f.2.1 f.2.2, by rw [f.2.1 _ _ h1.ou, a2], a3⟩
theorem bT.sm {n : Nat} {w : Nat → Int32} (h : bT own P m u n w) (f : Sm own u m m') : bT own P m' u n w := by
  obtain ⟨h1, h2, h3, h4, h5, h6⟩ := h
  exact ⟨h1, h2, h3, h4, by rw [f.2.1 _ _ h1, h5], fun k hk => by rw [f.2.2 _ _ h2, h6 k hk]⟩
theorem bD.sm {tx : Nat} (h : bD own P m u tx) (f : Sm own u m m') : bD own P m' u tx := by
  obtain ⟨tt, ⟨d1, d2, d3, d4, d5, d6, d7⟩, h2, h3, h4, h5, h6, h7, h8⟩ := h
  exact ⟨tt, ⟨d1, d2, d3, d4, d5, d6, fun t ht => by rw [f.1 _ _ h7]; exact d7 t ht⟩, h2, h3, h4, h5, h6, h7, h8⟩
theorem bR.sm {mk : Bool} {k : Nat} {it : zIt} (h : bR own P m u mk k it) (f : Sm own u m m') : bR own P m' u mk k it := by
  obtain ⟨h1, h2, h3, h4, h5, h6⟩ := h
  refine ⟨h1, h2, h3, by rw [f.2.1 _ _ h1, h4], by rw [f.2.1 _ _ h1, h5], fun i hi => ?_⟩
  have q := h6 i hi
  have e : ∀ j, 40 ≤ j → j < 45 → za m' (zR P j u) i = za m (zR P j u) i := fun j a b => f.2.2 _ _ (h2 j a b).1
  cases hc : it i with
  | none =>
    rw [hc] at q
    show za m' _ _ = _
    rw [e _ (by omega) (by omega)]
    exact q
  | some a =>
    rw [hc] at q
    obtain ⟨ro, h, z, a⟩ := a
    obtain ⟨q1, q2, q3, q4⟩ := q
    exact ⟨by rw [e _ (by omega) (by omega)]; exact q1, by rw [e _ (by omega) (by omega)]; exact q2, by rw [e _ (by omega) (by omega)]; exact q3, by rw [e _ (by omega) (by omega)]; exact q4⟩
theorem bX.sm {sv : Bool} (h : bX own P m u sv) (f : Sm own u m m') : bX own P m' u sv := ⟨h.1, by rw [f.2.1 _ _ h.1, h.2]⟩
theorem itY.sm {Vm : Nat → Int32} {i : Nat} {a : Option (Option Nat × Nat × Nat × Int32)} (h : itY P m y Vm i a) (h8 : ∀ j, za m' (zR P 208 y) j = za m (zR P 208 y) j) (h9 : ∀ j, za m' (zR P 209 y) j = za m (zR P 209 y) j) : itY P m' y Vm i a := by
  cases a with
  | none =>
    show za m' _ _ = _
    rw [h8]
    exact h
  | some a =>
    obtain ⟨ro, hh, z, a⟩ := a
    obtain ⟨q1, q2, q3, q4, q5, n, R, q6, q7, q8, q9, q10⟩ := h
    refine ⟨q1, q2, by rw [h8]; exact q3, by rw [h8]; exact q4, by rw [h8]; exact q5, n, R, q6, by rw [h8]; exact q7, q8, q9, ?_⟩
    have : (fun j => za m' (zR P 209 y) (40 * i + j)) = fun j => za m (zR P 209 y) (40 * i + j) := by
      funext j
      exact h9 _
    rw [this]
    exact q10
theorem bY.sm {sv : Bool} {Vs : Nat → Int32} {mk : Bool} {Vm : Nat → Int32} {tn : Nat} {T : Nat → Int32} {pn : Nat} {Q : Nat → Int32} {k : Nat} {it : zIt} (h : bY own P m y V sv Vs mk Vm tn T pn Q k it) (f : Sm own y m m') : bY own P m' y V sv Vs mk Vm tn T pn Q k it := by
  obtain ⟨h1, h2, h3, h4, ⟨h5, h5'⟩, ⟨h6, h6'⟩, ⟨h7, h7'⟩, ⟨h8, h8'⟩, ⟨h9, h9'⟩, h10, b, h11⟩ := h
  have e : ∀ j, j ∈ yRows → za m' (zR P j y) = za m (zR P j y) := fun j hj => by
    funext i
    exact f.2.2 _ _ (h3 j hj)
  exact ⟨h1, h2, h3, by rw [e _ (by decide)]; exact h4, ⟨by rw [f.2.1 _ _ h2]; exact h5, by rw [e _ (by decide)]; exact h5'⟩, ⟨by rw [f.2.1 _ _ h2]; exact h6, by rw [e _ (by decide)]; exact h6'⟩, ⟨by rw [f.2.1 _ _ h2]; exact h7, by rw [e _ (by decide)]; exact h7'⟩, ⟨by rw [f.2.1 _ _ h2]; exact h8, fun i hi => by rw [e _ (by decide)]; exact h8' i hi⟩, ⟨by rw [f.2.1 _ _ h2]; exact h9, fun i hi => (h9' i hi).sm (fun j => by rw [e _ (by decide)]) (fun j => by rw [e _ (by decide)])⟩, by rw [f.2.1 _ _ h2]; exact h10, b, by rw [f.2.1 _ _ h2]; exact h11⟩
theorem bM.mono {B' : Nat} (h : bM own P m u V B) (e : B ≤ B') : bM own P m u V B' := by
  obtain ⟨g, N, R, T, h1, h2, h3, h4, h5, h6⟩ := h
  exact ⟨g, N, R, T, h1, h2, h3, h4, h5, h6.1, h6.2.1, h6.2.2.1, h6.2.2.2.1.mono e, h6.2.2.2.2⟩
theorem bC.mono {on : Bool} {B' : Nat} (h : bC own P m u on V B) (e : B ≤ B') : bC own P m u on V B' := by
  obtain ⟨g, h1, h2, h3⟩ := h
  refine ⟨g, h1, h2, fun q => ?_⟩
  obtain ⟨N, R, a1, a2, h6⟩ := h3 q
  exact ⟨N, R, a1, a2, h6.1, h6.2.1, h6.2.2.1, h6.2.2.2.1.mono e, h6.2.2.2.2⟩
theorem bC.off {on : Bool} {V' : Nat → Int32} {B' : Nat} (h : bC own P m u on V B) : bC own P m u false V' B' := by
  obtain ⟨g, h1, h2, h3⟩ := h
  exact ⟨g, h1, h2, fun q => by cases q⟩
/-- the owners' distinctness, read off -/
theorem ow (h : (owners P x y).Nodup) : (∀ i j : Fin 10, i ≠ j → (owners P x y)[i.val]'(by show i.val < 10; exact i.isLt) ≠ (owners P x y)[j.val]'(by show j.val < 10; exact j.isLt)) := by
  intro i j hij q
  exact hij (Fin.ext ((List.getElem_inj h).mp q))
end RL

/-! ===== a mesh in the memory, and the row that it pictures ===== -/
/-- the addresses of a mesh's parts: backends, services, rules, a rule's targets, the trail's rows -/
abbrev zGr : Type := (Nat → Nat) × (Nat → Nat) × (Nat → Nat) × (Nat → Nat → Nat) × (Nat → Nat)
def gB (g : zGr) : Nat → Nat := g.1
def gS (g : zGr) : Nat → Nat := g.2.1
def gQ (g : zGr) : Nat → Nat := g.2.2.1
def gT (g : zGr) : Nat → Nat → Nat := g.2.2.2.1
def gP (g : zGr) : Nat → Nat := g.2.2.2.2
abbrev gX (P : zSt) (g : zGr) (s : Nat) : Nat := zR P 108 (gS g s)
abbrev gK (P : zSt) (g : zGr) (s : Nat) : Nat := zR P 109 (gS g s)
abbrev gW (P : zSt) (g : zGr) (r : Nat) : Nat := zR P 60 (gQ g r)
abbrev gZ (P : zSt) (g : zGr) (r : Nat) : Nat := zR P 140 (zR P 60 (gQ g r))
/-- what the memory's rows of references say -/
def GM (P : zSt) (m : zM) (u : Nat) (g : zGr) : Prop :=
  (∀ i, i < 12 → zr m (zR P 20 u) i = gB g i) ∧ (∀ s, s < 4 → zr m (zR P 22 u) s = gS g s) ∧ (∀ r, r < 8 → zr m (zR P 23 u) r = gQ g r) ∧
  (∀ r t, r < 8 → t < 3 → zr m (zR P 63 (gQ g r)) t = gT g r t) ∧ ∀ i, i < 4 → zr m (zR P 160 (zR P 35 u)) i = gP g i
/-- lengths -/
def GL (P : zSt) (u : Nat) (g : zGr) : Prop :=
  zlen P (zR P 20 u) = 12 ∧ zlen P (zR P 22 u) = 4 ∧ zlen P (zR P 23 u) = 8 ∧ (∀ r, r < 8 → zlen P (zR P 63 (gQ g r)) = 3) ∧ zlen P (zR P 160 (zR P 35 u)) = 4 ∧ (∀ i, i < 4 → zlen P (gP g i) = 4) ∧
  (∀ s, s < 4 → zlen P (gX P g s) = 3 ∧ zlen P (gK P g s) = 10) ∧ ∀ r, r < 8 → zlen P (gZ P g r) = 40
/-- the parts are apart, and the mesh's own -/
def GD (own : Nat → Nat) (P : zSt) (u : Nat) (g : zGr) : Prop :=
  (∀ i j, i < 12 → j < 12 → gB g i = gB g j → i = j) ∧ (∀ i j, i < 4 → j < 4 → gS g i = gS g j → i = j) ∧
  (∀ r t r' t', r < 8 → t < 3 → r' < 8 → t' < 3 → gT g r t = gT g r' t' → r = r' ∧ t = t') ∧
  (∀ i j, i < 4 → j < 4 → gX P g i = gX P g j → i = j) ∧ (∀ i j, i < 4 → j < 4 → gK P g i = gK P g j → i = j) ∧ (∀ i j, i < 4 → j < 4 → gX P g i ≠ gK P g j) ∧
  (∀ i j, i < 4 → j < 4 → gP g i = gP g j → i = j) ∧ (∀ i j, i < 4 → j < 4 → gP g i ≠ gX P g j ∧ gP g i ≠ gK P g j) ∧
  (∀ r i, r < 8 → i < 4 → gZ P g r ≠ gX P g i ∧ gZ P g r ≠ gK P g i ∧ gZ P g r ≠ gP g i) ∧
  own u = u ∧ own (zR P 35 u) = u ∧ (∀ i, i < 12 → own (gB g i) = u) ∧ (∀ i, i < 4 → own (gS g i) = u ∧ own (gX P g i) = u ∧ own (gK P g i) = u ∧ own (gP g i) = u) ∧
  ∀ r, r < 8 → own (gQ g r) = u ∧ own (gW P g r) = u ∧ own (gZ P g r) = u ∧ ∀ t, t < 3 → own (gT g r t) = u
/-- what is another's stays -/
def Fr (own : Nat → Nat) (u : Nat) (m m' : zM) : Prop := m'.2.2 = m.2.2 ∧ (∀ f a, own a ≠ u → zf m' f a = zf m f a) ∧ (∀ a i, own a ≠ u → za m' a i = za m a i) ∧ zf m' 27 u = zf m 27 u
theorem Fr.rfl' {own : Nat → Nat} {u : Nat} {m : zM} : Fr own u m m := ⟨rfl, fun _ _ _ => rfl, fun _ _ _ => rfl, rfl⟩
theorem Fr.trans {own : Nat → Nat} {u : Nat} {m m1 m2 : zM} (h1 : Fr own u m m1) (h2 : Fr own u m1 m2) : Fr own u m m2 :=
  ⟨h2.1.trans h1.1, fun f a h => (h2.2.1 f a h).trans (h1.2.1 f a h), fun a i h => (h2.2.2.1 a i h).trans (h1.2.2.1 a i h), h2.2.2.2.trans h1.2.2.2⟩
theorem zf_ne {m : zM} {f f' a a' : Nat} {v : Int32} (h : f' ≠ f ∨ a' ≠ a) : zf (zfp m f a v) f' a' = zf m f' a' := by
  unfold zf zfp zu
  dsimp only
  rw [if_neg]
  intro q
  rcases h with h | h
  · exact h q.1
  · exact h q.2
theorem zf_eq {m : zM} {f a : Nat} {v : Int32} : zf (zfp m f a v) f a = v := by
  unfold zf zfp zu
  dsimp only
  rw [if_pos ⟨rfl, rfl⟩]
theorem za_ne {m : zM} {a a' i i' : Nat} {v : Int32} (h : a' ≠ a ∨ i' ≠ i) : za (zap m a i v) a' i' = za m a' i' := by
  unfold za zap zu
  dsimp only
  rw [if_neg]
  intro q
  rcases h with h | h
  · exact h q.1
  · exact h q.2
theorem za_eq {m : zM} {a i : Nat} {v : Int32} : za (zap m a i v) a i = v := by
  unfold za zap zu
  dsimp only
  rw [if_pos ⟨rfl, rfl⟩]
theorem Fr.zfp {own : Nat → Nat} {u : Nat} {m : zM} {f a : Nat} {v : Int32} (h : own a = u) (h27 : f ≠ 27) : Fr own u m (zfp m f a v) :=
  ⟨rfl, fun f' a' h' => zf_ne (Or.inr (fun e => h' (by rw [e]; exact h))), fun _ _ _ => rfl, zf_ne (Or.inl (Ne.symm h27))⟩
theorem Fr.zap {own : Nat → Nat} {u : Nat} {m : zM} {a i : Nat} {v : Int32} (h : own a = u) : Fr own u m (zap m a i v) :=
  ⟨rfl, fun _ _ _ => rfl, fun a' i' h' => za_ne (Or.inl (fun e => h' (by rw [e]; exact h))), rfl⟩
theorem GM.to {P : zSt} {m m' : zM} {u : Nat} {g : zGr} (h : GM P m u g) (e : m'.2.2 = m.2.2) : GM P m' u g := by
  unfold GM zr at h ⊢
  rw [e]
  exact h
/-- a backend's slot of the row's k-th number -/
def bsl : Nat → Nat
  | 0 => 3
  | 1 => 4
  | 2 => 0
  | 3 => 5
  | 4 => 1
  | 5 => 6
  | 6 => 7
  | 7 => 8
  | 8 => 9
  | 9 => 10
  | 10 => 11
  | _ => 12
theorem bsl_lt (k : Nat) : bsl k < 13 ∧ bsl k ≠ 2 := by
  unfold bsl
  split <;> omega
theorem bsl_inj : ∀ i j, i < 12 → j < 12 → bsl i = bsl j → i = j := by
  have h : ∀ i j : Fin 12, bsl i = bsl j → i = j := by decide
  intro i j hi hj e
  exact congrArg Fin.val (h ⟨i, hi⟩ ⟨j, hj⟩ e)
def PicB (m : zM) (g : zGr) (N : Nat) (V : Nat → Int32) : Prop := ∀ i k, i < N → k < 12 → zf m (bsl k) (gB g i) = V (12 * i + k)
def PicC (m : zM) (u N R : Nat) (c : Int32) (V : Nat → Int32) : Prop := zf m 21 u = nI N ∧ V 144 = nI N ∧ zf m 24 u = nI R ∧ V 230 = nI R ∧ zf m 25 u = sLm c V ∧ zf m 26 u = V 705 ∧ ∀ j, 28 ≤ j → j ≤ 34 → zf m j u = V (670 + j)
def PicS (P : zSt) (m : zM) (g : zGr) (c : Int32) (V : Nat → Int32) : Prop := ∀ s, s < 4 → zf m 100 (gS g s) = sPol c V s ∧ zf m 101 (gS g s) = (if c = 2 then 1073741824 else V (145 + 21 * s + 1)) ∧ (∀ j, 2 ≤ j → j < 8 → zf m (100 + j) (gS g s) = V (145 + 21 * s + j)) ∧ (∀ z, z < 3 → za m (gX P g s) z = V (145 + 21 * s + 8 + z)) ∧ ∀ h, h < 10 → za m (gK P g s) h = V (145 + 21 * s + 11 + h)
def PicR (P : zSt) (m : zM) (g : zGr) (R : Nat) (c : Int32) (V : Nat → Int32) : Prop := ∀ r, r < R → zf m 61 (gQ g r) = V (231 + 58 * r + 41) ∧ zf m 62 (gQ g r) = V (231 + 58 * r + 42) ∧ zf m 64 (gQ g r) = V (231 + 58 * r + 43) ∧ zf m 65 (gQ g r) = (if c = 1 then 1 else V (231 + 58 * r + 56)) ∧ zf m 66 (gQ g r) = (if c = 0 then -1 else V (231 + 58 * r + 57)) ∧ zf m 141 (gW P g r) = V (231 + 58 * r) ∧ ∀ k, k < (V (231 + 58 * r)).toNatClampNeg → za m (gZ P g r) k = V (231 + 58 * r + 1 + k)
/-- a target's slot of the row's k-th number -/
def tsl : Nat → Nat
  | 0 => 123
  | 1 => 120
  | 2 => 121
  | _ => 124
theorem tsl_lt (k : Nat) : 120 ≤ tsl k ∧ tsl k < 125 ∧ tsl k ≠ 122 := by
  unfold tsl
  split <;> omega
theorem tsl_inj : ∀ i j, i < 4 → j < 4 → tsl i = tsl j → i = j := by
  have h : ∀ i j : Fin 4, tsl i = tsl j → i = j := by decide
  intro i j hi hj e
  exact congrArg Fin.val (h ⟨i, hi⟩ ⟨j, hj⟩ e)
def PicT (m : zM) (g : zGr) (R : Nat) (V : Nat → Int32) : Prop := ∀ r t k, r < R → t < (V (231 + 58 * r + 43)).toNatClampNeg → k < 4 → zf m (tsl k) (gT g r t) = V (231 + 58 * r + 44 + 4 * t + k)
def Pic (P : zSt) (m : zM) (u : Nat) (g : zGr) (N R : Nat) (c : Int32) (V : Nat → Int32) : Prop := PicC m u N R c V ∧ PicB m g N V ∧ PicS P m g c V ∧ PicR P m g R c V ∧ PicT m g R V
/-- the trail -/
def PicX (P : zSt) (m : zM) (u : Nat) (g : zGr) (T : Nat) (V : Nat → Int32) : Prop := V 706 = nI T ∧ T ≤ 4 ∧ zf m 161 (zR P 35 u) = nI T ∧ ∀ i k, i < T → k < 4 → za m (gP g i) k = V (707 + 4 * i + k)
/-- the marks of the search: candidates, attempted ones -/
def Flg (m : zM) (g : zGr) (f N : Nat) (p : Nat → Bool) : Prop := ∀ i, i < N → zf m f (gB g i) = bI (p i)
section PC
variable {P : zSt} {m m' : zM} {u N R : Nat} {g : zGr} {c : Int32} {V V' : Nat → Int32}
theorem PicB.cg (h : PicB m g N V) (h1 : ∀ i k, i < N → k < 12 → zf m' (bsl k) (gB g i) = zf m (bsl k) (gB g i)) (h2 : ∀ i k, i < N → k < 12 → V' (12 * i + k) = V (12 * i + k)) : PicB m' g N V' := fun i k hi hk => by rw [h1 i k hi hk, h i k hi hk, h2 i k hi hk]
theorem PicC.cg (h : PicC m u N R c V) (h1 : ∀ f, 21 ≤ f → f ≤ 34 → zf m' f u = zf m f u) (h2 : V' 144 = V 144) (h3 : V' 230 = V 230) (h4 : V' 229 = V 229) (h5 : ∀ j, 698 ≤ j → j ≤ 705 → V' j = V j) : PicC m' u N R c V' := by
  obtain ⟨a1, a2, a3, a4, a5, a6, a7⟩ := h
  refine ⟨by rw [h1 21 (by omega) (by omega), a1], by rw [h2, a2], by rw [h1 24 (by omega) (by omega), a3], by rw [h3, a4], ?_, by rw [h1 26 (by omega) (by omega), a6, h5 705 (by omega) (by omega)], fun j h6 h7 => by rw [h1 j (by omega) (by omega), a7 j h6 h7, h5 _ (by omega) (by omega)]⟩
  rw [h1 25 (by omega) (by omega), a5]
  unfold sLm
  rw [h4]
theorem PicS.cg (h : PicS P m g c V) (h1 : ∀ s j, s < 4 → j < 8 → zf m' (100 + j) (gS g s) = zf m (100 + j) (gS g s)) (h2 : ∀ s z, s < 4 → z < 3 → za m' (gX P g s) z = za m (gX P g s) z) (h3 : ∀ s h, s < 4 → h < 10 → za m' (gK P g s) h = za m (gK P g s) h) (h4 : ∀ j, 145 ≤ j → j < 229 → V' j = V j) : PicS P m' g c V' := by
  intro s hs
  obtain ⟨a1, a2, a3, a4, a5⟩ := h s hs
  refine ⟨?_, ?_, fun j hj1 hj2 => by rw [h1 s j hs hj2, a3 j hj1 hj2, h4 _ (by omega) (by omega)], fun z hz => by rw [h2 s z hs hz, a4 z hz, h4 _ (by omega) (by omega)], fun h hh => by rw [h3 s h hs hh, a5 h hh, h4 _ (by omega) (by omega)]⟩
  · have e := h1 s 0 hs (by omega)
    rw [show 100 + 0 = 100 from rfl] at e
    rw [e, a1]
    unfold sPol
    rw [h4 _ (by omega) (by omega)]
  · have e := h1 s 1 hs (by omega)
    rw [show 100 + 1 = 101 from rfl] at e
    rw [e, a2, h4 _ (by omega) (by omega)]
theorem PicR.cg (h : PicR P m g R c V) (hR : R ≤ 8) (h1 : ∀ f r, r < R → 60 ≤ f → f < 67 → zf m' f (gQ g r) = zf m f (gQ g r)) (h2 : ∀ r, r < R → zf m' 141 (gW P g r) = zf m 141 (gW P g r)) (h3 : ∀ r k, r < R → k < 40 → za m' (gZ P g r) k = za m (gZ P g r) k) (hl : ∀ r, r < R → (V (231 + 58 * r)).toNatClampNeg ≤ 40) (h4 : ∀ r j, r < R → (j ≤ 43 ∨ j = 56 ∨ j = 57) → V' (231 + 58 * r + j) = V (231 + 58 * r + j)) : PicR P m' g R c V' := by
  intro r hr
  obtain ⟨a1, a2, a3, a4, a5, a6, a7⟩ := h r hr
  have e0 : V' (231 + 58 * r) = V (231 + 58 * r) := h4 r 0 hr (by omega)
  have hl9 := hl r hr
  refine ⟨by rw [h1 _ r hr (by omega) (by omega), a1, h4 r 41 hr (by omega)], by rw [h1 _ r hr (by omega) (by omega), a2, h4 r 42 hr (by omega)], by rw [h1 _ r hr (by omega) (by omega), a3, h4 r 43 hr (by omega)], by rw [h1 _ r hr (by omega) (by omega), a4, h4 r 56 hr (by omega)], by rw [h1 _ r hr (by omega) (by omega), a5, h4 r 57 hr (by omega)], by rw [h2 r hr, a6, e0], fun k hk => ?_⟩
  rw [e0] at hk
  rw [h3 r k hr (by omega), a7 k hk, show 231 + 58 * r + 1 + k = 231 + 58 * r + (1 + k) by omega, h4 r (1 + k) hr (by omega)]
theorem PicT.cg (h : PicT m g R V) (h1 : ∀ r t k, r < R → t < (V (231 + 58 * r + 43)).toNatClampNeg → k < 4 → zf m' (tsl k) (gT g r t) = zf m (tsl k) (gT g r t)) (h2 : ∀ r, r < R → V' (231 + 58 * r + 43) = V (231 + 58 * r + 43)) (h3 : ∀ r t k, r < R → t < (V (231 + 58 * r + 43)).toNatClampNeg → k < 4 → V' (231 + 58 * r + 44 + 4 * t + k) = V (231 + 58 * r + 44 + 4 * t + k)) : PicT m' g R V' := by
  intro r t k hr ht hk
  rw [h2 r hr] at ht
  rw [h1 r t k hr ht hk, h r t k hr ht hk, h3 r t k hr ht hk]
theorem PicX.cg {T : Nat} (h : PicX P m u g T V) (h1 : zf m' 161 (zR P 35 u) = zf m 161 (zR P 35 u)) (h2 : ∀ i k, i < T → k < 4 → za m' (gP g i) k = za m (gP g i) k) (h3 : V' 706 = V 706) (h4 : ∀ i k, i < T → k < 4 → V' (707 + 4 * i + k) = V (707 + 4 * i + k)) : PicX P m' u g T V' := by
  obtain ⟨a1, a2, a3, a4⟩ := h
  exact ⟨by rw [h3, a1], a2, by rw [h1, a3], fun i k hi hk => by rw [h2 i k hi hk, a4 i k hi hk, h4 i k hi hk]⟩
end PC
theorem ne_rt {r r' t k j : Nat} (ht : t < 3) (hk : k < 4) (hj : j ≤ 43 ∨ j = 56 ∨ j = 57) : 231 + 58 * r' + j ≠ 231 + 58 * r + 44 + 4 * t + k := by
  rcases Nat.lt_trichotomy r r' with h9 | h9 | h9
  · omega
  · subst h9
    omega
  · omega
theorem eq_rt {r r' t t' k k' : Nat} (ht : t < 3) (hk : k < 4) (ht' : t' < 3) (hk' : k' < 4) (e : 231 + 58 * r' + 44 + 4 * t' + k' = 231 + 58 * r + 44 + 4 * t + k) : r' = r ∧ t' = t ∧ k' = k := by
  rcases Nat.lt_trichotomy r r' with h9 | h9 | h9
  · omega
  · subst h9
    omega
  · omega
/-- lengths of the rules' texts and lists -/
def RuL (V : Nat → Int32) (R : Nat) : Prop := R ≤ 8 ∧ ∀ r, r < R → (V (231 + 58 * r)).toNatClampNeg ≤ 40 ∧ (V (231 + 58 * r + 43)).toNatClampNeg ≤ 3
theorem RuV.l {V : Nat → Int32} {R : Nat} (h : RuV V R) : RuL V R := by
  refine ⟨h.2.1, fun r hr => ?_⟩
  obtain ⟨⟨l, h1, h2⟩, ⟨n, h3, h4, h5, -⟩, -⟩ := h.2.2 r hr
  rw [h2, h5, n_nat (by omega), n_nat (by omega)]
  exact ⟨h1, h4⟩
section PU
variable {own : Nat → Nat} {P : zSt} {m : zM} {u N R : Nat} {g : zGr} {c : Int32} {V : Nat → Int32}
/-- a number of a backend -/
theorem Pic.updB (h : Pic P m u g N R c V) (hL : RuL V R) (hD : GD own P u g) (h12 : N ≤ 12) {i k : Nat} {x : Int32} (hi : i < N) (hk : k < 12) : Pic P (zfp m (bsl k) (gB g i) x) u g N R c (uV V (12 * i + k) x) := by
  obtain ⟨b1, b2⟩ := bsl_lt k
  refine ⟨h.1.cg (fun f h1 h2 => zf_ne (Or.inl (by omega))) (uV_n (by omega)) (uV_n (by omega)) (uV_n (by omega)) (fun j h1 h2 => uV_n (by omega)), ?_, h.2.2.1.cg (fun s j _ _ => zf_ne (Or.inl (by omega))) (fun _ _ _ _ => rfl) (fun _ _ _ _ => rfl) (fun j h1 h2 => uV_n (by omega)), h.2.2.2.1.cg hL.1 (fun f r hr h1 h2 => zf_ne (Or.inl (by omega))) (fun r hr => zf_ne (Or.inl (by omega))) (fun _ _ _ _ => rfl) (fun r hr => (hL.2 r hr).1) (fun r j hr hj => uV_n (by omega)), h.2.2.2.2.cg (fun r t k' _ _ _ => zf_ne (Or.inl (by have := tsl_lt k'; omega))) (fun r hr => uV_n (by omega)) (fun r t k' hr ht hk' => uV_n (by omega))⟩
  intro i' k' hi' hk'
  by_cases e : i' = i ∧ k' = k
  · obtain ⟨rfl, rfl⟩ := e
    rw [zf_eq, uV_s]
  · rw [zf_ne, uV_n, h.2.1 i' k' hi' hk']
    · omega
    · by_cases e2 : k' = k
      · exact Or.inr (fun q => e ⟨hD.1 _ _ (by omega) (by omega) q, e2⟩)
      · exact Or.inl (fun q => e2 (bsl_inj _ _ hk' hk q))
/-- a mark of a backend -/
theorem Pic.updF (h : Pic P m u g N R c V) (hL : RuL V R) {f a : Nat} {x : Int32} (hf : f = 2 ∨ f = 13 ∨ f = 122 ∨ f = 161) : Pic P (zfp m f a x) u g N R c V := by
  refine ⟨h.1.cg (fun f h1 h2 => zf_ne (Or.inl (by omega))) rfl rfl rfl (fun _ _ _ => rfl), h.2.1.cg (fun i k _ _ => zf_ne (Or.inl (by have := bsl_lt k; omega))) (fun _ _ _ _ => rfl), h.2.2.1.cg (fun s j _ _ => zf_ne (Or.inl (by omega))) (fun _ _ _ _ => rfl) (fun _ _ _ _ => rfl) (fun _ _ _ => rfl), h.2.2.2.1.cg hL.1 (fun f r hr h1 h2 => zf_ne (Or.inl (by omega))) (fun r hr => zf_ne (Or.inl (by omega))) (fun _ _ _ _ => rfl) (fun r hr => (hL.2 r hr).1) (fun _ _ _ _ => rfl), h.2.2.2.2.cg (fun r t k' _ _ _ => zf_ne (Or.inl (by have := tsl_lt k'; omega))) (fun _ _ => rfl) (fun _ _ _ _ _ _ => rfl)⟩
/-- a number of a service -/
theorem Pic.updS (h : Pic P m u g N R c V) (hL : RuL V R) (hD : GD own P u g) (h12 : N ≤ 12) {s j : Nat} {x : Int32} (hs : s < 4) (hj2 : 2 ≤ j) (hj : j < 8) : Pic P (zfp m (100 + j) (gS g s) x) u g N R c (uV V (145 + 21 * s + j) x) := by
  refine ⟨h.1.cg (fun f h1 h2 => zf_ne (Or.inl (by omega))) (uV_n (by omega)) (uV_n (by omega)) (uV_n (by omega)) (fun j h1 h2 => uV_n (by omega)), h.2.1.cg (fun i k _ _ => zf_ne (Or.inl (by have := bsl_lt k; omega))) (fun i k hi hk => uV_n (by omega)), ?_, h.2.2.2.1.cg hL.1 (fun f r hr h1 h2 => zf_ne (Or.inl (by omega))) (fun r hr => zf_ne (Or.inl (by omega))) (fun _ _ _ _ => rfl) (fun r hr => (hL.2 r hr).1) (fun r j hr hj => uV_n (by omega)), h.2.2.2.2.cg (fun r t k' _ _ _ => zf_ne (Or.inl (by have := tsl_lt k'; omega))) (fun r hr => uV_n (by omega)) (fun r t k' hr ht hk' => uV_n (by omega))⟩
  intro s' hs'
  obtain ⟨a1, a2, a3, a4, a5⟩ := h.2.2.1 s' hs'
  refine ⟨?_, ?_, fun j' hj1 hj2' => ?_, fun z hz => ?_, fun h hh => ?_⟩
  · rw [zf_ne (Or.inl (by omega)), a1]
    unfold sPol
    rw [uV_n (by omega)]
  · rw [zf_ne (Or.inl (by omega)), a2, uV_n (by omega)]
  · by_cases e : s' = s ∧ j' = j
    · obtain ⟨rfl, rfl⟩ := e
      rw [zf_eq, uV_s]
    · rw [zf_ne, uV_n, a3 j' hj1 hj2']
      · omega
      · by_cases e2 : j' = j
        · exact Or.inr (fun q => e ⟨hD.2.1 _ _ hs' hs q, e2⟩)
        · exact Or.inl (by omega)
  · rw [uV_n (by omega)]
    exact a4 z hz
  · rw [uV_n (by omega)]
    exact a5 h hh
/-- a spill -/
theorem Pic.updX (h : Pic P m u g N R c V) (hL : RuL V R) (hD : GD own P u g) (h12 : N ≤ 12) {s z : Nat} {x : Int32} (hs : s < 4) (hz : z < 3) : Pic P (zap m (gX P g s) z x) u g N R c (uV V (145 + 21 * s + 8 + z) x) := by
  refine ⟨h.1.cg (fun _ _ _ => rfl) (uV_n (by omega)) (uV_n (by omega)) (uV_n (by omega)) (fun j h1 h2 => uV_n (by omega)), h.2.1.cg (fun _ _ _ _ => rfl) (fun i k hi hk => uV_n (by omega)), ?_, h.2.2.2.1.cg hL.1 (fun _ _ _ _ _ => rfl) (fun _ _ => rfl) (fun r k hr hk => za_ne (Or.inl (hD.2.2.2.2.2.2.2.2.1 r s (by have := hL.1; omega) hs).1)) (fun r hr => (hL.2 r hr).1) (fun r j hr hj => uV_n (by omega)), h.2.2.2.2.cg (fun _ _ _ _ _ _ => rfl) (fun r hr => uV_n (by omega)) (fun r t k' hr ht hk' => uV_n (by omega))⟩
  intro s' hs'
  obtain ⟨a1, a2, a3, a4, a5⟩ := h.2.2.1 s' hs'
  refine ⟨?_, ?_, fun j' hj1 hj2' => ?_, fun z' hz' => ?_, fun h hh => ?_⟩
  · rw [show zf (zap m (gX P g s) z x) 100 (gS g s') = zf m 100 (gS g s') from rfl, a1]
    unfold sPol
    rw [uV_n (by omega)]
  · rw [show zf (zap m (gX P g s) z x) 101 (gS g s') = zf m 101 (gS g s') from rfl, a2, uV_n (by omega)]
  · rw [show zf (zap m (gX P g s) z x) (100 + j') (gS g s') = zf m (100 + j') (gS g s') from rfl, a3 j' hj1 hj2', uV_n (by omega)]
  · by_cases e : s' = s ∧ z' = z
    · obtain ⟨rfl, rfl⟩ := e
      rw [za_eq, uV_s]
    · rw [za_ne, uV_n, a4 z' hz']
      · omega
      · by_cases e2 : z' = z
        · exact Or.inl (fun q => e ⟨hD.2.2.2.1 _ _ hs' hs q, e2⟩)
        · exact Or.inr e2
  · rw [za_ne (Or.inl (fun q => hD.2.2.2.2.2.1 s s' hs hs' q.symm)), uV_n (by omega)]
    exact a5 h hh
/-- what is remembered -/
theorem Pic.updK (h : Pic P m u g N R c V) (hL : RuL V R) (hD : GD own P u g) (h12 : N ≤ 12) {s z : Nat} {x : Int32} (hs : s < 4) (hz : z < 10) : Pic P (zap m (gK P g s) z x) u g N R c (uV V (145 + 21 * s + 11 + z) x) := by
  refine ⟨h.1.cg (fun _ _ _ => rfl) (uV_n (by omega)) (uV_n (by omega)) (uV_n (by omega)) (fun j h1 h2 => uV_n (by omega)), h.2.1.cg (fun _ _ _ _ => rfl) (fun i k hi hk => uV_n (by omega)), ?_, h.2.2.2.1.cg hL.1 (fun _ _ _ _ _ => rfl) (fun _ _ => rfl) (fun r k hr hk => za_ne (Or.inl (hD.2.2.2.2.2.2.2.2.1 r s (by have := hL.1; omega) hs).2.1)) (fun r hr => (hL.2 r hr).1) (fun r j hr hj => uV_n (by omega)), h.2.2.2.2.cg (fun _ _ _ _ _ _ => rfl) (fun r hr => uV_n (by omega)) (fun r t k' hr ht hk' => uV_n (by omega))⟩
  intro s' hs'
  obtain ⟨a1, a2, a3, a4, a5⟩ := h.2.2.1 s' hs'
  refine ⟨?_, ?_, fun j' hj1 hj2' => ?_, fun z' hz' => ?_, fun z' hz' => ?_⟩
  · rw [show zf (zap m (gK P g s) z x) 100 (gS g s') = zf m 100 (gS g s') from rfl, a1]
    unfold sPol
    rw [uV_n (by omega)]
  · rw [show zf (zap m (gK P g s) z x) 101 (gS g s') = zf m 101 (gS g s') from rfl, a2, uV_n (by omega)]
  · rw [show zf (zap m (gK P g s) z x) (100 + j') (gS g s') = zf m (100 + j') (gS g s') from rfl, a3 j' hj1 hj2', uV_n (by omega)]
  · rw [za_ne (Or.inl (hD.2.2.2.2.2.1 s' s hs' hs)), uV_n (by omega)]
    exact a4 z' hz'
  · by_cases e : s' = s ∧ z' = z
    · obtain ⟨rfl, rfl⟩ := e
      rw [za_eq, uV_s]
    · rw [za_ne, uV_n, a5 z' hz']
      · omega
      · by_cases e2 : z' = z
        · exact Or.inl (fun q => e ⟨hD.2.2.2.2.1 _ _ hs' hs q, e2⟩)
        · exact Or.inr e2
/-- a number of a target -/
theorem Pic.updT (h : Pic P m u g N R c V) (hL : RuL V R) (hD : GD own P u g) (h12 : N ≤ 12) {r t k : Nat} {x : Int32} (hr : r < R) (ht : t < (V (231 + 58 * r + 43)).toNatClampNeg) (hk : k < 4) : Pic P (zfp m (tsl k) (gT g r t) x) u g N R c (uV V (231 + 58 * r + 44 + 4 * t + k) x) := by
  obtain ⟨b1, b2, b3⟩ := tsl_lt k
  have h8 := hL.1
  have ht3 := (hL.2 r hr).2
  refine ⟨h.1.cg (fun f h1 h2 => zf_ne (Or.inl (by omega))) (uV_n (by omega)) (uV_n (by omega)) (uV_n (by omega)) (fun j h1 h2 => uV_n (by omega)), h.2.1.cg (fun i k' _ _ => zf_ne (Or.inl (by have := bsl_lt k'; omega))) (fun i k hi hk => uV_n (by omega)), h.2.2.1.cg (fun s j _ _ => zf_ne (Or.inl (by omega))) (fun _ _ _ _ => rfl) (fun _ _ _ _ => rfl) (fun j h1 h2 => uV_n (by omega)), h.2.2.2.1.cg hL.1 (fun f r hr h1 h2 => zf_ne (Or.inl (by omega))) (fun r hr => zf_ne (Or.inl (by omega))) (fun _ _ _ _ => rfl) (fun r hr => (hL.2 r hr).1) (fun r' j hr' hj => uV_n (ne_rt (by omega) hk hj)), ?_⟩
  intro r' t' k' hr' ht' hk'
  rw [uV_n (ne_rt (j := 43) (by omega) hk (by omega))] at ht'
  have ht3' := (hL.2 r' hr').2
  by_cases e : r' = r ∧ t' = t ∧ k' = k
  · obtain ⟨rfl, rfl, rfl⟩ := e
    rw [zf_eq, uV_s]
  · rw [zf_ne, uV_n, h.2.2.2.2 r' t' k' hr' ht' hk']
    · intro q
      exact e (eq_rt (by omega) hk (by omega) hk' q)
    · by_cases e2 : k' = k
      · refine Or.inr (fun q => e ?_)
        have := hD.2.2.1 r' t' r t (by omega) (by omega) (by omega) (by omega) q
        exact ⟨this.1, this.2, e2⟩
      · exact Or.inl (fun q => e2 (tsl_inj _ _ hk' hk q))
/-- a count of the mesh -/
theorem Pic.updC (h : Pic P m u g N R c V) (hL : RuL V R) (h12 : N ≤ 12) {j : Nat} {x : Int32} (hj1 : 28 ≤ j) (hj2 : j ≤ 34) : Pic P (zfp m j u x) u g N R c (uV V (670 + j) x) := by
  have h8 := hL.1
  refine ⟨?_, h.2.1.cg (fun i k _ _ => zf_ne (Or.inl (by have := bsl_lt k; omega))) (fun i k hi hk => uV_n (by omega)), h.2.2.1.cg (fun s j _ _ => zf_ne (Or.inl (by omega))) (fun _ _ _ _ => rfl) (fun _ _ _ _ => rfl) (fun j h1 h2 => uV_n (by omega)), h.2.2.2.1.cg hL.1 (fun f r hr h1 h2 => zf_ne (Or.inl (by omega))) (fun r hr => zf_ne (Or.inl (by omega))) (fun _ _ _ _ => rfl) (fun r hr => (hL.2 r hr).1) (fun r j hr hj => uV_n (by omega)), h.2.2.2.2.cg (fun r t k' _ _ _ => zf_ne (Or.inl (by have := tsl_lt k'; omega))) (fun r hr => uV_n (by omega)) (fun r t k' hr ht hk' => by have := (hL.2 r hr).2; exact uV_n (by omega))⟩
  obtain ⟨a1, a2, a3, a4, a5, a6, a7⟩ := h.1
  refine ⟨by rw [zf_ne (Or.inl (by omega)), a1], by rw [uV_n (by omega), a2], by rw [zf_ne (Or.inl (by omega)), a3], by rw [uV_n (by omega), a4], ?_, by rw [zf_ne (Or.inl (by omega)), a6, uV_n (by omega)], fun j' h1 h2 => ?_⟩
  · rw [zf_ne (Or.inl (by omega)), a5]
    unfold sLm
    rw [uV_n (by omega)]
  · by_cases e : j' = j
    · subst e
      rw [zf_eq, uV_s]
    · rw [zf_ne (Or.inl e), uV_n (by omega), a7 j' h1 h2]
end PU

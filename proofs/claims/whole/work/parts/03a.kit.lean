/-! ===== the tables' words, as facts about a state ===== -/
def isNst : Cond → Bool
  | .fieldLinkNest .. => true
  | .methodLinkNest .. => true
  | _ => false
def zw (w : Cond) : Prop := w ∈ lw_tbl ∧ goodWord w = true
def zwn (w : Cond) : Prop := w ∈ lw_tbl ∧ isNst w = true
def zTab (s : State) : Prop := (∀ w, zw w → ∀ a : Array Value, w.before a s = true) ∧ ∀ w, zwn w → va_Nw w s
theorem zTab.warm {s U : State} (hW : s.WarmedH U.vm) (h : zTab s) : zTab U := by
  refine ⟨fun w hw a => word_at hW (good_of_word hw.2) (h.1 w hw a), fun w hw => ?_⟩
  have h1 := h.2 w hw
  obtain ⟨-, h2⟩ := hw
  cases w <;> first | exact va_Nw.warmF hW h1 | exact va_Nw.warmM hW h1 | (exact absurd h2 (by simp [isNst]))
/-! ===== the memory: int fields, int rows, rows of references ===== -/
abbrev zM : Type := (Nat → Nat → Int32) × (Nat → Nat → Int32) × (Nat → Nat → Nat)
abbrev zSt : Type := va_G × (Nat → ClassId) × List Nat × (Nat → Nat) × (Nat → Nat → Nat) × (Nat → Nat)
def zD (P : zSt) : va_G := P.1
def zcy (P : zSt) : Nat → ClassId := P.2.1
def zL (P : zSt) : List Nat := P.2.2.1
def zK (P : zSt) : Nat → Nat := P.2.2.2.1
def zR (P : zSt) : Nat → Nat → Nat := P.2.2.2.2.1
def zlen (P : zSt) : Nat → Nat := P.2.2.2.2.2
def zu {α : Type} (f : Nat → Nat → α) (a i : Nat) (v : α) : Nat → Nat → α := fun b j => if b = a ∧ j = i then v else f b j
def zf (M : zM) (f a : Nat) : Int32 := M.1 f a
def za (M : zM) (a i : Nat) : Int32 := M.2.1 a i
def zr (M : zM) (a i : Nat) : Nat := M.2.2 a i
def zfp (M : zM) (f a : Nat) (v : Int32) : zM := (zu M.1 f a v, M.2)
def zap (M : zM) (a i : Nat) (v : Int32) : zM := (M.1, zu M.2.1 a i v, M.2.2)
def zrp (M : zM) (a i : Nat) (b : Nat) : zM := (M.1, M.2.1, zu M.2.2 a i b)
def zl {α β : Type} (x : α) (k : α → β) : β := k x
def zb (x : Option (Int32 × zM)) (k : Int32 → zM → Option (Int32 × zM)) : Option (Int32 × zM) := match x with
  | none => none
  | some q => k q.1 q.2
def zin (i : Int32) (n : Nat) : Bool := decide (¬ (i < 0 ∨ n ≤ i.toNatClampNeg))
def zbo (v : Int32) : Bool := decide (v = 0 ∨ v = 1)
/-- the fields of a kind: none an int, some k a reference to kind k -/
def zft : Nat → List (Option Nat) := fun k => match k with
  | 0 => List.replicate 14 none
  | 1 => [some 13, none, some 15, some 14, none, none, none, none, none, none, none, none, none, none, none, some 8]
  | 2 => [some 12, some 12, some 12, some 12, some 12, none, none]
  | 3 => [some 7, none, none, some 16, none, none, none]
  | 4 => [some 7, some 3, none]
  | 5 => [none, none, none, none, none, none, none, none, some 12, some 12]
  | 6 => [none, none, none, none, none]
  | 7 => [some 11, none]
  | 8 => [some 17, none]
  | 9 => [some 1, some 1, some 1, some 1, some 2, some 7, some 7, some 4, none]
  | 10 => [some 12, some 12, some 12, some 12, none, none, some 12, none, some 12, some 12, none, some 12, none, none, none, some 12, none, some 12]
  | _ => []
/-- the elements of a kind of arrays -/
def zek : Nat → Option Nat := fun k => match k with
  | 13 => some 0
  | 14 => some 3
  | 15 => some 5
  | 16 => some 6
  | 17 => some 12
  | _ => none
def zety : Nat → FieldType := fun k => match k with
  | 11 => .char
  | 12 => .int
  | 13 => .object "MeshRouter$Backend"
  | 14 => .object "MeshRouter$Rule"
  | 15 => .object "MeshRouter$Service"
  | 16 => .object "MeshRouter$Target"
  | _ => .array .int
def ztys (P : zSt) : List (ClassId × FieldType) := [(zcy P 11, zety 11), (zcy P 12, zety 12), (zcy P 13, zety 13), (zcy P 14, zety 14), (zcy P 15, zety 15), (zcy P 16, zety 16), (zcy P 17, zety 17)]
def zfv (P : zSt) (M : zM) (a k j : Nat) : Option Nat → Value := fun t => match t with
  | none => .int (zf M (20 * k + j) a)
  | some _ => .ref (zR P (20 * k + j) a)
def zfs (P : zSt) (M : zM) (a k : Nat) : List Value := (zft k).mapIdx (zfv P M a k)
def zcell (P : zSt) (M : zM) (a : Nat) : va_E :=
  if zK P a ≤ 10 then .inr (zK P a, zfs P M a (zK P a))
  else if zK P a ≤ 12 then .inl (zcy P (zK P a), zlen P a, .inl (za M a))
  else .inl (zcy P (zK P a), zlen P a, .inr (.inr (.inr (.inr (fun i => some (zr M a i))))))
def zT (P : zSt) (k a : Nat) : Prop := a ∈ zL P ∧ zK P a = k
/-- the references are of their kinds -/
def zWT (P : zSt) : Prop := ∀ a k j k', zT P k a → (zft k)[j]? = some (some k') → zT P k' (zR P (20 * k + j) a)
def zWM (P : zSt) (M : zM) : Prop := ∀ a k k' i, zT P k a → zek k = some k' → i < zlen P a → zT P k' (zr M a i)
def zOKP (P : zSt) : Prop := zWT P ∧ (zL P).Nodup
def zA (P : zSt) (sz : Nat) : Nat → Prop := fun q => q ∈ zL P ∨ sz ≤ q
def zW (P : zSt) (M : zM) (H : Heap) : Prop := va_P (zD P) vwCl (va_pl (zL P) (zcell P M)) H
theorem zD_of {P : zSt} {M : zM} {sz : Nat} (h : zOKP P) : va_D (zA P sz) (va_pl (zL P) (zcell P M)) := by
  have hz : ∀ (k : Nat) (q : Nat × va_E), (va_pl (zL P) (zcell P M))[k]? = some q → (zL P)[k]? = some q.1 := by
    intro k q hk
    unfold va_pl at hk
    rw [List.getElem?_map] at hk
    cases h9 : (zL P)[k]? with
    | none => rw [h9] at hk; cases hk
    | some x => rw [h9] at hk; cases hk; rfl
  refine ⟨fun i j p q hi hj hpq => ?_, fun k q hk => Or.inl (List.mem_of_getElem? (hz k q hk))⟩
  have h1 := hz i p hi
  have h2 := hz j q hj
  rw [hpq] at h1
  have hi9 := (List.getElem?_eq_some_iff.mp h1).1
  exact (List.getElem?_inj hi9 h.2).mp (h1.trans h2.symm)
theorem zpl_get {L : List Nat} {f : Nat → va_E} {a : Nat} (h : a ∈ L) : ∃ k : Nat, (va_pl L f)[k]? = some (a, f a) := va_pl_get (X := []) h
theorem zpl_set {A : Nat → Prop} {L : List Nat} {f g : Nat → va_E} {a k : Nat} {e : va_E} (hD : va_D A (va_pl L f)) (h : a ∈ L) (hk : (va_pl L f)[k]? = some (a, f a)) (hg : ∀ b, va_up f a e b = g b) : (va_pl L f).set k (a, e) = va_pl L g := by
  have h1 := va_pl_set (X := []) (e := e) hD h hk
  have h2 : va_up f a e = g := funext hg
  rw [h2] at h1
  exact h1
theorem zcell_o {P : zSt} {M : zM} {a k : Nat} (h : zK P a = k) (hk : k ≤ 10) : zcell P M a = .inr (k, zfs P M a k) := by
  subst h
  unfold zcell
  rw [if_pos hk]
theorem zcell_i {P : zSt} {M : zM} {a k : Nat} (h : zK P a = k) (hk : k = 11 ∨ k = 12) : zcell P M a = .inl (zcy P k, zlen P a, .inl (za M a)) := by
  subst h
  unfold zcell
  rw [if_neg (by omega), if_pos (by omega)]
theorem zcell_r {P : zSt} {M : zM} {a k : Nat} (h : zK P a = k) (hk : 13 ≤ k) : zcell P M a = .inl (zcy P k, zlen P a, .inr (.inr (.inr (.inr (fun i => some (zr M a i)))))) := by
  subst h
  unfold zcell
  rw [if_neg (by omega), if_neg (by omega)]
theorem zfs_get {P : zSt} {M : zM} {a k j : Nat} {t : Option Nat} (h : (zft k)[j]? = some t) : (zfs P M a k)[j]? = some (zfv P M a k j t) := by
  unfold zfs
  rw [List.getElem?_mapIdx, h]
  rfl
theorem zft_lt {k j : Nat} {t : Option Nat} (h : (zft k)[j]? = some t) : j < 20 := by
  have h1 := (List.getElem?_eq_some_iff.mp h).1
  have h2 : (zft k).length ≤ 20 := by
    unfold zft
    split <;> decide
  omega
theorem zcell_put {P : zSt} {M : zM} {a k j : Nat} {v : Int32} (h : zK P a = k) (hk : k ≤ 10) (hj : (zft k)[j]? = some none) (b : Nat) : va_up (zcell P M) a (.inr (k, (zfs P M a k).set j (.int v))) b = zcell P (zfp M (20 * k + j) a v) b := by
  unfold va_up
  by_cases hb : b = a
  · subst hb
    rw [if_pos rfl, zcell_o h hk]
    congr 2
    apply List.ext_getElem?
    intro i
    unfold zfs
    rw [List.getElem?_set, List.getElem?_mapIdx, List.getElem?_mapIdx]
    by_cases hi : j = i
    · subst hi
      rw [if_pos rfl, hj]
      have h1 := (List.getElem?_eq_some_iff.mp hj).1
      rw [if_pos (by rw [List.length_mapIdx]; exact h1)]
      simp [zfv, zf, zfp, zu]
    · rw [if_neg hi]
      cases hq : (zft k)[i]? with
      | none => rfl
      | some t =>
        cases t with
        | none =>
          have e : ¬ i = j := fun q => hi q.symm
          simp [zfv, zf, zfp, zu, e]
        | some k' => simp [zfv]
  · rw [if_neg hb]
    have e1 : ∀ f, zf (zfp M (20 * k + j) a v) f b = zf M f b := fun f => by simp [zf, zfp, zu, hb]
    have e2 : za (zfp M (20 * k + j) a v) b = za M b := rfl
    have e3 : ∀ i, zr (zfp M (20 * k + j) a v) b i = zr M b i := fun i => rfl
    unfold zcell
    have e4 : zfs P (zfp M (20 * k + j) a v) b (zK P b) = zfs P M b (zK P b) := by
      unfold zfs
      refine List.mapIdx_eq_mapIdx_iff.mpr ?_
      intro i hi
      generalize (zft (zK P b))[i] = t
      cases t with
      | none => simp [zfv, e1]
      | some _ => rfl
    rw [e4, e2]
    rfl
theorem zcell_aput {P : zSt} {M : zM} {a k i : Nat} {v : Int32} (h : zK P a = k) (hk : k = 11 ∨ k = 12) (b : Nat) : va_up (zcell P M) a (.inl (zcy P k, zlen P a, .inl (upd (za M a) i v))) b = zcell P (zap M a i v) b := by
  unfold va_up
  by_cases hb : b = a
  · subst hb
    rw [if_pos rfl, zcell_i h hk]
    congr 4
    funext j
    simp [upd, za, zap, zu]
  · rw [if_neg hb]
    have e2 : za (zap M a i v) b = za M b := by funext j; simp [za, zap, zu, hb]
    unfold zcell
    rw [e2]
    rfl
theorem zcell_rput {P : zSt} {M : zM} {a k i v : Nat} (h : zK P a = k) (hk : 13 ≤ k) (b : Nat) : va_up (zcell P M) a (.inl (zcy P k, zlen P a, .inr (.inr (.inr (.inr (va_up (fun i => some (zr M a i)) i (some v))))))) b = zcell P (zrp M a i v) b := by
  unfold va_up
  by_cases hb : b = a
  · subst hb
    rw [if_pos rfl, zcell_r h hk]
    congr 7
    funext j
    by_cases hj : j = i
    · simp [zr, zrp, zu, hj]
    · simp [zr, zrp, zu, hj]
  · rw [if_neg hb]
    have e2 : ∀ j, zr (zrp M a i v) b j = zr M b j := fun j => by simp [zr, zrp, zu, hb]
    unfold zcell
    simp only [e2]
    rfl

/-! ===== the pool and the first memory ===== -/
section ZW
variable {D : va_G} {cy : Nat → ClassId} {x i : Nat}
theorem p_K : zK (pP D cy x) (x + i) = tK i := by
  show tK (x + i - x) = _
  rw [Nat.add_sub_cancel_left]
theorem p_l : zlen (pP D cy x) (x + i) = tL i := by
  show tL (x + i - x) = _
  rw [Nat.add_sub_cancel_left]
theorem p_R {f : Nat} : zR (pP D cy x) f (x + i) = x + tR i (f % 20) := by
  show x + tR (x + i - x) (f % 20) = _
  rw [Nat.add_sub_cancel_left]
theorem p_R0 {f : Nat} : zR (pP D cy x) f x = x + tR 0 (f % 20) := by
  show x + tR (x - x) (f % 20) = _
  rw [Nat.sub_self]
theorem p_za {j : Nat} : za (pM x) (x + i) j = tA i j := by
  show tA (x + i - x) j = _
  rw [Nat.add_sub_cancel_left]
theorem p_zr {j : Nat} : zr (pM x) (x + i) j = x + tR i j := by
  show x + tR (x + i - x) j = _
  rw [Nat.add_sub_cancel_left]
theorem p_zf {f a : Nat} : zf (pM x) f a = tI f := rfl
theorem p_O : pO x (x + i) = x + tO i := by
  show x + tO (x + i - x) = _
  rw [Nat.add_sub_cancel_left]
theorem p_O0 : pO x x = x := by
  show x + tO (x - x) = _
  rw [Nat.sub_self]
  rfl
theorem p_fs {k : Nat} : ∀ (ts : List (Option Nat)) (j0 : Nat), j0 + ts.length ≤ 20 → ts.mapIdx (fun j t => zfv (pP D cy x) (pM x) (x + i) k (j0 + j) t) = cfs x i k ts j0 := by
  intro ts
  induction ts with
  | nil => intro j0 _; rfl
  | cons t ts ih =>
    intro j0 h
    rw [List.length_cons] at h
    rw [List.mapIdx_cons]
    have e : (fun (j : Nat) (t : Option Nat) => zfv (pP D cy x) (pM x) (x + i) k (j0 + (j + 1)) t) = fun (j : Nat) (t : Option Nat) => zfv (pP D cy x) (pM x) (x + i) k (j0 + 1 + j) t := by
      funext j t
      rw [show j0 + (j + 1) = j0 + 1 + j by omega]
    have h2 := ih (j0 + 1) (by omega)
    rw [← e] at h2
    cases t with
    | none =>
      show _ :: _ = _ :: cfs x i k ts (j0 + 1)
      rw [h2]
      rfl
    | some q =>
      show _ :: _ = _ :: cfs x i k ts (j0 + 1)
      rw [h2]
      congr 1
      show Value.ref (zR (pP D cy x) (20 * k + (j0 + 0)) (x + i)) = Value.ref (x + tR i j0)
      rw [p_R, show (20 * k + (j0 + 0)) % 20 = j0 by omega]
theorem zft_n {k : Nat} (h : k ≤ 10) : (zft k).length ≤ 20 := by
  have h1 : ∀ k, k < 11 → (zft k).length ≤ 20 := by decide +kernel
  exact h1 k (by omega)
theorem p_cell : zcell (pP D cy x) (pM x) (x + i) = cI cy x i := by
  unfold zcell cI
  rw [p_K, p_l]
  by_cases h1 : tK i ≤ 10
  · rw [if_pos h1, if_pos h1]
    have h2 := p_fs (D := D) (cy := cy) (x := x) (i := i) (k := tK i) (zft (tK i)) 0 (by have := zft_n h1; omega)
    rw [← h2]
    unfold zfs
    have e : zfv (pP D cy x) (pM x) (x + i) (tK i) = fun (j : Nat) (t : Option Nat) => zfv (pP D cy x) (pM x) (x + i) (tK i) (0 + j) t := by
      funext j t
      rw [Nat.zero_add]
    rw [← e]
  · rw [if_neg h1, if_neg h1]
    by_cases h2 : tK i ≤ 12
    · rw [if_pos h2, if_pos h2]
      have e : za (pM x) (x + i) = tA i := funext fun j => p_za
      rw [e]
      rfl
    · rw [if_neg h2, if_neg h2]
      have e : (fun j => some (zr (pM x) (x + i) j)) = fun j => some (x + tR i j) := funext fun j => congrArg some p_zr
      rw [e]
      rfl
theorem p_mem {a : Nat} (h : a ∈ zL (pP D cy x)) : ∃ i, i < 390 ∧ a = x + i := by
  obtain ⟨i, h1, h2⟩ := List.mem_map.mp h
  exact ⟨i, List.mem_range.mp h1, h2.symm⟩
theorem p_in (h : i < 390) : x + i ∈ zL (pP D cy x) := List.mem_map.mpr ⟨i, List.mem_range.mpr h, rfl⟩
theorem cModel_n {a : Nat} : (cModel cy a).length = 11 := rfl
theorem p_zW {H : Heap} (h : cWo D x (cRouter cy x ++ cModel cy (x + 379)) H) : zW (pP D cy x) (pM x) H := by
  intro k q hk
  have hL : ((List.range 390).map (fun i => x + i))[k]? = some q.1 ∧ q.2 = zcell (pP D cy x) (pM x) q.1 := by
    unfold va_pl at hk
    rw [List.getElem?_map] at hk
    cases h9 : (zL (pP D cy x))[k]? with
    | none => rw [h9] at hk; cases hk
    | some y => rw [h9] at hk; cases hk; exact ⟨h9, rfl⟩
  rw [List.getElem?_map] at hL
  obtain ⟨h1, h2⟩ := hL
  have hk9 : k < 390 := by
    apply Classical.byContradiction
    intro h3
    rw [List.getElem?_eq_none (by rw [List.length_range]; omega)] at h1
    cases h1
  rw [List.getElem?_range hk9] at h1
  have h4 : q.1 = x + k := (Option.some.inj h1).symm
  obtain ⟨q1, q2⟩ := q
  subst h4
  have h2' : q2 = zcell (pP D cy x) (pM x) (x + k) := h2
  rw [p_cell] at h2'
  rw [h2']
  show va_at D vwCl (x + k, cI cy x k) H
  have hn : (cRouter cy x ++ cModel cy (x + 379)).length = 390 := by rw [List.length_append, cRouter_n, cModel_n]
  obtain ⟨e, he⟩ : ∃ e, (cRouter cy x ++ cModel cy (x + 379))[k]? = some e := ⟨_, List.getElem?_eq_getElem (by rw [hn]; exact hk9)⟩
  have h5 := cAll_get _ 0 k e l_router he D (x + k) H (h.1 k _ (cw_get he))
  rw [Nat.zero_add] at h5
  exact h5
theorem t_WT : (List.range 390).all (fun i => (List.range 20).all (fun j => match (zft (tK i))[j]? with
  | some (some k') => decide (tR i j < 390) && decide (tK (tR i j) = k')
  | _ => true)) = true := by decide +kernel
theorem t_WM : (List.range 390).all (fun i => match zek (tK i) with
  | some k' => (List.range (tL i)).all (fun j => decide (tR i j < 390) && decide (tK (tR i j) = k'))
  | none => true) = true := by decide +kernel
theorem t_K10 : (List.range 390).all (fun i => decide (tK i ≤ 17)) = true := by decide +kernel
theorem p_OK : zOKP (pP D cy x) := by
  constructor
  · intro a k j k' ha hj
    obtain ⟨h1, h2⟩ := ha
    obtain ⟨i, hi, rfl⟩ := p_mem h1
    rw [p_K] at h2
    subst h2
    have hj20 : j < 20 := by
      have h3 : (zft (tK i)).length ≤ 20 := by
        have h4 : ∀ k, k < 18 → (zft k).length ≤ 20 := by decide +kernel
        have h5 := List.all_eq_true.mp t_K10 i (List.mem_range.mpr hi)
        exact h4 _ (by have := of_decide_eq_true h5; omega)
      have := (List.getElem?_eq_some_iff.mp hj).1
      omega
    have h3 := List.all_eq_true.mp (List.all_eq_true.mp t_WT i (List.mem_range.mpr hi)) j (List.mem_range.mpr hj20)
    rw [hj] at h3
    have h4 := (Bool.and_eq_true _ _).mp h3
    rw [p_R, show (20 * tK i + j) % 20 = j by omega]
    exact ⟨p_in (of_decide_eq_true h4.1), by rw [p_K]; exact of_decide_eq_true h4.2⟩
  · show ((List.range 390).map (fun i => x + i)).Nodup
    rw [← List.range'_eq_map_range]
    exact List.nodup_range'
theorem p_WM : zWM (pP D cy x) (pM x) := by
  intro a k k' j ha hk hj
  obtain ⟨h1, h2⟩ := ha
  obtain ⟨i, hi, rfl⟩ := p_mem h1
  rw [p_K] at h2
  subst h2
  rw [p_l] at hj
  have h3 := List.all_eq_true.mp t_WM i (List.mem_range.mpr hi)
  rw [hk] at h3
  have h4 := (Bool.and_eq_true _ _).mp (List.all_eq_true.mp h3 j (List.mem_range.mpr hj))
  rw [p_zr]
  exact ⟨p_in (of_decide_eq_true h4.1), by rw [p_K]; exact of_decide_eq_true h4.2⟩
end ZW

/-! ===== what the tables say at the law's entry ===== -/
section LW0
variable {s : State} {args : Array Value}
theorem lw_tab (h : ∀ w ∈ lw_tbl, w.before args s = true) : zTab s := by
  refine ⟨fun w hw a => word_at (State.WarmedH.refl s) (good_of_word hw.2) (h w hw.1), fun w hw => ?_⟩
  have h1 := h w hw.1
  obtain ⟨-, h2⟩ := hw
  cases w <;> first | exact va_Nw.of rfl h1 | (exact absurd h2 (by simp [isNst]))
theorem lw_ov (h : ∀ w ∈ lw_tbl, w.before args s = true) : zOv s := by
  intro w hw a
  have h1 := h w hw.1
  obtain ⟨-, h2⟩ := hw
  cases w with
  | arrayOver t =>
    cases t with
    | object C => exact Cond.arrayOver_alike (Vm.Alike.refl s.vm) h1
    | array t => exact over_moved (Vm.Alike.refl s.vm) h1
    | _ => exact absurd h2 (by simp [isOv])
  | _ => exact absurd h2 (by simp [isOv])
theorem lw_inst : ∀ q ∈ vwCl, Cond.instantiable q.1 q.2.2 ∈ lw_tbl := by decide +kernel
theorem lw_D (h : ∀ w ∈ lw_tbl, w.before args s = true) : ∃ D : va_G, ∀ (c : Nat) (q : vw_C), vwCl[c]? = some q → u_Kn s q.1 q.2.1 q.2.2 (D.1 c) (D.2 c) := by
  have h1 : ∀ c : Nat, ∃ d : ClassId × (Nat → Nat), ∀ q, vwCl[c]? = some q → u_Kn s q.1 q.2.1 q.2.2 d.1 d.2 := by
    intro c
    cases hc : vwCl[c]? with
    | none => exact ⟨(0, fun _ => 0), fun q hq => by cases hq⟩
    | some q =>
      obtain ⟨cC, iS, hK⟩ := u_known (args := args) (ws := lw_tbl) (C := q.1) (T := q.2.1) (N := q.2.2) h (fun w hw => (zlay hc w hw).1) (h _ (lw_inst q (List.mem_of_getElem? hc)))
      exact ⟨(cC, iS), fun q' hq => by cases hq; exact hK⟩
  exact ⟨(fun c => (h1 c).choose.1, fun c => (h1 c).choose.2), fun c q hc => (h1 c).choose_spec q hc⟩
def aOK (s : State) (c : ClassId) (ty : FieldType) : Prop := ArrOfT s c ty ∧ va_RA s c ty
theorem aOK_c {ty : FieldType} (hz : ty = .int ∨ ty = .char) (h : (Cond.arrayClass ty).before args s = true) : ∃ c, aOK s c ty := by
  obtain ⟨c, k, comp, h1, h2, h3⟩ := Cond.arrayClass_spec h
  refine ⟨c, fun n z => ⟨fun k h => (by cases h), k, h2, comp, h3⟩, ?_⟩
  rcases hz with rfl | rfl <;> exact h1
theorem aOK_o {C : String} (h : (Cond.arrayOver (.object C)).before args s = true) : ∃ c, aOK s c (.object C) := by
  obtain ⟨comp, c, k, h1, -, h3, h4, h5⟩ := Cond.arrayOver_spec h
  exact ⟨c, fun n z => ⟨fun k h => (by cases h), k, h3, comp, h4⟩, k, comp, h3, h4, h1, h5⟩
theorem aOK_a (h : (Cond.arrayOver (.array .int)).before args s = true) : ∃ c, aOK s c (.array .int) := by
  obtain ⟨comp, c, k, h1, -, h3, h4, h5⟩ := arrayOverA_spec h
  exact ⟨c, fun n z => ⟨fun k h => (by cases h), k, h3, comp, h4⟩, h5⟩
theorem lw_cy (h : ∀ w ∈ lw_tbl, w.before args s = true) : ∃ cy : Nat → ClassId, ∀ (k : Nat) (q : ClassId × FieldType), (ctys cy)[k]? = some q → ArrOfT s q.1 q.2 ∧ va_RA s q.1 q.2 := by
  obtain ⟨c11, h11⟩ := aOK_c (Or.inr rfl) (h (.arrayClass .char) (List.mem_of_getElem? (i := 258) (by decide +kernel)))
  obtain ⟨c12, h12⟩ := aOK_c (Or.inl rfl) (h (.arrayClass .int) (List.mem_of_getElem? (i := 112) (by decide +kernel)))
  obtain ⟨c13, h13⟩ := aOK_o (h (.arrayOver (.object "MeshRouter$Backend")) (List.mem_of_getElem? (i := 89) (by decide +kernel)))
  obtain ⟨c14, h14⟩ := aOK_o (h (.arrayOver (.object "MeshRouter$Rule")) (List.mem_of_getElem? (i := 93) (by decide +kernel)))
  obtain ⟨c15, h15⟩ := aOK_o (h (.arrayOver (.object "MeshRouter$Service")) (List.mem_of_getElem? (i := 91) (by decide +kernel)))
  obtain ⟨c16, h16⟩ := aOK_o (h (.arrayOver (.object "MeshRouter$Target")) (List.mem_of_getElem? (i := 260) (by decide +kernel)))
  obtain ⟨c17, h17⟩ := aOK_a (h (.arrayOver (.array .int)) (List.mem_of_getElem? (i := 101) (by decide +kernel)))
  refine ⟨fun k => match k with
    | 11 => c11
    | 12 => c12
    | 13 => c13
    | 14 => c14
    | 15 => c15
    | 16 => c16
    | _ => c17, fun k q hq => ?_⟩
  rcases k with _ | _ | _ | _ | _ | _ | _ | k
  · cases hq; exact h11
  · cases hq; exact h12
  · cases hq; exact h13
  · cases hq; exact h14
  · cases hq; exact h15
  · cases hq; exact h16
  · cases hq; exact h17
  · exact absurd hq (by simp [ctys])
end LW0

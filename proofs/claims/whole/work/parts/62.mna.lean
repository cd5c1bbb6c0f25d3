/-! ===== an array of arrays (this part reads the library whole) ===== -/
theorem arr_congr {c : ClassId} {N : Nat} {f g : Nat → Value} (h : ∀ j, j < N → f j = g j) : arrV c N f = arrV c N g := by
  unfold arrV
  congr 1
  congr 1
  funext j
  exact h j.val j.isLt
theorem outer_at (c : ClassId) (N h0 : Nat) : ∀ i : Nat, Jvm.Free.Multi.outerC c N h0 i = arrV c N (fun j => va_rf (if j < i then some (h0 + 1 + j) else none)) := by
  intro i
  induction i with
  | zero =>
    show ({ cls := c, slots := Array.replicate N .null, vm := .none } : Cell) = _
    rw [arrV_new]
    exact arr_congr (fun j _ => by rw [if_neg (by omega)]; rfl)
  | succ i ih =>
    show (Jvm.Free.Multi.outerC c N h0 i).setSlot i (.ref (h0 + 1 + i)) = _
    rw [ih, arrV_store]
    refine arr_congr (fun j _ => ?_)
    unfold updV
    by_cases e : j = i
    · rw [if_pos e, if_pos (by omega), e]
      rfl
    · rw [if_neg e]
      by_cases h : j < i
      · show va_rf (if j < i then some (h0 + 1 + j) else none) = _
        rw [if_pos h, if_pos (by omega)]
      · show va_rf (if j < i then some (h0 + 1 + j) else none) = _
        rw [if_neg h, if_neg (by omega)]
section CM2
variable {D : va_G} {cy : Nat → ClassId} {bs : Nat} {G : zC} {own : String} {cc : ByteArray} {nL : Nat} {rm : Room} {ds : List va_E} {kc nc pc : Nat} {lv : List (Nat × Value)} {st : List Value}
theorem cWo.append {H H1 : Heap} {es : List va_E} (h : cWo D bs ds H) (z : H1.size = bs + ds.length + es.length) (o : ∀ q, q < bs + ds.length → H1[q]? = H[q]?) (he : ∀ i e, es[i]? = some e → va_at D vwCl (bs + ds.length + i, e) H1) : cWo D bs (ds ++ es) H1 := by
  refine ⟨?_, by rw [z, List.length_append, Nat.add_assoc]⟩
  rw [cw_app]
  refine (h.1.kept (fun k x hx => o x.1 (by rw [← h.2]; exact (h.1 k x hx).lt))).app (fun k x hx => ?_)
  obtain ⟨h1, h2⟩ := cw_inv hx
  have := he k x.2 h1
  rw [← h2] at this
  exact this
theorem c_mna (ok : cOK D cy bs G own cc nL rm) {idx : Nat} (hcl : zw (.classLink own idx "[[I")) (hov : zwo (.arrayOver (.array .int))) (harr : zw (.arrayClass .int)) (hr1 : kc + 5 ≤ rm.cells) (hr2 : nc + 20 ≤ rm.slots) (hd : decode cc pc = .ok (.multianewarray idx 2, 4)) (kk : cAt D G bs (ds ++ (.inl (cy 17, 4, .inr (.inr (.inr (.inr (fun i => if i < 4 then some (bs + ds.length + 1 + i) else none))))) :: List.replicate 4 (.inl (cy 12, 4, .inl (fun _ => 0))))) (kc + 5) (nc + 20) (pc + 4) lv (.ref (bs + ds.length) :: st)) : cAt D G bs ds kc nc pc lv (.int 4 :: .int 4 :: st) := by
  intro H locs ls hW hS hl
  intro T hT Xs
  have hcl' : (Cond.classLink own idx ("[" ++ (FieldType.array .int).toString)).before G.2.1.1 (zs G) = true := ok.w hcl
  obtain ⟨vm₁, cA, comp, -, fA, fC, hO, -, X', step⟩ := Xs.multianewarray2F ok.x ok.o hcl' (ok.v _ hov _) (ok.w harr) (g := F0 G.1.2.2.2.2.2 pc ls (.int 4 :: .int 4 :: st)) rfl (by rw [ok.b]; exact hd) rfl (by decide) (by decide) (by decide) (by decide) (by decide) rfl rfl (by rw [ok.2.2.1]; exact hr1) (by rw [ok.2.2.1]; exact hr2)
  have e12 : (zs G).vm.findClass (FieldType.array .int).toString = some (cy 12) := (ok.k.2 1 _ (show (ctys cy)[1]? = some (cy 12, .int) from rfl)).2
  have e17 : (zs G).vm.findClass ("[" ++ (FieldType.array .int).toString) = some (cy 17) := (ok.k.2 6 _ (show (ctys cy)[6]? = some (cy 17, .array .int) from rfl)).2
  have hc1 : comp = cy 12 := Option.some.inj (fC.symm.trans e12)
  have hc2 : cA = cy 17 := Option.some.inj (fA.symm.trans e17)
  subst hc1
  subst hc2
  have e4 : (4 : Int32).toNatClampNeg = 4 := by decide
  rw [e4] at X' step
  have hTh : (T.setVm vm₁).heap = H := hT
  obtain ⟨f1, f2, -, -⟩ := Jvm.Free.Multi.fill_facts (T.setVm vm₁) (cy 17) (cy 12) 4 4 (defaultValue .int) 4
  have f3 := fun (x : Nat) (hx : x < (T.setVm vm₁).heap.size) => Jvm.Free.Multi.fill_old (T.setVm vm₁) (cy 17) (cy 12) 4 4 (defaultValue .int) (a := x) hx 4
  have f4 := Jvm.Free.Multi.fill_inner (T.setVm vm₁) (cy 17) (cy 12) 4 4 (defaultValue .int) 4
  rw [hTh, hW.2] at f1 f2 f4
  rw [hTh] at f3
  generalize Jvm.Free.Multi.fill (T.setVm vm₁) (cy 17) (cy 12) 4 4 (defaultValue .int) 4 = F at *
  have hW1 : cWo D bs (ds ++ (.inl (cy 17, 4, .inr (.inr (.inr (.inr (fun i => if i < 4 then some (bs + ds.length + 1 + i) else none))))) :: List.replicate 4 (.inl (cy 12, 4, .inl (fun _ => 0))))) F.heap := by
    refine hW.append (by rw [f1]; rfl) (fun q hq => f3 q (by rw [hW.2]; exact hq)) (fun i e he => ?_)
    cases i with
    | zero =>
      cases he
      show F.heap[bs + ds.length]? = some (vp_cell _ _)
      rw [f2, outer_at, vp_cell_q]
    | succ i =>
      have hi : i < 4 := by
        have := (List.getElem?_eq_some_iff.mp he).1
        simp only [List.length_cons, List.length_replicate] at this
        omega
      rw [List.getElem?_cons_succ, List.getElem?_replicate, if_pos hi] at he
      cases he
      show F.heap[bs + ds.length + (i + 1)]? = some (vp_cell _ _)
      have := f4 i hi
      rw [show bs + ds.length + (i + 1) = bs + ds.length + 1 + i by omega, this, vp_cell_i]
      show some ({ cls := cy 12, slots := Array.replicate 4 (defaultValue .int), vm := .none } : Cell) = _
      rw [arrV_new]
      rfl
  have hS1 : va_S (fun q => bs ≤ q) (zs G).heap F.heap locs := ⟨Nat.le_trans hS.1 (by rw [f1, hW.2]; omega), fun x h1 h2 => (f3 x (by have := hS.1; omega)).trans (hS.2.1 x h1 h2), hS.2.2⟩
  have e20 : nc + 4 + 4 * 4 = nc + 20 := by omega
  have e5 : kc + 1 + 4 = kc + 5 := by omega
  rw [e20, e5] at X'
  rw [show T.heap.size = bs + ds.length by rw [hT]; exact hW.2] at step
  obtain ⟨t, a1, b1⟩ := kk F.heap locs ls hW1 hS1 hl F rfl X'
  exact ⟨t, step t a1, b1⟩
end CM2

/-! ===== rows of constructors: fields, new cells, calls ===== -/
section CB
variable {D : va_G} {cy : Nat → ClassId} {bs : Nat} {G : zC} {own : String} {cc : ByteArray} {nL : Nat} {rm : Room} {ds : List va_E} {kc nc pc : Nat} {lv : List (Nat × Value)} {st : List Value}
theorem c_icmp_ge (ok : cOK D cy bs G own cc nL rm) {x y : Int32} {off : Int} (tgt : Nat) (hd : decode cc pc = .ok (.if_icmp .ge off, 3)) (ht : (pc : Int) + off = (tgt : Int)) (kt : y ≤ x → cAt D G bs ds kc nc tgt lv st) (kf : ¬ y ≤ x → cAt D G bs ds kc nc (pc + 3) lv st) : cAt D G bs ds kc nc pc lv (.int y :: .int x :: st) := by
  intro H locs ls hW hS hl
  exact lv_icmp_ge ok.x ok.b hd ht (fun h => kt h H locs ls hW hS hl) (fun h => kf h H locs ls hW hS hl)
theorem zSame.usec {ref nm desc fo : String} (h : zSame ref fo nm desc) (ok : cOK D cy bs G own cc nL rm) : ∀ x, (zs G).fieldFound? fo nm desc = some x → (zs G).fieldFound? ref nm desc = some x := by
  rcases h with rfl | h
  · exact fun _ h => h
  · exact fun x hx => u_same (ok.w h) x hx
theorem c_get (ok : cOK D cy bs G own cc nL rm) {ref nm fo desc : String} {idx ci j q a N : Nat} {v : Value} {C : String} {T : u_T} {fin : Bool} {fs : List Value} (hq : ds[q]? = some (.inr (ci, fs))) (ha : a = bs + q) (hc : vwCl[ci]? = some (C, T, N)) (hjN : j < N) (hT : T j = (fo, nm, desc, fin)) (hv : fs[j]? = some v) (hs : zSame ref fo nm desc) (hw : zw (.fieldLink own idx ref nm desc)) (hd : decode cc pc = .ok (.getfield idx, 3)) (kk : cAt D G bs ds kc nc (pc + 3) lv (v :: st)) : cAt D G bs ds kc nc pc lv (.ref a :: st) := by
  intro H locs ls hW hS hl
  subst ha
  have hlay : ∀ w ∈ u_ws C T N, w.before G.2.1.1 (zs G) = true := fun w hw9 => ok.w (zlay hc w hw9)
  have hsm := hs.usec ok
  exact va_get (C := C) (T := T) (N := N) ok.x ok.b hlay (fun _ h => h) ok.o ok.k hW.1 q (cw_get hq) hc j hjN (by rw [hT]; exact ok.w hw) (by rw [hT]; exact hsm) hv hd (kk H locs ls hW hS hl)
theorem c_putf (ok : cOK D cy bs G own cc nL rm) {ref nm fo desc : String} {ty : FieldType} {idx ci j q a N : Nat} {v : Value} {C : String} {T : u_T} {fin : Bool} {fs : List Value} (hq : ds[q]? = some (.inr (ci, fs))) (ha : a = bs + q) (hc : vwCl[ci]? = some (C, T, N)) (hjN : j < N) (hT : T j = (fo, nm, desc, fin)) (hty : parseFieldDescriptor desc = some ty) (hn : narrow ty v = v) (hfit : fits ty v = true) (hl9 : j < fs.length) (hs : zSame ref fo nm desc) (hw : zw (.fieldLink own idx ref nm desc)) (hini : fin = true → (zmt G).name = "<init>" ∧ fo = own) (hd : decode cc pc = .ok (.putfield idx, 3)) (kk : cAt D G bs (ds.set q (.inr (ci, fs.set j v))) kc nc (pc + 3) lv st) : cAt D G bs ds kc nc pc lv (v :: .ref a :: st) := by
  intro H locs ls hW hS hl
  subst ha
  have he := cw_get (b := bs) hq
  have hlay : ∀ w ∈ u_ws C T N, w.before G.2.1.1 (zs G) = true := fun w hw9 => ok.w (zlay hc w hw9)
  obtain ⟨⟨ty0, hty0⟩, hnm⟩ := zcls hc
  have hap := va_apart (own := own) hlay (fun _ h => h) ty0 hty0 hnm ok.k hc
  obtain ⟨r, h1, cell, q1, q2, q3, q4⟩ := hW.1 q _ he
  have hr : r = (C, T, N) := Option.some.inj (h1.symm.trans hc)
  subst hr
  obtain ⟨hSl, hfc, kC, hkC, hkind⟩ := ok.k.1 ci _ hc
  obtain ⟨cf, kf, fi, f, hi, hsl⟩ := hSl j hjN
  have hlays := u_lays hlay (fun _ h => h) hjN
  have hst := (u_facts hfc hkC hlays hi).1
  have hsm : ∀ x, (zs G).fieldFound? (T j).1 (T j).2.1 (T j).2.2.1 = some x → (zs G).fieldFound? ref (T j).2.1 (T j).2.2.1 = some x := by rw [hT]; exact hs.usec ok
  have hpd : parseFieldDescriptor (T j).2.2.1 = some ty := by rw [hT]; exact hty
  have hlink : (Cond.fieldLink own idx ref (T j).2.1 (T j).2.2.1).before G.2.1.1 (zs G) = true := by rw [hT]; exact ok.w hw
  have fin9 : ∀ (H' : Heap), H'[bs + q]? = some (cell.setSlot (D.2 ci j) v) → H'.size = H.size → (∀ z, z ≠ bs + q → H'[z]? = H[z]?) → cWat G kc nc H' (locs ++ [⟨bs + q, D.2 ci j⟩]) (pc + 3) ls st := by
    intro H' e1 e2 e3
    refine kk H' _ ls ⟨?_, by rw [e2, hW.2, List.length_set]⟩ (hS.put e2 e3 (Nat.le_add_right _ _)) hl
    rw [← cw_set]
    exact hW.1.set cw_D he ⟨_, hc, t_OB.to (V := updV (vp_V fs) j v) ⟨_, e1, q2, q3, t_set q4 hap hjN v⟩ (fun i _ => vp_updV_set hl9 v i)⟩ e3
  have hla := hlay _ (u_in_lay hjN)
  unfold u_lay at hla
  cases fin with
  | false =>
    rw [if_neg (by rw [hT]; exact Bool.false_ne_true)] at hla
    have h6 := u_store hfc hkC hkind hla hi hpd hn hfit
    refine W.putK ok.x ok.b (f := f) ⟨ok.o, hlink, ⟨_, _, _, hsm _ hi⟩, hst⟩ (by rw [q2]; exact h6) q1 q3 (by rw [hsl]; exact k2_hasslot (q4 j hjN)) rfl rfl hd fun H' e1 e2 e3 => ?_
    rw [hsl] at e1 ⊢
    exact fin9 H' e1 e2 e3
  | true =>
    rw [if_pos (by rw [hT])] at hla
    obtain ⟨hin2, hdecl⟩ := hini rfl
    have hcf : G.1.2.2.2.2.2.cls = cf := by
      obtain ⟨_, _, c', _, _, _, -, -, hf', -, -, -, hown2, -⟩ := Cond.laysFinal_spec hla
      have e1 : c' = cf := by
        have := hi.symm.trans hf'
        simp at this
        exact this.1.symm
      rw [hT, hdecl] at hown2
      rw [← e1]
      exact Option.some.inj (ok.o.symm.trans hown2)
    have h6 := u_fits hfc hkC hkind (Or.inr hla) hi hpd hn hfit
    refine W.putFinK ok.x ok.b ok.o hlink (hsm _ hi) hst hcf hin2 (by rw [q2]; exact h6) q1 q3 (by rw [hsl]; exact k2_hasslot (q4 j hjN)) rfl rfl hd fun H' e1 e2 e3 => ?_
    rw [hsl] at e1 ⊢
    exact fin9 H' e1 e2 e3
theorem cWo.push {H H1 : Heap} {e : va_E} (h : cWo D bs ds H) (z : H1.size = bs + ds.length + 1) (o : ∀ q, q < bs + ds.length → H1[q]? = H[q]?) (he : va_at D vwCl (bs + ds.length, e) H1) : cWo D bs (ds ++ [e]) H1 := by
  refine ⟨?_, by rw [z, List.length_append]; rfl⟩
  rw [cw_app]
  refine (h.1.kept (fun k x hx => o x.1 (by rw [← h.2]; exact (h.1 k x hx).lt))).app (fun k x hx => ?_)
  obtain ⟨h1, h2⟩ := cw_inv hx
  have hk : k < 1 := (List.getElem?_eq_some_iff.mp h1).1
  have : k = 0 := by omega
  subst this
  cases x
  cases h1
  cases h2
  exact he
theorem cS.push {H H0 H1 : Heap} {locs : List Loc} {A : Nat → Prop} {z : Nat} (hS : va_S A H0 H locs) (hz : H.size = z) (z1 : H1.size = z + 1) (o : ∀ q, q < z → H1[q]? = H[q]?) : va_S A H0 H1 locs :=
  ⟨Nat.le_trans hS.1 (by omega), fun x h1 h2 => (o x (by have := hS.1; omega)).trans (hS.2.1 x h1 h2), hS.2.2⟩
theorem c_new (ok : cOK D cy bs G own cc nL rm) {idx ci N : Nat} {C : String} {T : u_T} {fs : List Value} (ty : Nat → FieldType) (hty : ∀ k, k < N → parseFieldDescriptor (T k).2.2.1 = some (ty k)) (hc : vwCl[ci]? = some (C, T, N)) (hcl : zw (.classLink own idx C)) (hinst : zw (.instantiable C N)) (hini : zw (.initialized C)) (hfs : ∀ j, j < N → defaultValue (ty j) = vp_V fs j) (hr1 : kc + 1 ≤ rm.cells) (hr2 : nc + N ≤ rm.slots) (hd : decode cc pc = .ok (.new idx, 3)) (kk : cAt D G bs (ds ++ [.inr (ci, fs)]) (kc + 1) (nc + N) (pc + 3) lv (.ref (bs + ds.length) :: st)) : cAt D G bs ds kc nc pc lv st := by
  intro H locs ls hW hS hl
  have hKn := ok.k.1 ci _ hc
  have hlay : ∀ w ∈ u_ws C T N, w.before G.2.1.1 (zs G) = true := fun w hw9 => ok.w (zlay hc w hw9)
  refine W.newcK ok.x ok.b ok.o (ok.w hcl) (ok.w hinst) (ok.w hini) rfl hd (by rw [ok.2.2.1]; exact hr1) (by rw [ok.2.2.1]; exact hr2) hKn.2.1 hW.2 fun H1 kC hkC e1 z1 o1 => ?_
  exact kk H1 locs ls (hW.push z1 o1 ⟨_, hc, (u_born ty hlay (fun _ h => h) hKn hkC e1 hty).to hfs⟩) (cS.push hS hW.2 z1 o1) hl
theorem c_newa (ok : cOK D cy bs G own cc nL rm) {atype : ArrayType} {z : Int32} {N kd t0 : Nat} (ht : (ctys cy)[t0]? = some (cy kd, newarray.typeOf atype)) (hz : newarray.typeOf atype = .int ∨ newarray.typeOf atype = .char) (harr : zw (.arrayClass (newarray.typeOf atype))) (hn : ¬ z < 0) (hN : z.toNatClampNeg = N) (hb : N * componentBytes (newarray.typeOf atype) ≤ 536870912) (hr1 : kc + 1 ≤ rm.cells) (hr2 : nc + N ≤ rm.slots) (hd : decode cc pc = .ok (.newarray atype, 2)) (kk : cAt D G bs (ds ++ [.inl (cy kd, N, .inl (fun _ => 0))]) (kc + 1) (nc + N) (pc + 2) lv (.ref (bs + ds.length) :: st)) : cAt D G bs ds kc nc pc lv (.int z :: st) := by
  intro H locs ls hW hS hl
  refine va_newaK ok.x ok.b (ok.w harr) rfl hd rfl hn hN hb (by rw [ok.2.2.1]; exact hr1) (by rw [ok.2.2.1]; exact hr2) hW.2 fun H1 cA e1 z1 o1 hAr hNm => ?_
  have hRA := (ok.k.2 t0 _ ht).2
  have hcA : cA = cy kd := by
    have h1 : (zs G).vm.findClass ("[" ++ (newarray.typeOf atype).toString) = some (cy kd) := by
      rcases hz with h | h <;> (rw [h] at hRA ⊢; exact hRA)
    exact Option.some.inj (hNm.symm.trans h1)
  subst hcA
  refine kk H1 locs ls (hW.push z1 o1 ?_) (cS.push hS hW.2 z1 o1) hl
  show H1[bs + ds.length]? = some (vp_cell _ _)
  rw [e1, vp_cell_i]
  rcases hz with h | h <;> (rw [h]; rfl)
theorem c_newq (ok : cOK D cy bs G own cc nL rm) {C : String} {idx : Nat} {z : Int32} {N kd t0 : Nat} (ht : (ctys cy)[t0]? = some (cy kd, .object C)) (hcl : zw (.classLink own idx C)) (hov : zwo (.arrayOver (.object C))) (hn : ¬ z < 0) (hN : z.toNatClampNeg = N) (hb : N * 4 ≤ 536870912) (hr1 : kc + 1 ≤ rm.cells) (hr2 : nc + N ≤ rm.slots) (hd : decode cc pc = .ok (.anewarray idx, 3)) (kk : cAt D G bs (ds ++ [.inl (cy kd, N, .inr (.inr (.inr (.inr (fun _ => none)))))]) (kc + 1) (nc + N) (pc + 3) lv (.ref (bs + ds.length) :: st)) : cAt D G bs ds kc nc pc lv (.int z :: st) := by
  intro H locs ls hW hS hl
  subst hN
  refine W.anew ok.x ok.b ok.o (ok.w hcl) (ok.v _ hov _) rfl hd rfl hn hb (by rw [ok.2.2.1]; exact hr1) (by rw [ok.2.2.1]; exact hr2) fun cA kA comp f1 f2 f3 f4 => ?_
  generalize hH1 : H.push ({ cls := cA, slots := Array.replicate z.toNatClampNeg .null, vm := .none } : Cell) = H1
  have z1 : H1.size = bs + ds.length + 1 := by rw [← hH1, Array.size_push, hW.2]
  have e1 : H1[bs + ds.length]? = some (arrV cA z.toNatClampNeg (fun _ => .null)) := by rw [← hH1, ← hW.2, Array.getElem?_push_size, ← arrV_new]
  have o1 : ∀ q : Nat, q < bs + ds.length → H1[q]? = H[q]? := fun q hq => by rw [← hH1, Array.getElem?_push, if_neg (by rw [hW.2]; omega)]
  obtain ⟨kA2, comp2, g1, g2, g3, g4⟩ := (ok.k.2 t0 _ ht).2
  have hcA : cA = cy kd := Option.some.inj (f1.symm.trans g4)
  subst hcA
  rw [hW.2]
  refine kk H1 locs ls (hW.push z1 o1 ?_) (cS.push hS hW.2 z1 o1) hl
  show H1[bs + ds.length]? = some (vp_cell _ _)
  rw [e1, vp_cell_q]
  rfl
theorem c_iast (ok : cOK D cy bs G own cc nL rm) {q a i N : Nat} {x : Int32} {f : Nat → Int32} (hq : ds[q]? = some (.inl (cy 12, N, .inl f))) (ha : a = bs + q) (hi : i < N) (hN : N < 2 ^ 31) (hd : decode cc pc = .ok (.iastore, 1)) (kk : cAt D G bs (ds.set q (.inl (cy 12, N, .inl (uV f i x)))) kc nc (pc + 1) lv st) : cAt D G bs ds kc nc pc lv (.int x :: .int (nI i) :: .ref a :: st) := by
  intro H locs ls hW hS hl
  subst ha
  have he := cw_get (b := bs) hq
  have hK := ok.k.2 1 _ (show (ctys cy)[1]? = some (cy 12, .int) from rfl)
  have hin : vp_in (nI i) N := by
    intro h
    rcases h with h | h
    · exact nI_pos (by omega) h
    · rw [n_nat (by omega)] at h
      omega
  refine W.iast ok.x ok.b (hW.1 q _ he) (hK.1 N (fun j => .int (f j))) (fun q => by cases q) (by show ¬ (nI i < 0 ∨ (arrV _ _ _).slots.size ≤ _); rw [arrV_size]; exact hin) rfl rfl hd fun H1 e z oq => ?_
  refine kk H1 _ ls ⟨?_, by rw [z, hW.2, List.length_set]⟩ (hS.put z oq (Nat.le_add_right _ _)) hl
  rw [← cw_set]
  refine hW.1.set cw_D he ?_ oq
  show H1[bs + q]? = some (vp_cell _ _)
  rw [e, vp_cell_i, vp_cell_i, arrV_store, n_nat (by omega)]
  congr 2
  funext j
  by_cases hj : j = i
  · subst hj
    simp [updV, uV]
  · simp [updV, uV, hj]
theorem c_aast (ok : cOK D cy bs G own cc nL rm) {q qk a v i N kd t0 ci : Nat} {C : String} {T : u_T} {M : Nat} {vs : List Value} {f : Nat → Option Nat} (hq : ds[q]? = some (.inl (cy kd, N, .inr (.inr (.inr (.inr f)))))) (ha : a = bs + q) (hqk : ds[qk]? = some (.inr (ci, vs))) (hv : v = bs + qk) (ht : (ctys cy)[t0]? = some (cy kd, .object C)) (hc : vwCl[ci]? = some (C, T, M)) (hi : i < N) (hN : N < 2 ^ 31) (hd : decode cc pc = .ok (.aastore, 1)) (kk : cAt D G bs (ds.set q (.inl (cy kd, N, .inr (.inr (.inr (.inr (va_up f i (some v)))))))) kc nc (pc + 1) lv st) : cAt D G bs ds kc nc pc lv (.ref v :: .int (nI i) :: .ref a :: st) := by
  intro H locs ls hW hS hl
  subst ha
  subst hv
  have he := cw_get (b := bs) hq
  have hek := cw_get (b := bs) hqk
  obtain ⟨r', hr', cellV, g1, g2, g3, -⟩ := hW.1 qk _ hek
  have hcls := (ok.k.1 ci _ hc).2
  obtain ⟨kA, comp, k1, k2, k3, -⟩ := (ok.k.2 t0 _ ht).2
  have hcomp : comp = D.1 ci := Option.some.inj (k3.symm.trans hcls.1)
  subst hcomp
  obtain ⟨kC, hkC, -⟩ := hcls.2
  refine W.aast ok.x ok.b (hW.1 q _ he) (fun q h => by cases h) (fun h => by cases h) k1 k2 rfl hkC ⟨nI_pos (by omega), by show _ < (arrV _ _ _).slots.size; rw [arrV_size, n_nat (by omega)]; exact hi⟩ g1 (fun q h => by rw [g3] at h; cases h) (by rw [g2]; exact hkC) (by rw [g2]; exact va_assign hcls) rfl rfl hd fun H1 e z oq => ?_
  refine kk H1 _ ls ⟨?_, by rw [z, hW.2, List.length_set]⟩ (hS.put z oq (Nat.le_add_right _ _)) hl
  rw [← cw_set]
  refine hW.1.set cw_D he ?_ oq
  show H1[bs + q]? = some (vp_cell _ _)
  rw [e, vp_cell_q, vp_cell_q, arrV_store, n_nat (by omega)]
  congr 2
  funext j
  by_cases hj : j = i
  · subst hj
    simp [updV, va_up, va_rf]
  · simp [updV, va_up, hj]
theorem c_obj (ok : cOK D cy bs G own cc nL rm) {idx a : Nat} (h1 : zw (.methodLink own idx Lib.objectInit)) (h2 : zw (.instanceMethod Lib.objectInit)) (h3 : zw (.code Lib.objectInit ⟨#[0xb1]⟩ 1 none)) (hf : 1 ≤ rm.frames) (hlo : 20 ≤ rm.locals) (hcat : (st.map fun v => v.category).sum ≤ 8) (hd : decode cc pc = .ok (.invokespecial idx, 3)) (kk : cAt D G bs ds kc nc (pc + 3) lv st) : cAt D G bs ds kc nc pc lv (.ref a :: st) := by
  intro H locs ls hW hS hl
  refine W.objInit ok.x ok.b ok.o (ok.w h1) (ok.w h2) (ok.w h3) rfl (by rw [ok.n]; exact hl.1.trans ok.n) rfl hd (by rw [ok.2.2.1]; exact hf) ?_ (kk H locs ls hW hS hl)
  have := lv_room (m := G.1.2.2.2.2.2) (pc := pc) (ls := ls) (rest := .ref a :: st) hcat
  rw [ok.2.2.1]
  omega
theorem c_init (ok : cOK D cy bs G own cc nL rm) {y : MethodName} {cyc : ByteArray} {maxC frc loc ncc nsc idx q np a : Nat} {ds0 e0 post : List va_E} {st0 : List Value} (As : List Value) (hM : cMet G.1.2.1 D cy y cyc maxC frc loc ncc nsc As (bs + q) e0 post) (hds : ds = ds0 ++ e0) (hq : ds0.length = q) (ha : a = bs + q) (hcode : zw (.code y cyc maxC none)) (hini : zw (.initialized y.cls)) (hy : y.name = "<init>") (hin : zw (.instanceMethod y)) (hd9 : y.cls ≠ "java/lang/invoke/MethodHandle" ∧ y.cls ≠ "java/lang/invoke/VarHandle" ∧ (parseMethodDescriptor y.desc).map (fun d => d.parameters.length) = some np) (hnp : As.length = np) (hR : frc + 1 ≤ rm.frames ∧ 8 + (maxC + 11) + loc ≤ rm.locals) (hR2 : kc + ncc ≤ rm.cells ∧ nc + nsc ≤ rm.slots) (hl : zw (.methodLink own idx y) ∨ ∃ host, zwn (.methodLinkNest own idx y host)) (hst : st0 = As.reverse ++ .ref a :: st) (hcat : (st.map fun v => v.category).sum ≤ 8) (hd : decode cc pc = .ok (.invokespecial idx, 3)) (kk : cAt D G bs (ds0 ++ post) (kc + ncc) (nc + nsc) (pc + 3) lv st) : cAt D G bs ds kc nc pc lv st0 := by
  intro H locs ls hW hS hl9
  subst hds
  subst ha
  have hW0 : va_P D vwCl (cw bs ds0) H ∧ va_P D vwCl (cw (bs + q) e0) H := by
    have h := hW.1
    rw [cw_app, hq] at h
    constructor
    · intro k x hx
      exact h k x (by rw [List.getElem?_append_left (List.getElem?_eq_some_iff.mp hx).1]; exact hx)
    · intro k x hx
      exact h ((cw bs ds0).length + k) x (by rw [List.getElem?_append_right (Nat.le_add_right _ _), Nat.add_sub_cancel_left]; exact hx)
  have hsz : H.size = bs + q + e0.length := by
    rw [hW.2, List.length_append, hq]
    omega
  have hpre : PreS (zs G) H (va_Pc (.ref (bs + q) :: As) (cPre D cy (bs + q) e0)) (.ref (bs + q) :: As) := ⟨cPre_blind, fun U hU hW' => ⟨rfl, by rw [hU]; exact ⟨hW0.2, hsz⟩, va_K.moved hW'.alike ok.k, ok.t.warm hW', ok.v.alike hW'.alike⟩⟩
  have hwords : ∀ w ∈ ([.code y cyc maxC none] : List Cond), ∀ (a' : Array Value) (U : State), (zs G).WarmedH U.vm → w.before a' U = true := fun w hw a' U hW' => by
    rw [List.mem_singleton.mp hw]
    exact (ok.t.warm hW').1 _ hcode a'
  have hlen : ∀ sig, parseMethodDescriptor y.desc = some sig → np = sig.parameters.length := fun sig h => by
    have h2 := hd9.2.2
    rw [h] at h2
    exact (Option.some.inj h2).symm
  have hfr : ({ frames := frc, cells := ncc, slots := nsc, locals := loc } : Room).frames + 1 ≤ G.1.2.2.2.1.frames := by rw [ok.2.2.1]; exact hR.1
  have hlo : 8 + (maxC + 11) + ({ frames := frc, cells := ncc, slots := nsc, locals := loc } : Room).locals ≤ G.1.2.2.2.1.locals := by rw [ok.2.2.1]; exact hR.2
  have hr : va_Run G.1.1 G.1.2.1 G.1.2.2.1 G.1.2.2.2.1 (zs G) G.1.2.2.2.2.2 G.2.1.1 G.2.1.2.1 G.2.1.2.2.1 G.2.1.2.2.2 H locs kc nc ncc nsc (F0 G.1.2.2.2.2.2 pc ls st0) st (cQ D (bs + q) post (Value.ref (bs + q) :: As).toArray) (fun x => bs + q ≤ x) := by
    rcases hl with hl | ⟨host, hl⟩
    · exact va_runI (As := As) (rest := st) (b := bs + q) ⟨ok.x, ok.b, ok.n, ok.o, fun w (hw : w ∈ ([] : List Cond)) => absurd hw List.not_mem_nil⟩ hM ⟨⟨rfl, rfl, hfr, hlo, hwords, List.mem_cons_self, ok.w hcode, ok.w hini, ⟨hd9.1, hd9.2.1⟩, hlen, ok.w hl⟩, hy, ok.w hin⟩ hpre rfl hnp (hl9.1.trans ok.n) hst (lv_room hcat) hd (by rw [ok.2.2.1]; exact hR2)
    · exact va_runIN (As := As) (rest := st) (b := bs + q) ⟨ok.x, ok.b, ok.n, ok.o, fun w (hw : w ∈ ([] : List Cond)) => absurd hw List.not_mem_nil⟩ hM ⟨⟨⟨rfl, rfl, hfr, hlo, hwords, List.mem_cons_self⟩, ok.w hcode, ok.w hini, ⟨hd9.1, hd9.2.1⟩, hlen, va_Nw.use rfl (ok.m hl)⟩, hy, ok.w hin⟩ hpre rfl hnp (hl9.1.trans ok.n) hst (lv_room hcat) hd (by rw [ok.2.2.1]; exact hR2)
  refine va_callv (A0 := fun x => bs ≤ x) hr hS (fun x _ h => Nat.le_trans (Nat.le_add_right _ _) h) (fun x h => Nat.le_trans (Nat.le_add_right _ _) h) (fun u t H1 locs1 ht hvm hw hB hz hk hS1 => ?_)
  refine kk H1 locs1 ls ⟨?_, ?_⟩ hS1 hl9
  · rw [cw_app, hq]
    refine va_P.app (hW0.1.kept (fun k x hx => hk x.1 ?_ ?_)) (by rw [← ht]; exact hB.1)
    · exact (hW0.1 k x hx).lt
    · have h1 := (cw_inv hx)
      have h2 : k < ds0.length := (List.getElem?_eq_some_iff.mp h1.1).1
      omega
  · rw [← ht, hB.2, List.length_append, hq]
    omega
/-- a call of a method of the last things made -/
theorem c_callv (ok : cOK D cy bs G own cc nL rm) {y : MethodName} {C : String} {cyc : ByteArray} {maxC frc loc idx q np a ci : Nat} {ds0 e0 post : List va_E} {fs : List Value} {st0 : List Value} (As : List Value) (hM : cMet G.1.2.1 D cy y cyc maxC frc loc 0 0 As (bs + q) e0 post) (hds : ds = ds0 ++ e0) (hq : ds0.length = q) (ha : a = bs + q) (hrec : e0[0]? = some (.inr (ci, fs))) (cv : zCv own C idx y cyc maxC np ci none) (hnp : As.length = np) (hR : frc + 1 ≤ rm.frames ∧ 8 + (maxC + 11) + loc ≤ rm.locals) (hR2 : kc ≤ rm.cells ∧ nc ≤ rm.slots) (hst : st0 = As.reverse ++ .ref a :: st) (hcat : (st.map fun v => v.category).sum ≤ 8) (hd : decode cc pc = .ok (.invokevirtual idx, 3)) (kk : cAt D G bs (ds0 ++ post) kc nc (pc + 3) lv st) : cAt D G bs ds kc nc pc lv st0 := by
  intro H locs ls hW hS hl9
  subst hds
  subst ha
  obtain ⟨v1, v2, v3, v4, v5, hd9, T, N, v7⟩ := cv
  have hW0 : va_P D vwCl (cw bs ds0) H ∧ va_P D vwCl (cw (bs + q) e0) H := by
    have h := hW.1
    rw [cw_app, hq] at h
    constructor
    · intro k x hx
      exact h k x (by rw [List.getElem?_append_left (List.getElem?_eq_some_iff.mp hx).1]; exact hx)
    · intro k x hx
      exact h ((cw bs ds0).length + k) x (by rw [List.getElem?_append_right (Nat.le_add_right _ _), Nat.add_sub_cancel_left]; exact hx)
  have hsz : H.size = bs + q + e0.length := by
    rw [hW.2, List.length_append, hq]
    omega
  have hrc : ∃ cell : Cell, H[bs + q]? = some cell ∧ cell.vm.isStatics = false ∧ (zs G).vm.findClass C = some cell.cls := va_recv (q := (C, T, N)) ok.k hW0.2 v7 (cw_get (b := bs + q) hrec)
  have hwords : ∀ w ∈ ([.code y cyc maxC none] : List Cond), ∀ (a' : Array Value) (U : State), (zs G).WarmedH U.vm → w.before a' U = true := fun w hw a' U hW' => by
    rw [List.mem_singleton.mp hw]
    exact (ok.t.warm hW').1 _ v1 a'
  have hlen : ∀ sig, parseMethodDescriptor y.desc = some sig → np = sig.parameters.length := fun sig h => by
    have h2 := hd9.2.2
    rw [h] at h2
    exact (Option.some.inj h2).symm
  have hfr : ({ frames := frc, cells := 0, slots := 0, locals := loc } : Room).frames + 1 ≤ G.1.2.2.2.1.frames := by rw [ok.2.2.1]; exact hR.1
  have hlo : 8 + (maxC + 11) + ({ frames := frc, cells := 0, slots := 0, locals := loc } : Room).locals ≤ G.1.2.2.2.1.locals := by rw [ok.2.2.1]; exact hR.2
  have hr : va_Run G.1.1 G.1.2.1 G.1.2.2.1 G.1.2.2.2.1 (zs G) G.1.2.2.2.2.2 G.2.1.1 G.2.1.2.1 G.2.1.2.2.1 G.2.1.2.2.2 H locs kc nc 0 0 (F0 G.1.2.2.2.2.2 pc ls st0) st (cQ D (bs + q) post (Value.ref (bs + q) :: As).toArray) (fun x => bs + q ≤ x) :=
    va_runV (As := As) (rest := st) (b := bs + q) ⟨ok.x, ok.b, ok.n, ok.o, fun w (hw : w ∈ ([] : List Cond)) => absurd hw List.not_mem_nil⟩ hM ⟨⟨rfl, rfl, hfr, hlo, hwords, List.mem_cons_self, ok.w v1, ok.w v2, ⟨hd9.1, hd9.2.1⟩, hlen, ok.w v3⟩, ok.w v4, ok.w v5⟩ ⟨cPre_blind, hrc, fun U hU hW' => ⟨rfl, by rw [hU]; exact ⟨hW0.2, hsz⟩, va_K.moved hW'.alike ok.k, ok.t.warm hW', ok.v.alike hW'.alike⟩⟩ rfl hnp (hl9.1.trans ok.n) hst (lv_room hcat) hd (by rw [ok.2.2.1]; exact hR2)
  refine va_callv (A0 := fun x => bs ≤ x) hr hS (fun x _ h => Nat.le_trans (Nat.le_add_right _ _) h) (fun x h => Nat.le_trans (Nat.le_add_right _ _) h) (fun u t H1 locs1 ht hvm hw hB hz hk hS1 => ?_)
  refine kk H1 locs1 ls ⟨?_, ?_⟩ hS1 hl9
  · rw [cw_app, hq]
    refine va_P.app (hW0.1.kept (fun k x hx => hk x.1 ?_ ?_)) (by rw [← ht]; exact hB.1)
    · exact (hW0.1 k x hx).lt
    · have h1 := (cw_inv hx)
      have h2 : k < ds0.length := (List.getElem?_eq_some_iff.mp h1.1).1
      omega
  · rw [← ht, hB.2, List.length_append, hq]
    omega
theorem c_vret {a : Nat} (ok : cOK D cy a G own cc nL rm) (hret : (zmt G).sig.returnType = none) {post : List va_E} (hQ : G.2.2.1 = MQ G.2.1.2.1 (cQ D a post) G.2.1.1 (zs G) kc nc (fun q => a ≤ q)) (hds : ds = post) (hd : decode cc pc = .ok (.return_, 1)) : cAt D G a ds kc nc pc lv [] := by
  intro H locs ls hW hS hl
  subst hds
  unfold cWat
  rw [hQ]
  exact W.vret ok.x ok.b hret (fun t ht _ => ⟨⟨(), rfl, trivial, by show cWo D a ds t.heap; rw [ht]; exact hW⟩, hS.F ht⟩) hS.2.2 hd ok.1.2.2.2.2
end CB

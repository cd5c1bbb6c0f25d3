/-! ===== what constructors make: cells one behind another ===== -/
def cw (b : Nat) (ds : List va_E) : va_W := ds.mapIdx (fun i e => (b + i, e))
theorem cw_get {b q : Nat} {ds : List va_E} {e : va_E} (h : ds[q]? = some e) : (cw b ds)[q]? = some (b + q, e) := by
  unfold cw
  rw [List.getElem?_mapIdx, h]
  rfl
theorem cw_inv {b q : Nat} {ds : List va_E} {x : Nat × va_E} (h : (cw b ds)[q]? = some x) : ds[q]? = some x.2 ∧ x.1 = b + q := by
  unfold cw at h
  rw [List.getElem?_mapIdx] at h
  cases hd : ds[q]? with
  | none => rw [hd] at h; cases h
  | some e =>
    rw [hd] at h
    cases h
    exact ⟨rfl, rfl⟩
theorem cw_D {b : Nat} {ds : List va_E} : va_D (fun q => b ≤ q) (cw b ds) := by
  refine ⟨fun i j p q hi hj hpq => ?_, fun k q hk => ?_⟩
  · have h1 := (cw_inv hi).2
    have h2 := (cw_inv hj).2
    omega
  · have h1 := (cw_inv hk).2
    show b ≤ q.1
    omega
theorem cw_set {b q : Nat} {ds : List va_E} {e : va_E} : (cw b ds).set q (b + q, e) = cw b (ds.set q e) := by
  apply List.ext_getElem?
  intro i
  unfold cw
  rw [List.getElem?_set, List.getElem?_mapIdx, List.getElem?_mapIdx, List.getElem?_set, List.length_mapIdx]
  by_cases h : q = i
  · rw [if_pos h, if_pos h, h]
    by_cases h2 : i < ds.length
    · rw [if_pos h2, if_pos h2]
      rfl
    · rw [if_neg h2, if_neg h2]
      rfl
  · rw [if_neg h, if_neg h]
theorem cw_app {b : Nat} {ds es : List va_E} : cw b (ds ++ es) = cw b ds ++ cw (b + ds.length) es := by
  unfold cw
  rw [List.mapIdx_append]
  congr 1
  apply List.mapIdx_eq_mapIdx_iff.mpr
  intro i hi
  rw [show b + (i + ds.length) = b + ds.length + i by omega]
theorem cw_one {b : Nat} {e : va_E} : cw b [e] = [(b, e)] := rfl
def ctys (cy : Nat → ClassId) : List (ClassId × FieldType) := [(cy 11, zety 11), (cy 12, zety 12), (cy 13, zety 13), (cy 14, zety 14), (cy 15, zety 15), (cy 16, zety 16), (cy 17, zety 17)]
def isOv : Cond → Bool
  | .arrayOver (.object _) => true
  | .arrayOver (.array _) => true
  | _ => false
def zwo (w : Cond) : Prop := w ∈ lw_tbl ∧ isOv w = true
def zOv (s : State) : Prop := ∀ w, zwo w → ∀ a : Array Value, w.before a s = true
theorem zOv.alike {s U : State} (hal : s.vm.Alike U.vm) (h : zOv s) : zOv U := by
  intro w hw a
  have h1 := h w hw a
  obtain ⟨-, h2⟩ := hw
  cases w with
  | arrayOver t =>
    cases t with
    | object C => exact Cond.arrayOver_alike hal h1
    | array t => exact over_moved hal h1
    | _ => exact absurd h2 (by simp [isOv])
  | _ => exact absurd h2 (by simp [isOv])
/-- the world while things are made -/
def cWo (D : va_G) (b : Nat) (ds : List va_E) (H : Heap) : Prop := va_P D vwCl (cw b ds) H ∧ H.size = b + ds.length
def cWat (G : zC) (k n : Nat) (H : Heap) (locs : List Loc) (pc : Nat) (ls : Array Slot) (st : List Value) : Prop :=
  W G.1.1 G.1.2.1 G.1.2.2.1 G.1.2.2.2.1 G.1.2.2.2.2.1 G.1.2.2.2.2.2 G.2.1.1 G.2.1.2.1 G.2.1.2.2.1 G.2.1.2.2.2 H locs k n G.2.2.1 (F0 G.1.2.2.2.2.2 pc ls st)
def cAt (D : va_G) (G : zC) (b : Nat) (ds : List va_E) (k n pc : Nat) (lv : List (Nat × Value)) (st : List Value) : Prop :=
  ∀ (H : Heap) (locs : List Loc) (ls : Array Slot), cWo D b ds H → va_S (fun q => b ≤ q) (zs G).heap H locs → lv_has ls (zcd G).maxLocals lv → cWat G k n H locs pc ls st
def cOK (D : va_G) (cy : Nat → ClassId) (b : Nat) (G : zC) (own : String) (cc : ByteArray) (nL : Nat) (rm : Room) : Prop :=
  (G.1.1.tables.exec = Jvm.exec ∧ (zcd G).code = cc ∧ (zcd G).maxLocals = nL ∧ (zs G).vm.findClass own = some G.1.2.2.2.2.2.cls ∧ (zmt G).locks = false) ∧
  (va_K D vwCl (ctys cy) (zs G) ∧ zTab (zs G) ∧ zOv (zs G)) ∧ G.1.2.2.2.1 = rm ∧ b ≤ (zs G).heap.size
/-- a constructor's start -/
def cPre (D : va_G) (cy : Nat → ClassId) (a : Nat) (e0 : List va_E) (U : State) : Prop := cWo D a e0 U.heap ∧ va_K D vwCl (ctys cy) U ∧ zTab U ∧ zOv U
def cQ (D : va_G) (a : Nat) (post : List va_E) : Array Value → State → Outcome → State → Prop := va_Qv (fun _ : Unit => True) (fun _ t => cWo D a post t.heap) (fun q => a ≤ q)
/-- a constructor's contract: from a new object to these cells -/
def cMet (l : Launch) (D : va_G) (cy : Nat → ClassId) (y : MethodName) (cc : ByteArray) (maxL fr lo nc ns : Nat) (As : List Value) (a : Nat) (e0 post : List va_E) : Prop :=
  Met l y [.code y cc maxL none] { frames := fr, cells := nc, slots := ns, locals := lo } (va_Pc (.ref a :: As) (cPre D cy a e0)) (cQ D a post) nc ns (fun q => a ≤ q)
theorem cPre_blind {D : va_G} {cy : Nat → ClassId} {a : Nat} {e0 : List va_E} {As : List Value} : FrameBlind (va_Pc As (cPre D cy a e0)) := by
  intro a U g mk h
  obtain ⟨h1, h2, h3, h4, h5⟩ := h
  exact ⟨h1, h2, va_K.moved (u := U) (U := U.calling g mk a) (Vm.Alike.refl U.vm) h3, zTab.warm (s := U) (U := U.calling g mk a) (State.WarmedH.refl U) h4, zOv.alike (s := U) (U := U.calling g mk a) (Vm.Alike.refl U.vm) h5⟩
theorem cMet.of {l : Launch} {D : va_G} {cy : Nat → ClassId} {y : MethodName} {cc : ByteArray} {maxL fr lo nc ns : Nat} {As : List Value} {a : Nat} {e0 post : List va_E} (hy : plainName y.cls = true) (own : String) (hown : y.cls = own) (lv : List (Nat × Value)) (hlv : ∀ h : lv_has (lg_sl (.ref a :: As) ++ List.replicate (maxL - (lg_sl (.ref a :: As)).length) Slot.unset).toArray maxL (lv_args 0 (.ref a :: As)), lv_has (lg_sl (.ref a :: As) ++ List.replicate (maxL - (lg_sl (.ref a :: As)).length) Slot.unset).toArray maxL lv) (hmx : (lg_sl (.ref a :: As)).length ≤ maxL)
    (body : ∀ G : zC, cOK D cy a G own cc maxL { frames := fr, cells := nc, slots := ns, locals := lo } → (zmt G).name = y.name → (zmt G).sig.returnType = none → G.2.2.1 = MQ G.2.1.2.1 (cQ D a post) G.2.1.1 (zs G) nc ns (fun q => a ≤ q) → cAt D G a e0 0 0 0 lv []) : cMet l D cy y cc maxL fr lo nc ns As a e0 post := by
  refine Met.ofW (cc := cc) (maxL := maxL) (ret := none) hy rfl ?_
  intro p e s m args below meth c s₁ B hml hv
  obtain ⟨rfl, hW, hK, hT, hO⟩ := hv
  have hl := lv_entry (.ref a :: As) (n := maxL) hmx
  rw [lg_entry_eq]
  have hsz : a ≤ s.heap.size := by rw [hW.2]; omega
  exact body ((p, l, e, (headSpec [Cond.code y cc maxL none] { frames := fr, cells := nc, slots := ns, locals := lo }).room, s, m), ((.ref a :: As).toArray, below, meth, c), (MQ below (cQ D a post) (.ref a :: As).toArray s nc ns (fun q => a ≤ q)), (0, ((fun _ _ => 0), (fun _ _ => 0), fun _ _ => 0)))
    ⟨⟨B.exec, B.bytes, hml, by rw [← hown]; exact findClass_of_methodNamed B.named, B.notSynchronized⟩, ⟨hK, hT, hO⟩, rfl, hsz⟩ (name_of_methodNamed B.named B.method).1 B.returns rfl s.heap [] (lg_sl (.ref a :: As) ++ List.replicate (maxL - (lg_sl (.ref a :: As)).length) Slot.unset).toArray hW va_S.rf (by rw [← hml] at hlv hl ⊢; exact hlv hl)
section CN
variable {D : va_G} {cy : Nat → ClassId} {bs : Nat} {G : zC} {own : String} {cc : ByteArray} {nL : Nat} {rm : Room} {ds : List va_E} {kc nc pc : Nat} {lv : List (Nat × Value)} {st : List Value}
theorem cOK.x (ok : cOK D cy bs G own cc nL rm) : G.1.1.tables.exec = Jvm.exec := ok.1.1
theorem cOK.b (ok : cOK D cy bs G own cc nL rm) : G.2.1.2.2.2.code = cc := ok.1.2.1
theorem cOK.n (ok : cOK D cy bs G own cc nL rm) : G.2.1.2.2.2.maxLocals = nL := ok.1.2.2.1
theorem cOK.o (ok : cOK D cy bs G own cc nL rm) : (zs G).vm.findClass own = some G.1.2.2.2.2.2.cls := ok.1.2.2.2.1
theorem cOK.k (ok : cOK D cy bs G own cc nL rm) : va_K D vwCl (ctys cy) (zs G) := ok.2.1.1
theorem cOK.t (ok : cOK D cy bs G own cc nL rm) : zTab (zs G) := ok.2.1.2.1
theorem cOK.v (ok : cOK D cy bs G own cc nL rm) : zOv (zs G) := ok.2.1.2.2
theorem cOK.w (ok : cOK D cy bs G own cc nL rm) {w : Cond} (h : zw w) : w.before G.2.1.1 (zs G) = true := ok.t.1 w h _
theorem cOK.m (ok : cOK D cy bs G own cc nL rm) {w : Cond} (h : zwn w) : va_Nw w (zs G) := ok.t.2 w h
theorem c_aload_n (ok : cOK D cy bs G own cc nL rm) {i : Fin 4} {x : Nat} (j : Nat) (hd : decode cc pc = .ok (.aload_n i, 1)) (hj : lv[j]? = some ((i : Nat), .ref x)) (kk : cAt D G bs ds kc nc (pc + 1) lv (.ref x :: st)) : cAt D G bs ds kc nc pc lv st :=
  fun H locs ls hW hS hl => lv_aload_n ok.x ok.b hd rfl (lv_at hl j hj) (kk H locs ls hW hS hl)
theorem c_iload_n (ok : cOK D cy bs G own cc nL rm) {i : Fin 4} {x : Int32} (j : Nat) (hd : decode cc pc = .ok (.iload_n i, 1)) (hj : lv[j]? = some ((i : Nat), .int x)) (kk : cAt D G bs ds kc nc (pc + 1) lv (.int x :: st)) : cAt D G bs ds kc nc pc lv st :=
  fun H locs ls hW hS hl => lv_iload_n ok.x ok.b hd rfl (lv_at hl j hj) (kk H locs ls hW hS hl)
theorem c_istore_n (ok : cOK D cy bs G own cc nL rm) {i : Fin 4} {x : Int32} (lv' : List (Nat × Value)) (hd : decode cc pc = .ok (.istore_n i, 1)) (hn : (i : Nat) < nL) (hl : ((i : Nat), Value.int x) :: lv.filter (fun q => !(q.1 == (i : Nat)) && !(q.1 + 1 == (i : Nat) && q.2.category == 2)) = lv') (kk : cAt D G bs ds kc nc (pc + 1) lv' st) : cAt D G bs ds kc nc pc lv (.int x :: st) :=
  fun H locs ls hW hS hl9 => lv_istore_n (lv' := lv') ok.x ok.b hd rfl hl9 (by rw [ok.n.symm] at hn; exact hn) hl (fun ls' h' => kk H locs ls' hW hS h')
theorem c_astore_n (ok : cOK D cy bs G own cc nL rm) {i : Fin 4} {x : Nat} (lv' : List (Nat × Value)) (hd : decode cc pc = .ok (.astore_n i, 1)) (hn : (i : Nat) < nL) (hl : ((i : Nat), Value.ref x) :: lv.filter (fun q => !(q.1 == (i : Nat)) && !(q.1 + 1 == (i : Nat) && q.2.category == 2)) = lv') (kk : cAt D G bs ds kc nc (pc + 1) lv' st) : cAt D G bs ds kc nc pc lv (.ref x :: st) :=
  fun H locs ls hW hS hl9 => lv_astore_n (lv' := lv') ok.x ok.b hd rfl hl9 (by rw [ok.n.symm] at hn; exact hn) hl (fun ls' h' => kk H locs ls' hW hS h')
theorem c_iinc (ok : cOK D cy bs G own cc nL rm) {i : Nat} {z : Int} {x d : Int32} (lv' : List (Nat × Value)) (j : Nat) (hd : decode cc pc = .ok (.iinc i z, 3)) (hj : lv[j]? = some (i, .int x)) (hv : Int32.ofInt z = d) (hn : i < nL) (hl : (i, Value.int (x + d)) :: lv.filter (fun q => !(q.1 == i) && !(q.1 + 1 == i && q.2.category == 2)) = lv') (kk : cAt D G bs ds kc nc (pc + 3) lv' st) : cAt D G bs ds kc nc pc lv st :=
  fun H locs ls hW hS hl9 => lv_iinc (v := x + d) (lv' := lv') ok.x ok.b hd hl9 hj (by rw [hv]) (by rw [ok.n.symm] at hn; exact hn) hl (fun ls' h' => kk H locs ls' hW hS h')
theorem c_sub (ks : List Nat) (lv' : List (Nat × Value)) (hl : lv_pick lv ks = lv') (kk : cAt D G bs ds kc nc pc lv' st) : cAt D G bs ds kc nc pc lv st :=
  fun H locs ls hW hS hl9 => kk H locs ls hW hS (lv_sub hl9 ks hl)
theorem c_iconst (ok : cOK D cy bs G own cc nL rm) {z : Int} (v : Int32) (hd : decode cc pc = .ok (.iconst z, 1)) (hv : Int32.ofInt z = v) (kk : cAt D G bs ds kc nc (pc + 1) lv (.int v :: st)) : cAt D G bs ds kc nc pc lv st :=
  fun H locs ls hW hS hl => lv_iconst ok.x ok.b hd hv (kk H locs ls hW hS hl)
theorem c_bipush (ok : cOK D cy bs G own cc nL rm) {z : Int} (v : Int32) (hd : decode cc pc = .ok (.bipush z, 2)) (hv : (Int8.ofInt z).toInt32 = v) (kk : cAt D G bs ds kc nc (pc + 2) lv (.int v :: st)) : cAt D G bs ds kc nc pc lv st :=
  fun H locs ls hW hS hl => lv_bipush ok.x ok.b hd hv (kk H locs ls hW hS hl)
theorem c_sipush (ok : cOK D cy bs G own cc nL rm) {z : Int} (v : Int32) (hd : decode cc pc = .ok (.sipush z, 3)) (hv : (Int16.ofInt z).toInt32 = v) (kk : cAt D G bs ds kc nc (pc + 3) lv (.int v :: st)) : cAt D G bs ds kc nc pc lv st :=
  fun H locs ls hW hS hl => lv_sipush ok.x ok.b hd hv (kk H locs ls hW hS hl)
theorem c_iadd (ok : cOK D cy bs G own cc nL rm) {x y : Int32} (hd : decode cc pc = .ok (.iadd, 1)) (kk : cAt D G bs ds kc nc (pc + 1) lv (.int (x + y) :: st)) : cAt D G bs ds kc nc pc lv (.int y :: .int x :: st) :=
  fun H locs ls hW hS hl => lv_iadd ok.x ok.b hd (kk H locs ls hW hS hl)
theorem c_imul (ok : cOK D cy bs G own cc nL rm) {x y : Int32} (hd : decode cc pc = .ok (.imul, 1)) (kk : cAt D G bs ds kc nc (pc + 1) lv (.int (x * y) :: st)) : cAt D G bs ds kc nc pc lv (.int y :: .int x :: st) :=
  fun H locs ls hW hS hl => lv_imul ok.x ok.b hd (kk H locs ls hW hS hl)
theorem c_dup (ok : cOK D cy bs G own cc nL rm) {v : Value} (hd : decode cc pc = .ok (.dup, 1)) (hv : v.category = 1) (kk : cAt D G bs ds kc nc (pc + 1) lv (v :: v :: st)) : cAt D G bs ds kc nc pc lv (v :: st) :=
  fun H locs ls hW hS hl => lv_dup ok.x ok.b hd hv (kk H locs ls hW hS hl)
theorem c_goto (ok : cOK D cy bs G own cc nL rm) {off : Int} (tgt : Nat) (hd : decode cc pc = .ok (.goto off, 3)) (ht : (pc : Int) + off = (tgt : Int)) (kk : cAt D G bs ds kc nc tgt lv st) : cAt D G bs ds kc nc pc lv st :=
  fun H locs ls hW hS hl => lv_goto ok.x ok.b hd ht (kk H locs ls hW hS hl)
end CN

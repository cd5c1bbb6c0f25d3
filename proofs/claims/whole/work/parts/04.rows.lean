/-! ===== the run of a method: where it stands ===== -/
abbrev zC : Type := (Program × Launch × Env × Room × State × MethodId) × (Array Value × List Frame × Method × Code) × ((State → Prop) × (Int32 × zM))
def zs (G : zC) : State := G.1.2.2.2.2.1
def zmt (G : zC) : Method := G.2.1.2.2.1
def zcd (G : zC) : Code := G.2.1.2.2.2
def zWat (G : zC) (H : Heap) (locs : List Loc) (pc : Nat) (ls : Array Slot) (st : List Value) : Prop :=
  W G.1.1 G.1.2.1 G.1.2.2.1 G.1.2.2.2.1 G.1.2.2.2.2.1 G.1.2.2.2.2.2 G.2.1.1 G.2.1.2.1 G.2.1.2.2.1 G.2.1.2.2.2 H locs 0 0 G.2.2.1 (F0 G.1.2.2.2.2.2 pc ls st)
def zAt (P : zSt) (G : zC) (M : zM) (pc : Nat) (lv : List (Nat × Value)) (st : List Value) : Prop :=
  zWM P M → ∀ (H : Heap) (locs : List Loc) (ls : Array Slot), zW P M H → va_S (zA P (zs G).heap.size) (zs G).heap H locs → lv_has ls (zcd G).maxLocals lv → zWat G H locs pc ls st
def zG (P : zSt) (G : zC) (F : Option (Int32 × zM)) (M : zM) (pc : Nat) (lv : List (Nat × Value)) (st : List Value) : Prop := F = some G.2.2.2 → zAt P G M pc lv st
def zB (P : zSt) (u : zM) (t : State) : Prop := zWM P u ∧ zW P u t.heap
def zQ (ret : Option FieldType) (P : zSt) (sz : Nat) (res : Int32 × zM) : Array Value → State → Outcome → State → Prop := match ret with
  | none => va_Qv (fun u : zM => u = res.2) (zB P) (zA P sz)
  | some _ => va_Qi (fun (r : Int32) (u : zM) => r = res.1 ∧ u = res.2) (zB P) (zA P sz)
def zrm (fr lo : Nat) : Room := { frames := fr, cells := 0, slots := 0, locals := lo }
def zOK (P : zSt) (G : zC) (own : String) (cc : ByteArray) (nL fr lo : Nat) (ret : Option FieldType) : Prop :=
  (G.1.1.tables.exec = Jvm.exec ∧ (zcd G).code = cc ∧ (zcd G).maxLocals = nL ∧ (zs G).vm.findClass own = some G.1.2.2.2.2.2.cls ∧ (zmt G).locks = false ∧ (zmt G).sig.returnType = ret) ∧
  (va_K (zD P) vwCl (ztys P) (zs G) ∧ zTab (zs G) ∧ zOKP P) ∧ G.1.2.2.2.1 = zrm fr lo ∧ G.2.2.1 = MQ G.2.1.2.1 (zQ ret P (zs G).heap.size G.2.2.2) G.2.1.1 (zs G) 0 0 (zA P (zs G).heap.size)
def zPre (P : zSt) (sz : Nat) (M : zM) (U : State) : Prop := U.heap.size = sz ∧ zWM P M ∧ zW P M U.heap ∧ va_K (zD P) vwCl (ztys P) U ∧ zTab U
/-- a method's contract: what F says of the memory is what it does -/
def zMet (l : Launch) (P : zSt) (y : MethodName) (cc : ByteArray) (maxL fr lo : Nat) (ret : Option FieldType) (As : List Value) (F : zM → Option (Int32 × zM)) : Prop :=
  ∀ (sz : Nat) (M : zM) (res : Int32 × zM), F M = some res → Met l y [.code y cc maxL ret] (zrm fr lo) (va_Pc As (zPre P sz M)) (zQ ret P sz res) 0 0 (zA P sz)
theorem zPre_blind {P : zSt} {sz : Nat} {M : zM} {As : List Value} : FrameBlind (va_Pc As (zPre P sz M)) := by
  intro a U g mk h
  obtain ⟨h1, h2, h3, h4, h5, h6⟩ := h
  exact ⟨h1, h2, h3, h4, va_K.moved (u := U) (U := U.calling g mk a) (Vm.Alike.refl U.vm) h5, zTab.warm (s := U) (U := U.calling g mk a) (State.WarmedH.refl U) h6⟩
theorem zMet.of {l : Launch} {P : zSt} {y : MethodName} {cc : ByteArray} {maxL fr lo : Nat} {ret : Option FieldType} {As : List Value} {F : zM → Option (Int32 × zM)} (hP : zOKP P) (hy : plainName y.cls = true) (own : String) (hown : y.cls = own) (lv : List (Nat × Value)) (hlv : ∀ h : lv_has (lg_sl As ++ List.replicate (maxL - (lg_sl As).length) Slot.unset).toArray maxL (lv_args 0 As), lv_has (lg_sl As ++ List.replicate (maxL - (lg_sl As).length) Slot.unset).toArray maxL lv) (hmx : (lg_sl As).length ≤ maxL)
    (body : ∀ (G : zC) (M : zM), zOK P G own cc maxL fr lo ret → zG P G (F M) M 0 lv []) : zMet l P y cc maxL fr lo ret As F := by
  intro sz M res hF
  refine Met.ofW (cc := cc) (maxL := maxL) (ret := ret) hy rfl ?_
  intro p e s m args below meth c s₁ B hml hv
  obtain ⟨rfl, hsz, hWM, hP0, hK, hT⟩ := hv
  subst hsz
  have hl := lv_entry As (n := maxL) hmx
  rw [lg_entry_eq]
  have ok : zOK P ((p, l, e, (headSpec [Cond.code y cc maxL ret] (zrm fr lo)).room, s, m), (As.toArray, below, meth, c), (MQ below (zQ ret P s.heap.size res) As.toArray s 0 0 (zA P s.heap.size)), res) own cc maxL fr lo ret :=
    ⟨⟨B.exec, B.bytes, hml, by rw [← hown]; exact findClass_of_methodNamed B.named, B.notSynchronized, B.returns⟩, ⟨hK, hT, hP⟩, rfl, rfl⟩
  exact body _ M ok hF hWM s.heap [] _ hP0 va_S.rf (by rw [← hml] at hlv hl ⊢; exact hlv hl)
/-! ===== rows ===== -/
section ZR
variable {P : zSt} {G : zC} {own : String} {cc : ByteArray} {nL fr lo : Nat} {ret : Option FieldType} {F F1 F2 : Option (Int32 × zM)} {M : zM} {pc : Nat} {lv lv' : List (Nat × Value)} {st : List Value}
theorem zOK.x (ok : zOK P G own cc nL fr lo ret) : G.1.1.tables.exec = Jvm.exec := ok.1.1
theorem zOK.b (ok : zOK P G own cc nL fr lo ret) : G.2.1.2.2.2.code = cc := ok.1.2.1
theorem zOK.n (ok : zOK P G own cc nL fr lo ret) : G.2.1.2.2.2.maxLocals = nL := ok.1.2.2.1
theorem zOK.o (ok : zOK P G own cc nL fr lo ret) : (zs G).vm.findClass own = some G.1.2.2.2.2.2.cls := ok.1.2.2.2.1
theorem zOK.k (ok : zOK P G own cc nL fr lo ret) : va_K (zD P) vwCl (ztys P) (zs G) := ok.2.1.1
theorem zOK.t (ok : zOK P G own cc nL fr lo ret) : zTab (zs G) := ok.2.1.2.1
theorem zOK.p (ok : zOK P G own cc nL fr lo ret) : zOKP P := ok.2.1.2.2
theorem zOK.w (ok : zOK P G own cc nL fr lo ret) {w : Cond} (h : zw w) : w.before G.2.1.1 (zs G) = true := ok.t.1 w h _
theorem zOK.m (ok : zOK P G own cc nL fr lo ret) {w : Cond} (h : zwn w) : va_Nw w (zs G) := ok.t.2 w h
theorem z_iload_n (ok : zOK P G own cc nL fr lo ret) {k : Fin 4} {x : Int32} (j : Nat) (hd : decode cc pc = .ok (.iload_n k, 1)) (hj : lv[j]? = some ((k : Nat), .int x)) (kk : zG P G F M (pc + 1) lv (.int x :: st)) : zG P G F M pc lv st :=
  fun hF hM H locs ls hP hS hl => lv_iload_n ok.x ok.b hd rfl (lv_at hl j hj) (kk hF hM H locs ls hP hS hl)
theorem z_iload (ok : zOK P G own cc nL fr lo ret) {i : Nat} {x : Int32} (j : Nat) (hd : decode cc pc = .ok (.iload i, 2)) (hj : lv[j]? = some (i, .int x)) (kk : zG P G F M (pc + 2) lv (.int x :: st)) : zG P G F M pc lv st :=
  fun hF hM H locs ls hP hS hl => lv_iload ok.x ok.b hd (lv_at hl j hj) (kk hF hM H locs ls hP hS hl)
theorem z_aload_n (ok : zOK P G own cc nL fr lo ret) {k : Fin 4} {x : Nat} (j : Nat) (hd : decode cc pc = .ok (.aload_n k, 1)) (hj : lv[j]? = some ((k : Nat), .ref x)) (kk : zG P G F M (pc + 1) lv (.ref x :: st)) : zG P G F M pc lv st :=
  fun hF hM H locs ls hP hS hl => lv_aload_n ok.x ok.b hd rfl (lv_at hl j hj) (kk hF hM H locs ls hP hS hl)
theorem z_aload (ok : zOK P G own cc nL fr lo ret) {i : Nat} {x : Nat} (j : Nat) (hd : decode cc pc = .ok (.aload i, 2)) (hj : lv[j]? = some (i, .ref x)) (kk : zG P G F M (pc + 2) lv (.ref x :: st)) : zG P G F M pc lv st :=
  fun hF hM H locs ls hP hS hl => lv_aload ok.x ok.b hd (lv_at hl j hj) (kk hF hM H locs ls hP hS hl)
theorem z_istore_n (ok : zOK P G own cc nL fr lo ret) {k : Fin 4} {x : Int32} {kf : Int32 → Option (Int32 × zM)} (lvf : Int32 → List (Nat × Value)) (hd : decode cc pc = .ok (.istore_n k, 1)) (hn : (k : Nat) < nL) (hl : ∀ v, ((k : Nat), Value.int v) :: lv.filter (fun q => !(q.1 == (k : Nat)) && !(q.1 + 1 == (k : Nat) && q.2.category == 2)) = lvf v) (kk : ∀ v, zG P G (kf v) M (pc + 1) (lvf v) st) : zG P G (zl x kf) M pc lv (.int x :: st) :=
  fun hF hM H locs ls hP hS hl9 => lv_istore_n (lv' := lvf x) ok.x ok.b hd rfl hl9 (by rw [ok.n.symm] at hn; exact hn) (hl x) (fun ls' h' => kk x hF hM H locs ls' hP hS h')
theorem z_istore (ok : zOK P G own cc nL fr lo ret) {i : Nat} {x : Int32} {kf : Int32 → Option (Int32 × zM)} (lvf : Int32 → List (Nat × Value)) (hd : decode cc pc = .ok (.istore i, 2)) (hn : i < nL) (hl : ∀ v, (i, Value.int v) :: lv.filter (fun q => !(q.1 == i) && !(q.1 + 1 == i && q.2.category == 2)) = lvf v) (kk : ∀ v, zG P G (kf v) M (pc + 2) (lvf v) st) : zG P G (zl x kf) M pc lv (.int x :: st) :=
  fun hF hM H locs ls hP hS hl9 => lv_istore (lv' := lvf x) ok.x ok.b hd hl9 (by rw [ok.n.symm] at hn; exact hn) (hl x) (fun ls' h' => kk x hF hM H locs ls' hP hS h')
theorem z_astore_n (ok : zOK P G own cc nL fr lo ret) {k : Fin 4} {x : Nat} (lv' : List (Nat × Value)) (hd : decode cc pc = .ok (.astore_n k, 1)) (hn : (k : Nat) < nL) (hl : ((k : Nat), Value.ref x) :: lv.filter (fun q => !(q.1 == (k : Nat)) && !(q.1 + 1 == (k : Nat) && q.2.category == 2)) = lv') (kk : zG P G F M (pc + 1) lv' st) : zG P G F M pc lv (.ref x :: st) :=
  fun hF hM H locs ls hP hS hl9 => lv_astore_n (lv' := lv') ok.x ok.b hd rfl hl9 (by rw [ok.n.symm] at hn; exact hn) hl (fun ls' h' => kk hF hM H locs ls' hP hS h')
theorem z_astore (ok : zOK P G own cc nL fr lo ret) {i : Nat} {x : Nat} (lv' : List (Nat × Value)) (hd : decode cc pc = .ok (.astore i, 2)) (hn : i < nL) (hl : (i, Value.ref x) :: lv.filter (fun q => !(q.1 == i) && !(q.1 + 1 == i && q.2.category == 2)) = lv') (kk : zG P G F M (pc + 2) lv' st) : zG P G F M pc lv (.ref x :: st) :=
  fun hF hM H locs ls hP hS hl9 => lv_astore (lv' := lv') ok.x ok.b hd hl9 (by rw [ok.n.symm] at hn; exact hn) hl (fun ls' h' => kk hF hM H locs ls' hP hS h')
theorem z_iinc (ok : zOK P G own cc nL fr lo ret) {i : Nat} {n : Int} {x d : Int32} {kf : Int32 → Option (Int32 × zM)} (lvf : Int32 → List (Nat × Value)) (j : Nat) (hd : decode cc pc = .ok (.iinc i n, 3)) (hj : lv[j]? = some (i, .int x)) (hv : Int32.ofInt n = d) (hn : i < nL) (hl : ∀ v, (i, Value.int v) :: lv.filter (fun q => !(q.1 == i) && !(q.1 + 1 == i && q.2.category == 2)) = lvf v) (kk : ∀ v, zG P G (kf v) M (pc + 3) (lvf v) st) : zG P G (zl (x + d) kf) M pc lv st :=
  fun hF hM H locs ls hP hS hl9 => lv_iinc (v := x + d) (lv' := lvf (x + d)) ok.x ok.b hd hl9 hj (by rw [hv]) (by rw [ok.n.symm] at hn; exact hn) (hl _) (fun ls' h' => kk _ hF hM H locs ls' hP hS h')
/-- fewer locals -/
theorem z_sub (ks : List Nat) (lv' : List (Nat × Value)) (hl : lv_pick lv ks = lv') (kk : zG P G F M pc lv' st) : zG P G F M pc lv st :=
  fun hF hM H locs ls hP hS hl9 => kk hF hM H locs ls hP hS (lv_sub hl9 ks hl)
theorem z_iconst (ok : zOK P G own cc nL fr lo ret) {n : Int} (v : Int32) (hd : decode cc pc = .ok (.iconst n, 1)) (hv : Int32.ofInt n = v) (kk : zG P G F M (pc + 1) lv (.int v :: st)) : zG P G F M pc lv st :=
  fun hF hM H locs ls hP hS hl => lv_iconst ok.x ok.b hd hv (kk hF hM H locs ls hP hS hl)
theorem z_bipush (ok : zOK P G own cc nL fr lo ret) {n : Int} (v : Int32) (hd : decode cc pc = .ok (.bipush n, 2)) (hv : (Int8.ofInt n).toInt32 = v) (kk : zG P G F M (pc + 2) lv (.int v :: st)) : zG P G F M pc lv st :=
  fun hF hM H locs ls hP hS hl => lv_bipush ok.x ok.b hd hv (kk hF hM H locs ls hP hS hl)
theorem z_sipush (ok : zOK P G own cc nL fr lo ret) {n : Int} (v : Int32) (hd : decode cc pc = .ok (.sipush n, 3)) (hv : (Int16.ofInt n).toInt32 = v) (kk : zG P G F M (pc + 3) lv (.int v :: st)) : zG P G F M pc lv st :=
  fun hF hM H locs ls hP hS hl => lv_sipush ok.x ok.b hd hv (kk hF hM H locs ls hP hS hl)
theorem z_ldc (ok : zOK P G own cc nL fr lo ret) {i : Nat} (v : Int32) (hw : zw (.constant own i v)) (hd : decode cc pc = .ok (.ldc i, 2)) (kk : zG P G F M (pc + 2) lv (.int v :: st)) : zG P G F M pc lv st :=
  fun hF hM H locs ls hP hS hl => lv_ldc ok.x ok.b ok.o (ok.w hw) hd (kk hF hM H locs ls hP hS hl)
theorem z_iadd (ok : zOK P G own cc nL fr lo ret) {x y : Int32} (hd : decode cc pc = .ok (.iadd, 1)) (kk : zG P G F M (pc + 1) lv (.int (x + y) :: st)) : zG P G F M pc lv (.int y :: .int x :: st) :=
  fun hF hM H locs ls hP hS hl => lv_iadd ok.x ok.b hd (kk hF hM H locs ls hP hS hl)
theorem z_isub (ok : zOK P G own cc nL fr lo ret) {x y : Int32} (hd : decode cc pc = .ok (.isub, 1)) (kk : zG P G F M (pc + 1) lv (.int (x - y) :: st)) : zG P G F M pc lv (.int y :: .int x :: st) :=
  fun hF hM H locs ls hP hS hl => lv_isub ok.x ok.b hd (kk hF hM H locs ls hP hS hl)
theorem z_imul (ok : zOK P G own cc nL fr lo ret) {x y : Int32} (hd : decode cc pc = .ok (.imul, 1)) (kk : zG P G F M (pc + 1) lv (.int (x * y) :: st)) : zG P G F M pc lv (.int y :: .int x :: st) :=
  fun hF hM H locs ls hP hS hl => lv_imul ok.x ok.b hd (kk hF hM H locs ls hP hS hl)
theorem z_iand (ok : zOK P G own cc nL fr lo ret) {x y : Int32} (hd : decode cc pc = .ok (.iand, 1)) (kk : zG P G F M (pc + 1) lv (.int (x &&& y) :: st)) : zG P G F M pc lv (.int y :: .int x :: st) :=
  fun hF hM H locs ls hP hS hl => lv_iand ok.x ok.b hd (kk hF hM H locs ls hP hS hl)
theorem z_ior (ok : zOK P G own cc nL fr lo ret) {x y : Int32} (hd : decode cc pc = .ok (.ior, 1)) (kk : zG P G F M (pc + 1) lv (.int (x ||| y) :: st)) : zG P G F M pc lv (.int y :: .int x :: st) :=
  fun hF hM H locs ls hP hS hl => lv_ior ok.x ok.b hd (kk hF hM H locs ls hP hS hl)
theorem z_ixor (ok : zOK P G own cc nL fr lo ret) {x y : Int32} (hd : decode cc pc = .ok (.ixor, 1)) (kk : zG P G F M (pc + 1) lv (.int (x ^^^ y) :: st)) : zG P G F M pc lv (.int y :: .int x :: st) :=
  fun hF hM H locs ls hP hS hl => lv_ixor ok.x ok.b hd (kk hF hM H locs ls hP hS hl)
theorem z_ishl (ok : zOK P G own cc nL fr lo ret) {x y : Int32} (hd : decode cc pc = .ok (.ishl, 1)) (kk : zG P G F M (pc + 1) lv (.int (x <<< (y &&& 31)) :: st)) : zG P G F M pc lv (.int y :: .int x :: st) :=
  fun hF hM H locs ls hP hS hl => lv_ishl ok.x ok.b hd (kk hF hM H locs ls hP hS hl)
theorem z_ishr (ok : zOK P G own cc nL fr lo ret) {x y : Int32} (hd : decode cc pc = .ok (.ishr, 1)) (kk : zG P G F M (pc + 1) lv (.int (x >>> (y &&& 31)) :: st)) : zG P G F M pc lv (.int y :: .int x :: st) :=
  fun hF hM H locs ls hP hS hl => lv_ishr ok.x ok.b hd (kk hF hM H locs ls hP hS hl)
theorem z_ineg (ok : zOK P G own cc nL fr lo ret) {x : Int32} (hd : decode cc pc = .ok (.ineg, 1)) (kk : zG P G F M (pc + 1) lv (.int (-x) :: st)) : zG P G F M pc lv (.int x :: st) :=
  fun hF hM H locs ls hP hS hl => lv_ineg ok.x ok.b hd (kk hF hM H locs ls hP hS hl)
theorem z_i2c (ok : zOK P G own cc nL fr lo ret) {x : Int32} (hd : decode cc pc = .ok (.i2c, 1)) (kk : zG P G F M (pc + 1) lv (.int ((x.toUInt32 % 65536).toInt32) :: st)) : zG P G F M pc lv (.int x :: st) :=
  fun hF hM H locs ls hP hS hl => lv_i2c ok.x ok.b hd rfl (kk hF hM H locs ls hP hS hl)
theorem z_idiv (ok : zOK P G own cc nL fr lo ret) {x y : Int32} (hd : decode cc pc = .ok (.idiv, 1)) (kk : zG P G F M (pc + 1) lv (.int (x / y) :: st)) : zG P G (if y = 0 then none else F) M pc lv (.int y :: .int x :: st) := by
  intro hF hM H locs ls hP hS hl
  by_cases h : y = 0
  · rw [if_pos h] at hF; cases hF
  · rw [if_neg h] at hF
    exact lv_idiv ok.x ok.b hd h (kk hF hM H locs ls hP hS hl)
theorem z_irem (ok : zOK P G own cc nL fr lo ret) {x y : Int32} (hd : decode cc pc = .ok (.irem, 1)) (kk : zG P G F M (pc + 1) lv (.int (x - x / y * y) :: st)) : zG P G (if y = 0 then none else F) M pc lv (.int y :: .int x :: st) := by
  intro hF hM H locs ls hP hS hl
  by_cases h : y = 0
  · rw [if_pos h] at hF; cases hF
  · rw [if_neg h] at hF
    exact lv_irem ok.x ok.b hd h (kk hF hM H locs ls hP hS hl)
theorem z_dup (ok : zOK P G own cc nL fr lo ret) {v : Value} (hd : decode cc pc = .ok (.dup, 1)) (hv : v.category = 1) (kk : zG P G F M (pc + 1) lv (v :: v :: st)) : zG P G F M pc lv (v :: st) :=
  fun hF hM H locs ls hP hS hl => lv_dup ok.x ok.b hd hv (kk hF hM H locs ls hP hS hl)
theorem z_goto (ok : zOK P G own cc nL fr lo ret) {off : Int} (tgt : Nat) (hd : decode cc pc = .ok (.goto off, 3)) (ht : (pc : Int) + off = (tgt : Int)) (kk : zG P G F M tgt lv st) : zG P G F M pc lv st :=
  fun hF hM H locs ls hP hS hl => lv_goto ok.x ok.b hd ht (kk hF hM H locs ls hP hS hl)
theorem z_icmp_eq (ok : zOK P G own cc nL fr lo ret) {x y : Int32} {off : Int} (tgt : Nat) (hd : decode cc pc = .ok (.if_icmp .eq off, 3)) (ht : (pc : Int) + off = (tgt : Int)) (kt : zG P G F1 M tgt lv st) (kf : zG P G F2 M (pc + 3) lv st) : zG P G (if x = y then F1 else F2) M pc lv (.int y :: .int x :: st) := by
  intro hF hM H locs ls hP hS hl
  refine lv_icmp_eq ok.x ok.b hd ht (fun h => ?_) (fun h => ?_)
  · rw [if_pos h] at hF
    exact kt hF hM H locs ls hP hS hl
  · rw [if_neg h] at hF
    exact kf hF hM H locs ls hP hS hl
theorem z_icmp_ne (ok : zOK P G own cc nL fr lo ret) {x y : Int32} {off : Int} (tgt : Nat) (hd : decode cc pc = .ok (.if_icmp .ne off, 3)) (ht : (pc : Int) + off = (tgt : Int)) (kt : zG P G F1 M tgt lv st) (kf : zG P G F2 M (pc + 3) lv st) : zG P G (if x = y then F2 else F1) M pc lv (.int y :: .int x :: st) := by
  intro hF hM H locs ls hP hS hl
  refine lv_icmp_ne ok.x ok.b hd ht (fun h => ?_) (fun h => ?_)
  · rw [if_neg h] at hF
    exact kt hF hM H locs ls hP hS hl
  · rw [if_pos h] at hF
    exact kf hF hM H locs ls hP hS hl
theorem z_icmp_lt (ok : zOK P G own cc nL fr lo ret) {x y : Int32} {off : Int} (tgt : Nat) (hd : decode cc pc = .ok (.if_icmp .lt off, 3)) (ht : (pc : Int) + off = (tgt : Int)) (kt : zG P G F1 M tgt lv st) (kf : zG P G F2 M (pc + 3) lv st) : zG P G (if x < y then F1 else F2) M pc lv (.int y :: .int x :: st) := by
  intro hF hM H locs ls hP hS hl
  refine lv_icmp_lt ok.x ok.b hd ht (fun h => ?_) (fun h => ?_)
  · rw [if_pos h] at hF
    exact kt hF hM H locs ls hP hS hl
  · rw [if_neg h] at hF
    exact kf hF hM H locs ls hP hS hl
theorem z_icmp_ge (ok : zOK P G own cc nL fr lo ret) {x y : Int32} {off : Int} (tgt : Nat) (hd : decode cc pc = .ok (.if_icmp .ge off, 3)) (ht : (pc : Int) + off = (tgt : Int)) (kt : zG P G F1 M tgt lv st) (kf : zG P G F2 M (pc + 3) lv st) : zG P G (if y ≤ x then F1 else F2) M pc lv (.int y :: .int x :: st) := by
  intro hF hM H locs ls hP hS hl
  refine lv_icmp_ge ok.x ok.b hd ht (fun h => ?_) (fun h => ?_)
  · rw [if_pos h] at hF
    exact kt hF hM H locs ls hP hS hl
  · rw [if_neg h] at hF
    exact kf hF hM H locs ls hP hS hl
theorem z_icmp_gt (ok : zOK P G own cc nL fr lo ret) {x y : Int32} {off : Int} (tgt : Nat) (hd : decode cc pc = .ok (.if_icmp .gt off, 3)) (ht : (pc : Int) + off = (tgt : Int)) (kt : zG P G F1 M tgt lv st) (kf : zG P G F2 M (pc + 3) lv st) : zG P G (if y < x then F1 else F2) M pc lv (.int y :: .int x :: st) := by
  intro hF hM H locs ls hP hS hl
  refine lv_icmp_gt ok.x ok.b hd ht (fun h => ?_) (fun h => ?_)
  · rw [if_pos h] at hF
    exact kt hF hM H locs ls hP hS hl
  · rw [if_neg h] at hF
    exact kf hF hM H locs ls hP hS hl
theorem z_icmp_le (ok : zOK P G own cc nL fr lo ret) {x y : Int32} {off : Int} (tgt : Nat) (hd : decode cc pc = .ok (.if_icmp .le off, 3)) (ht : (pc : Int) + off = (tgt : Int)) (kt : zG P G F1 M tgt lv st) (kf : zG P G F2 M (pc + 3) lv st) : zG P G (if x ≤ y then F1 else F2) M pc lv (.int y :: .int x :: st) := by
  intro hF hM H locs ls hP hS hl
  refine lv_icmp_le ok.x ok.b hd ht (fun h => ?_) (fun h => ?_)
  · rw [if_pos h] at hF
    exact kt hF hM H locs ls hP hS hl
  · rw [if_neg h] at hF
    exact kf hF hM H locs ls hP hS hl
theorem z_if_eq (ok : zOK P G own cc nL fr lo ret) {x : Int32} {off : Int} (tgt : Nat) (hd : decode cc pc = .ok (.ifCond .eq off, 3)) (ht : (pc : Int) + off = (tgt : Int)) (kt : zG P G F1 M tgt lv st) (kf : zG P G F2 M (pc + 3) lv st) : zG P G (if x = 0 then F1 else F2) M pc lv (.int x :: st) := by
  intro hF hM H locs ls hP hS hl
  refine lv_if_eq ok.x ok.b hd ht (fun h => ?_) (fun h => ?_)
  · rw [if_pos h] at hF
    exact kt hF hM H locs ls hP hS hl
  · rw [if_neg h] at hF
    exact kf hF hM H locs ls hP hS hl
theorem z_if_ne (ok : zOK P G own cc nL fr lo ret) {x : Int32} {off : Int} (tgt : Nat) (hd : decode cc pc = .ok (.ifCond .ne off, 3)) (ht : (pc : Int) + off = (tgt : Int)) (kt : zG P G F1 M tgt lv st) (kf : zG P G F2 M (pc + 3) lv st) : zG P G (if x = 0 then F2 else F1) M pc lv (.int x :: st) := by
  intro hF hM H locs ls hP hS hl
  refine lv_if_ne ok.x ok.b hd ht (fun h => ?_) (fun h => ?_)
  · rw [if_neg h] at hF
    exact kt hF hM H locs ls hP hS hl
  · rw [if_pos h] at hF
    exact kf hF hM H locs ls hP hS hl
theorem z_if_lt (ok : zOK P G own cc nL fr lo ret) {x : Int32} {off : Int} (tgt : Nat) (hd : decode cc pc = .ok (.ifCond .lt off, 3)) (ht : (pc : Int) + off = (tgt : Int)) (kt : zG P G F1 M tgt lv st) (kf : zG P G F2 M (pc + 3) lv st) : zG P G (if x < 0 then F1 else F2) M pc lv (.int x :: st) := by
  intro hF hM H locs ls hP hS hl
  refine lv_if_lt ok.x ok.b hd ht (fun h => ?_) (fun h => ?_)
  · rw [if_pos h] at hF
    exact kt hF hM H locs ls hP hS hl
  · rw [if_neg h] at hF
    exact kf hF hM H locs ls hP hS hl
theorem z_if_ge (ok : zOK P G own cc nL fr lo ret) {x : Int32} {off : Int} (tgt : Nat) (hd : decode cc pc = .ok (.ifCond .ge off, 3)) (ht : (pc : Int) + off = (tgt : Int)) (kt : zG P G F1 M tgt lv st) (kf : zG P G F2 M (pc + 3) lv st) : zG P G (if 0 ≤ x then F1 else F2) M pc lv (.int x :: st) := by
  intro hF hM H locs ls hP hS hl
  refine lv_if_ge ok.x ok.b hd ht (fun h => ?_) (fun h => ?_)
  · rw [if_pos h] at hF
    exact kt hF hM H locs ls hP hS hl
  · rw [if_neg h] at hF
    exact kf hF hM H locs ls hP hS hl
theorem z_if_gt (ok : zOK P G own cc nL fr lo ret) {x : Int32} {off : Int} (tgt : Nat) (hd : decode cc pc = .ok (.ifCond .gt off, 3)) (ht : (pc : Int) + off = (tgt : Int)) (kt : zG P G F1 M tgt lv st) (kf : zG P G F2 M (pc + 3) lv st) : zG P G (if 0 < x then F1 else F2) M pc lv (.int x :: st) := by
  intro hF hM H locs ls hP hS hl
  refine lv_if_gt ok.x ok.b hd ht (fun h => ?_) (fun h => ?_)
  · rw [if_pos h] at hF
    exact kt hF hM H locs ls hP hS hl
  · rw [if_neg h] at hF
    exact kf hF hM H locs ls hP hS hl
theorem z_if_le (ok : zOK P G own cc nL fr lo ret) {x : Int32} {off : Int} (tgt : Nat) (hd : decode cc pc = .ok (.ifCond .le off, 3)) (ht : (pc : Int) + off = (tgt : Int)) (kt : zG P G F1 M tgt lv st) (kf : zG P G F2 M (pc + 3) lv st) : zG P G (if x ≤ 0 then F1 else F2) M pc lv (.int x :: st) := by
  intro hF hM H locs ls hP hS hl
  refine lv_if_le ok.x ok.b hd ht (fun h => ?_) (fun h => ?_)
  · rw [if_pos h] at hF
    exact kt hF hM H locs ls hP hS hl
  · rw [if_neg h] at hF
    exact kf hF hM H locs ls hP hS hl
def zArms (P : zSt) (G : zC) (M : zM) (lv : List (Nat × Value)) (st : List Value) : List (Option (Int32 × zM)) → List Nat → Prop
  | [], [] => True
  | F :: Fs, t :: ts => zG P G F M t lv st ∧ zArms P G M lv st Fs ts
  | _, _ => False
theorem zArms.at {Fs : List (Option (Int32 × zM))} {ts : List Nat} (h : zArms P G M lv st Fs ts) : Fs.length = ts.length ∧ ∀ (i : Nat) (F : Option (Int32 × zM)) (t : Nat), Fs[i]? = some F → ts[i]? = some t → zG P G F M t lv st := by
  induction Fs generalizing ts with
  | nil =>
    cases ts with
    | nil => exact ⟨rfl, fun i F t h => by simp at h⟩
    | cons _ _ => exact absurd h (by simp [zArms])
  | cons F Fs ih =>
    cases ts with
    | nil => exact absurd h (by simp [zArms])
    | cons t ts =>
      obtain ⟨h1, h2⟩ := h
      obtain ⟨g1, g2⟩ := ih h2
      refine ⟨by simp [g1], fun i F' t' hi hi' => ?_⟩
      cases i with
      | zero => cases hi; cases hi'; exact h1
      | succ i => exact g2 i F' t' hi hi'
theorem z_tsw (ok : zOK P G own cc nL fr lo ret) {dflt a b : Int} {offs : Array Int} {len : Nat} {x : Int32} {Fs : List (Option (Int32 × zM))} {Fd : Option (Int32 × zM)} (td : Nat) (ts : List Nat) (hd : decode cc pc = .ok (.tableswitch dflt a b offs, len)) (hts : offs.toList.map (fun o => ((pc : Int) + o)) = ts.map (fun (t : Nat) => (t : Int))) (hb : b - a + 1 = (ts.length : Int)) (htd : (pc : Int) + dflt = (td : Int)) (karms : zArms P G M lv st Fs ts) (kd : zG P G Fd M td lv st) : zG P G (zsw x a Fs Fd) M pc lv (.int x :: st) := by
  intro hF hM H locs ls hP hS hl
  obtain ⟨hlen, harm⟩ := karms.at
  by_cases h1 : x.toInt < a
  · unfold zsw at hF
    rw [if_pos h1] at hF
    exact lv_tableOut ok.x ok.b hd (Or.inl h1) htd (kd hF hM H locs ls hP hS hl)
  · by_cases h2 : b < x.toInt
    · unfold zsw at hF
      rw [if_neg h1, List.getElem?_eq_none (by rw [hlen]; omega)] at hF
      exact lv_tableOut ok.x ok.b hd (Or.inr h2) htd (kd hF hM H locs ls hP hS hl)
    · have hi : (x.toInt - a).toNat < ts.length := by omega
      have hi2 : (x.toInt - a).toNat < Fs.length := by omega
      unfold zsw at hF
      rw [if_neg h1, List.getElem?_eq_getElem hi2] at hF
      have e1 : (ts.map (fun (t : Nat) => (t : Int)))[(x.toInt - a).toNat]? = some ((ts[(x.toInt - a).toNat] : Nat) : Int) := by
        rw [List.getElem?_map, List.getElem?_eq_getElem hi]
        rfl
      rw [← hts, List.getElem?_map] at e1
      cases ho : offs.toList[(x.toInt - a).toNat]? with
      | none => rw [ho] at e1; cases e1
      | some o =>
        rw [ho] at e1
        have e2 : (pc : Int) + o = ((ts[(x.toInt - a).toNat] : Nat) : Int) := Option.some.inj e1
        exact lv_tableIn ok.x ok.b hd h1 h2 (by rw [← Array.getElem?_toList]; exact ho) e2 (harm _ _ _ (List.getElem?_eq_getElem hi2) (List.getElem?_eq_getElem hi) hF hM H locs ls hP hS hl)
theorem z_lsw2 (ok : zOK P G own cc nL fr lo ret) {dflt o1 o2 : Int} {c1 c2 : Int} {len : Nat} {x k1 k2 : Int32} {F3 : Option (Int32 × zM)} (t1 t2 td : Nat) (hd : decode cc pc = .ok (.lookupswitch dflt #[(c1, o1), (c2, o2)], len)) (h12 : c1 < c2) (hk1 : k1.toInt = c1) (hk2 : k2.toInt = c2) (ht1 : (pc : Int) + o1 = (t1 : Int)) (ht2 : (pc : Int) + o2 = (t2 : Int)) (htd : (pc : Int) + dflt = (td : Int)) (ka : zG P G F1 M t1 lv st) (kb : zG P G F2 M t2 lv st) (kd : zG P G F3 M td lv st) : zG P G (if x = k1 then F1 else if x = k2 then F2 else F3) M pc lv (.int x :: st) := by
  intro hF hM H locs ls hP hS hl
  have hp : (((#[(c1, o1), (c2, o2)] : Array (Int × Int)).toList.zip ((#[(c1, o1), (c2, o2)] : Array (Int × Int)).toList.drop 1)).all (fun (a, next) => a.1 < next.1)) = true := by simp [h12]
  by_cases h1 : x = k1
  · rw [if_pos h1] at hF
    exact lv_lookup ok.x ok.b hd hp (by rw [h1, hk1]; simp [Op.lookupswitch.offset]) ht1 (ka hF hM H locs ls hP hS hl)
  · rw [if_neg h1] at hF
    by_cases h2 : x = k2
    · rw [if_pos h2] at hF
      exact lv_lookup ok.x ok.b hd hp (by rw [show (#[(c1, o1), (c2, o2)] : Array (Int × Int)).toList = [(c1, o1), (c2, o2)] from rfl, lv_osw h1 hk1, h2, hk2]; simp [Op.lookupswitch.offset]) ht2 (kb hF hM H locs ls hP hS hl)
    · rw [if_neg h2] at hF
      exact lv_lookup ok.x ok.b hd hp (by rw [show (#[(c1, o1), (c2, o2)] : Array (Int × Int)).toList = [(c1, o1), (c2, o2)] from rfl, lv_osw h1 hk1, lv_osw h2 hk2]; simp [Op.lookupswitch.offset]) htd (kd hF hM H locs ls hP hS hl)
/-! ===== fields ===== -/
theorem zci {ci : Nat} {q : vw_C} (h : vwCl[ci]? = some q) : ci ≤ 10 := by
  have := (List.getElem?_eq_some_iff.mp h).1
  have e : vwCl.length = 11 := rfl
  omega
theorem zlay {ci : Nat} {q : vw_C} (h : vwCl[ci]? = some q) : ∀ w ∈ u_ws q.1 q.2.1 q.2.2, zw w := by
  have h0 : ∀ q ∈ vwCl, ∀ w ∈ u_ws q.1 q.2.1 q.2.2, w ∈ lw_tbl ∧ goodWord w = true := by decide +kernel
  exact h0 q (List.mem_of_getElem? h)
theorem zcls {ci : Nat} {q : vw_C} (h : vwCl[ci]? = some q) : (∃ ty0 : Nat → FieldType, ∀ k, k < q.2.2 → parseFieldDescriptor (q.2.1 k).2.2.1 = some (ty0 k)) ∧ ∀ a, a < q.2.2 → ∀ b, b < q.2.2 → a ≠ b → (q.2.1 a).2.1 ≠ (q.2.1 b).2.1 := by
  have h1 := zci h
  rcases (show ci = 0 ∨ ci = 1 ∨ ci = 2 ∨ ci = 3 ∨ ci = 4 ∨ ci = 5 ∨ ci = 6 ∨ ci = 7 ∨ ci = 8 ∨ ci = 9 ∨ ci = 10 by omega) with rfl | rfl | rfl | rfl | rfl | rfl | rfl | rfl | rfl | rfl | rfl <;> cases h
  · exact ⟨⟨_, tyX0_ok⟩, nmX0⟩
  · exact ⟨⟨_, tyX1_ok⟩, nmX1⟩
  · exact ⟨⟨_, tyX2_ok⟩, nmX2⟩
  · exact ⟨⟨_, tyX3_ok⟩, nmX3⟩
  · exact ⟨⟨_, tyX4_ok⟩, nmX4⟩
  · exact ⟨⟨_, tyX5_ok⟩, nmX5⟩
  · exact ⟨⟨_, tyX6_ok⟩, nmX6⟩
  · exact ⟨⟨_, tyX7_ok⟩, nmX7⟩
  · exact ⟨⟨_, tyX8_ok⟩, nmX8⟩
  · exact ⟨⟨_, tyX10_ok⟩, nmX10⟩
  · exact ⟨⟨_, tyX11_ok⟩, nmX11⟩
theorem zSame.use {ref own nm desc own9 : String} (h : zSame ref own nm desc) (ok : zOK P G own9 cc nL fr lo ret) : ∀ x, (zs G).fieldFound? own nm desc = some x → (zs G).fieldFound? ref nm desc = some x := by
  rcases h with rfl | h
  · exact fun _ h => h
  · exact fun x hx => u_same (ok.w h) x hx
theorem z_get0 (ok : zOK P G own cc nL fr lo ret) {ref nm fo desc : String} {idx ci j a : Nat} {C : String} {T : u_T} {N : Nat} {b : Bool} {t : Option Nat} (hc : vwCl[ci]? = some (C, T, N)) (hjN : j < N) (hT : T j = (fo, nm, desc, b)) (hj : (zft ci)[j]? = some t) (h : zT P ci a) (hs : zSame ref fo nm desc) (hw : zw (.fieldLink own idx ref nm desc) ∨ ∃ host, zwn (.fieldLinkNest own idx ref nm desc host)) (hd : decode cc pc = .ok (.getfield idx, 3)) (kk : zG P G F M (pc + 3) lv (zfv P M a ci j t :: st)) : zG P G F M pc lv (.ref a :: st) := by
  intro hF hM H locs ls hP hS hl
  obtain ⟨k, hk⟩ := zpl_get (f := zcell P M) h.1
  rw [zcell_o h.2 (zci hc)] at hk
  have hlay : ∀ w ∈ u_ws C T N, w.before G.2.1.1 (zs G) = true := fun w hw9 => ok.w (zlay hc w hw9)
  have hsm := hs.use ok
  rcases hw with hw | ⟨host, hw⟩
  · exact va_get (C := C) (T := T) (N := N) ok.x ok.b hlay (fun _ h => h) ok.o ok.k hP k hk hc j hjN (by rw [hT]; exact ok.w hw) (by rw [hT]; exact hsm) (zfs_get hj) hd (kk hF hM H locs ls hP hS hl)
  · exact va_getN (C := C) (T := T) (N := N) (host := host) ok.x ok.b hlay (fun _ h => h) ok.o ok.k hP k hk hc j hjN (by rw [hT]; exact va_Nw.use rfl (ok.m hw)) (by rw [hT]; exact hsm) (zfs_get hj) hd (kk hF hM H locs ls hP hS hl)
theorem z_get (ok : zOK P G own cc nL fr lo ret) {ref nm fo desc : String} {ty : FieldType} {idx f ci j a : Nat} (fd : zFd f ci j nm fo desc ty) (h : zT P ci a) (hs : zSame ref fo nm desc) (hw : zw (.fieldLink own idx ref nm desc)) (hd : decode cc pc = .ok (.getfield idx, 3)) (kk : zG P G F M (pc + 3) lv (.int (zf M f a) :: st)) : zG P G F M pc lv (.ref a :: st) := by
  obtain ⟨rfl, C, T, N, h1, h2, h3, h4, -⟩ := fd
  exact z_get0 ok h1 h2 h3 h4 h hs (Or.inl hw) hd kk
theorem z_getn (ok : zOK P G own cc nL fr lo ret) {ref nm fo desc host : String} {ty : FieldType} {idx f ci j a : Nat} (fd : zFd f ci j nm fo desc ty) (h : zT P ci a) (hs : zSame ref fo nm desc) (hw : zwn (.fieldLinkNest own idx ref nm desc host)) (hd : decode cc pc = .ok (.getfield idx, 3)) (kk : zG P G F M (pc + 3) lv (.int (zf M f a) :: st)) : zG P G F M pc lv (.ref a :: st) := by
  obtain ⟨rfl, C, T, N, h1, h2, h3, h4, -⟩ := fd
  exact z_get0 ok h1 h2 h3 h4 h hs (Or.inr ⟨host, hw⟩) hd kk
theorem z_getR (ok : zOK P G own cc nL fr lo ret) {ref nm fo desc : String} {idx f ci j a k : Nat} {kf : Nat → Option (Int32 × zM)} (fd : zFr f ci j nm fo desc k) (h : zT P ci a) (hs : zSame ref fo nm desc) (hw : zw (.fieldLink own idx ref nm desc)) (hd : decode cc pc = .ok (.getfield idx, 3)) (kk : ∀ b, zT P k b → zG P G (kf b) M (pc + 3) lv (.ref b :: st)) : zG P G (zl (zR P f a) kf) M pc lv (.ref a :: st) := by
  obtain ⟨rfl, C, T, N, b, h1, h2, h3, h4⟩ := fd
  exact z_get0 ok h1 h2 h3 h4 h hs (Or.inl hw) hd (kk _ (ok.p.1 a ci j k h h4))
theorem z_getRn (ok : zOK P G own cc nL fr lo ret) {ref nm fo desc host : String} {idx f ci j a k : Nat} {kf : Nat → Option (Int32 × zM)} (fd : zFr f ci j nm fo desc k) (h : zT P ci a) (hs : zSame ref fo nm desc) (hw : zwn (.fieldLinkNest own idx ref nm desc host)) (hd : decode cc pc = .ok (.getfield idx, 3)) (kk : ∀ b, zT P k b → zG P G (kf b) M (pc + 3) lv (.ref b :: st)) : zG P G (zl (zR P f a) kf) M pc lv (.ref a :: st) := by
  obtain ⟨rfl, C, T, N, b, h1, h2, h3, h4⟩ := fd
  exact z_get0 ok h1 h2 h3 h4 h hs (Or.inr ⟨host, hw⟩) hd (kk _ (ok.p.1 a ci j k h h4))
theorem z_put0 (ok : zOK P G own cc nL fr lo ret) {ref nm fo desc : String} {ty : FieldType} {idx ci j a : Nat} {v : Int32} {C : String} {T : u_T} {N : Nat} (hc : vwCl[ci]? = some (C, T, N)) (hjN : j < N) (hT : T j = (fo, nm, desc, false)) (hj : (zft ci)[j]? = some none) (hty : parseFieldDescriptor desc = some ty) (hn : narrow ty (.int v) = .int v) (hfit : fits ty (.int v) = true) (h : zT P ci a) (hs : zSame ref fo nm desc) (hw : zw (.fieldLink own idx ref nm desc) ∨ ∃ host, zwn (.fieldLinkNest own idx ref nm desc host)) (hd : decode cc pc = .ok (.putfield idx, 3)) (kk : zG P G F (zfp M (20 * ci + j) a v) (pc + 3) lv st) : zG P G F M pc lv (.int v :: .ref a :: st) := by
  intro hF hM H locs ls hP hS hl
  obtain ⟨k, hk0⟩ := zpl_get (f := zcell P M) h.1
  have hk := hk0
  rw [zcell_o h.2 (zci hc)] at hk
  have hlay : ∀ w ∈ u_ws C T N, w.before G.2.1.1 (zs G) = true := fun w hw9 => ok.w (zlay hc w hw9)
  have hsm := hs.use ok
  have hDD : va_D (zA P (zs G).heap.size) (va_pl (zL P) (zcell P M)) := zD_of ok.p
  have hset := zpl_set (e := .inr (ci, (zfs P M a ci).set j (.int v))) hDD h.1 hk0 (zcell_put h.2 (zci hc) hj)
  have hM2 : zWM P (zfp M (20 * ci + j) a v) := hM
  have hlen : j < (zfs P M a ci).length := by
    unfold zfs
    rw [List.length_mapIdx]
    exact (List.getElem?_eq_some_iff.mp hj).1
  obtain ⟨⟨ty0, hty0⟩, hnm⟩ := zcls hc
  have hfin : (T j).2.2.2 = false := by rw [hT]
  have hpd : parseFieldDescriptor (T j).2.2.1 = some ty := by rw [hT]; exact hty
  have k9 : ∀ (H1 : Heap) (locs1 : List Loc), va_P (zD P) vwCl ((va_pl (zL P) (zcell P M)).set k (a, .inr (ci, (zfs P M a ci).set j (.int v)))) H1 → va_D (zA P (zs G).heap.size) ((va_pl (zL P) (zcell P M)).set k (a, .inr (ci, (zfs P M a ci).set j (.int v)))) → va_S (zA P (zs G).heap.size) (zs G).heap H1 locs1 → zWat G H1 locs1 (pc + 3) ls st := fun H1 locs1 hP1 _ hS1 => kk hF hM2 H1 locs1 ls (by unfold zW; rw [hset] at hP1; exact hP1) hS1 hl
  rcases hw with hw | ⟨host, hw⟩
  · exact va_put (C := C) (T := T) (N := N) ok.x ok.b hlay (fun _ h => h) ty0 hty0 hnm ok.o ok.k hP hDD hS k hk hc j hjN (by rw [hT]; exact ok.w hw) (by rw [hT]; exact hsm) hfin hpd hn hfit hlen hd k9
  · exact va_putN (C := C) (T := T) (N := N) (host := host) ok.x ok.b hlay (fun _ h => h) ty0 hty0 hnm ok.o ok.k hP hDD hS k hk hc j hjN (by rw [hT]; exact va_Nw.use rfl (ok.m hw)) (by rw [hT]; exact hsm) hfin hpd hn hfit hlen hd k9
theorem z_put (ok : zOK P G own cc nL fr lo ret) {ref nm fo desc : String} {idx f ci j a : Nat} {v : Int32} {kf : zM → Option (Int32 × zM)} (fd : zFd f ci j nm fo desc .int) (h : zT P ci a) (hs : zSame ref fo nm desc) (hw : zw (.fieldLink own idx ref nm desc)) (hd : decode cc pc = .ok (.putfield idx, 3)) (kk : ∀ M', zG P G (kf M') M' (pc + 3) lv st) : zG P G (zl (zfp M f a v) kf) M pc lv (.int v :: .ref a :: st) := by
  obtain ⟨rfl, C, T, N, h1, h2, h3, h4, h5⟩ := fd
  exact z_put0 ok h1 h2 h3 h4 h5 rfl rfl h hs (Or.inl hw) hd (kk _)
theorem z_putn (ok : zOK P G own cc nL fr lo ret) {ref nm fo desc host : String} {idx f ci j a : Nat} {v : Int32} {kf : zM → Option (Int32 × zM)} (fd : zFd f ci j nm fo desc .int) (h : zT P ci a) (hs : zSame ref fo nm desc) (hw : zwn (.fieldLinkNest own idx ref nm desc host)) (hd : decode cc pc = .ok (.putfield idx, 3)) (kk : ∀ M', zG P G (kf M') M' (pc + 3) lv st) : zG P G (zl (zfp M f a v) kf) M pc lv (.int v :: .ref a :: st) := by
  obtain ⟨rfl, C, T, N, h1, h2, h3, h4, h5⟩ := fd
  exact z_put0 ok h1 h2 h3 h4 h5 rfl rfl h hs (Or.inr ⟨host, hw⟩) hd (kk _)
theorem zbo_ok {v : Int32} (h : zbo v = true) : narrow .boolean (.int v) = .int v ∧ fits .boolean (.int v) = true := by
  have h1 : v = 0 ∨ v = 1 := of_decide_eq_true h
  rcases h1 with rfl | rfl <;> exact ⟨rfl, rfl⟩
theorem z_putZ (ok : zOK P G own cc nL fr lo ret) {ref nm fo desc : String} {idx f ci j a : Nat} {v : Int32} {kf : zM → Option (Int32 × zM)} (fd : zFd f ci j nm fo desc .boolean) (h : zT P ci a) (hs : zSame ref fo nm desc) (hw : zw (.fieldLink own idx ref nm desc)) (hd : decode cc pc = .ok (.putfield idx, 3)) (kk : ∀ M', zG P G (kf M') M' (pc + 3) lv st) : zG P G (if zbo v = true then zl (zfp M f a v) kf else none) M pc lv (.int v :: .ref a :: st) := by
  intro hF
  by_cases hv : zbo v = true
  · rw [if_pos hv] at hF
    obtain ⟨rfl, C, T, N, h1, h2, h3, h4, h5⟩ := fd
    exact z_put0 ok h1 h2 h3 h4 h5 (zbo_ok hv).1 (zbo_ok hv).2 h hs (Or.inl hw) hd (kk _) hF
  · rw [if_neg hv] at hF
    cases hF
theorem z_putZn (ok : zOK P G own cc nL fr lo ret) {ref nm fo desc host : String} {idx f ci j a : Nat} {v : Int32} {kf : zM → Option (Int32 × zM)} (fd : zFd f ci j nm fo desc .boolean) (h : zT P ci a) (hs : zSame ref fo nm desc) (hw : zwn (.fieldLinkNest own idx ref nm desc host)) (hd : decode cc pc = .ok (.putfield idx, 3)) (kk : ∀ M', zG P G (kf M') M' (pc + 3) lv st) : zG P G (if zbo v = true then zl (zfp M f a v) kf else none) M pc lv (.int v :: .ref a :: st) := by
  intro hF
  by_cases hv : zbo v = true
  · rw [if_pos hv] at hF
    obtain ⟨rfl, C, T, N, h1, h2, h3, h4, h5⟩ := fd
    exact z_put0 ok h1 h2 h3 h4 h5 (zbo_ok hv).1 (zbo_ok hv).2 h hs (Or.inr ⟨host, hw⟩) hd (kk _) hF
  · rw [if_neg hv] at hF
    cases hF
/-! ===== arrays ===== -/
theorem zin_ok {i : Int32} {n : Nat} (h : zin i n = true) : vp_in i n := of_decide_eq_true (p := ¬ (i < 0 ∨ n ≤ i.toNatClampNeg)) h
theorem z_iald (ok : zOK P G own cc nL fr lo ret) {a : Nat} {i : Int32} (h : zT P 12 a) (hd : decode cc pc = .ok (.iaload, 1)) (kk : zG P G F M (pc + 1) lv (.int (za M a i.toNatClampNeg) :: st)) : zG P G (if zin i (zlen P a) = true then F else none) M pc lv (.int i :: .ref a :: st) := by
  intro hF hM H locs ls hP hS hl
  by_cases hv : zin i (zlen P a) = true
  · rw [if_pos hv] at hF
    obtain ⟨k, hk⟩ := zpl_get (f := zcell P M) h.1
    rw [zcell_i h.2 (Or.inr rfl)] at hk
    exact va_iald ok.x ok.b ok.k hP k 1 hk rfl (zin_ok hv) hd (kk hF hM H locs ls hP hS hl)
  · rw [if_neg hv] at hF
    cases hF
theorem z_cald (ok : zOK P G own cc nL fr lo ret) {a : Nat} {i : Int32} (h : zT P 11 a) (hd : decode cc pc = .ok (.caload, 1)) (kk : zG P G F M (pc + 1) lv (.int (za M a i.toNatClampNeg) :: st)) : zG P G (if zin i (zlen P a) = true then F else none) M pc lv (.int i :: .ref a :: st) := by
  intro hF hM H locs ls hP hS hl
  by_cases hv : zin i (zlen P a) = true
  · rw [if_pos hv] at hF
    obtain ⟨k, hk⟩ := zpl_get (f := zcell P M) h.1
    rw [zcell_i h.2 (Or.inl rfl)] at hk
    exact va_cald ok.x ok.b ok.k hP k 0 hk rfl (zin_ok hv) hd (kk hF hM H locs ls hP hS hl)
  · rw [if_neg hv] at hF
    cases hF
theorem z_iast (ok : zOK P G own cc nL fr lo ret) {a : Nat} {i v : Int32} {kf : zM → Option (Int32 × zM)} (h : zT P 12 a) (hd : decode cc pc = .ok (.iastore, 1)) (kk : ∀ M', zG P G (kf M') M' (pc + 1) lv st) : zG P G (if zin i (zlen P a) = true then zl (zap M a i.toNatClampNeg v) kf else none) M pc lv (.int v :: .int i :: .ref a :: st) := by
  intro hF hM H locs ls hP hS hl
  by_cases hv : zin i (zlen P a) = true
  · rw [if_pos hv] at hF
    obtain ⟨k, hk0⟩ := zpl_get (f := zcell P M) h.1
    have hk := hk0
    rw [zcell_i h.2 (Or.inr rfl)] at hk
    have hDD : va_D (zA P (zs G).heap.size) (va_pl (zL P) (zcell P M)) := zD_of ok.p
    have hset := zpl_set hDD h.1 hk0 (zcell_aput (i := i.toNatClampNeg) (v := v) h.2 (Or.inr rfl))
    exact va_iast ok.x ok.b ok.k hP hDD hS k 1 hk rfl (zin_ok hv) hd (fun H1 locs1 hP1 _ hS1 => kk _ hF hM H1 locs1 ls (by unfold zW; rw [hset] at hP1; exact hP1) hS1 hl)
  · rw [if_neg hv] at hF
    cases hF
theorem z_cast (ok : zOK P G own cc nL fr lo ret) {a : Nat} {i v : Int32} {kf : zM → Option (Int32 × zM)} (h : zT P 11 a) (hd : decode cc pc = .ok (.castore, 1)) (kk : ∀ M', zG P G (kf M') M' (pc + 1) lv st) : zG P G (if zin i (zlen P a) = true then zl (zap M a i.toNatClampNeg (vp_nar .char v)) kf else none) M pc lv (.int v :: .int i :: .ref a :: st) := by
  intro hF hM H locs ls hP hS hl
  by_cases hv : zin i (zlen P a) = true
  · rw [if_pos hv] at hF
    obtain ⟨k, hk0⟩ := zpl_get (f := zcell P M) h.1
    have hk := hk0
    rw [zcell_i h.2 (Or.inl rfl)] at hk
    have hDD : va_D (zA P (zs G).heap.size) (va_pl (zL P) (zcell P M)) := zD_of ok.p
    have hset := zpl_set hDD h.1 hk0 (zcell_aput (i := i.toNatClampNeg) (v := vp_nar .char v) h.2 (Or.inl rfl))
    exact va_cast ok.x ok.b ok.k hP hDD hS k 0 hk rfl (zin_ok hv) hd (fun H1 locs1 hP1 _ hS1 => kk _ hF hM H1 locs1 ls (by unfold zW; rw [hset] at hP1; exact hP1) hS1 hl)
  · rw [if_neg hv] at hF
    cases hF
theorem z_aald (ok : zOK P G own cc nL fr lo ret) {a ka k : Nat} {i : Int32} {kf : Nat → Option (Int32 × zM)} (he : zEk ka k) (h : zT P ka a) (hd : decode cc pc = .ok (.aaload, 1)) (kk : ∀ b, zT P k b → zG P G (kf b) M (pc + 1) lv (.ref b :: st)) : zG P G (if zin i (zlen P a) = true then zl (zr M a i.toNatClampNeg) kf else none) M pc lv (.int i :: .ref a :: st) := by
  intro hF hM H locs ls hP hS hl
  by_cases hv : zin i (zlen P a) = true
  · rw [if_pos hv] at hF
    obtain ⟨q, hq⟩ := zpl_get (f := zcell P M) h.1
    rw [zcell_r h.2 he.2.1] at hq
    obtain ⟨t, ht⟩ := he.2.2
    have hin := zin_ok hv
    have hlt : i.toNatClampNeg < zlen P a := Nat.not_le.mp fun q => hin (Or.inr q)
    refine W.aald (v := va_rf (some (zr M a i.toNatClampNeg))) (ty := zety ka) ok.x ok.b (hP q _ hq) ((ok.k.2 t _ (ht P)).1 (zlen P a) (fun j => va_rf (some (zr M a j)))) ?_ (fun q => by cases q) (by show ¬ (i < 0 ∨ (arrV _ _ _).slots.size ≤ _); rw [arrV_size]; exact hin) (by show (arrV _ _ _).slots[_]? = _; rw [arrV_read _ _ hlt]) rfl rfl hd (kk _ (hM a ka k _ h he.1 hlt) hF hM H locs ls hP hS hl)
    unfold zety
    split <;> first | rfl | exact absurd he.2.1 (by decide)
  · rw [if_neg hv] at hF
    cases hF
theorem z_aast (ok : zOK P G own cc nL fr lo ret) {a b ka k : Nat} {i : Int32} {C : String} {T : u_T} {N : Nat} {kf : zM → Option (Int32 × zM)} (he : zEk ka k) (hc : vwCl[k]? = some (C, T, N)) (hty : zety ka = .object C) (h : zT P ka a) (hb : zT P k b) (hd : decode cc pc = .ok (.aastore, 1)) (kk : ∀ M', zG P G (kf M') M' (pc + 1) lv st) : zG P G (if zin i (zlen P a) = true then zl (zrp M a i.toNatClampNeg b) kf else none) M pc lv (.ref b :: .int i :: .ref a :: st) := by
  intro hF hM H locs ls hP hS hl
  by_cases hv : zin i (zlen P a) = true
  · rw [if_pos hv] at hF
    obtain ⟨q, hq0⟩ := zpl_get (f := zcell P M) h.1
    have hq := hq0
    rw [zcell_r h.2 he.2.1] at hq
    obtain ⟨qb, hqb⟩ := zpl_get (f := zcell P M) hb.1
    rw [zcell_o hb.2 (zci hc)] at hqb
    obtain ⟨t, ht⟩ := he.2.2
    have ht' : (ztys P)[t]? = some (zcy P ka, .object ((C, T, N) : vw_C).1) := by rw [ht P, hty]
    have hDD : va_D (zA P (zs G).heap.size) (va_pl (zL P) (zcell P M)) := zD_of ok.p
    have hset := zpl_set hDD h.1 hq0 (zcell_rput (i := i.toNatClampNeg) (v := b) h.2 he.2.1)
    have hM2 : zWM P (zrp M a i.toNatClampNeg b) := by
      intro a1 k1 k2 i1 h1 h2 h3
      by_cases e : a1 = a ∧ i1 = i.toNatClampNeg
      · obtain ⟨rfl, rfl⟩ := e
        have e1 : k1 = ka := h1.2.symm.trans h.2
        subst e1
        have e2 : k = k2 := Option.some.inj (he.1.symm.trans h2)
        subst e2
        have e3 : zr (zrp M a1 i.toNatClampNeg b) a1 i.toNatClampNeg = b := by simp [zr, zrp, zu]
        rw [e3]
        exact hb
      · have e3 : zr (zrp M a i.toNatClampNeg b) a1 i1 = zr M a1 i1 := by simp [zr, zrp, zu, e]
        rw [e3]
        exact hM a1 k1 k2 i1 h1 h2 h3
    exact va_astq ok.x ok.b ok.k hP hDD hS q t qb k hq ht' hqb hc (zin_ok hv) hd (fun H1 locs1 hP1 _ hS1 => kk _ hF hM2 H1 locs1 ls (by unfold zW; rw [hset] at hP1; exact hP1) hS1 hl)
  · rw [if_neg hv] at hF
    cases hF
theorem z_alen (ok : zOK P G own cc nL fr lo ret) {a ka k : Nat} (he : zEk ka k) (h : zT P ka a) (hd : decode cc pc = .ok (.arraylength, 1)) (kk : zG P G F M (pc + 1) lv (.int (Int32.ofNat (zlen P a)) :: st)) : zG P G F M pc lv (.ref a :: st) := by
  intro hF hM H locs ls hP hS hl
  obtain ⟨q, hq⟩ := zpl_get (f := zcell P M) h.1
  rw [zcell_r h.2 he.2.1] at hq
  obtain ⟨t, ht⟩ := he.2.2
  exact va_alen ok.x ok.b ok.k hP q t hq (ht P) rfl hd (kk hF hM H locs ls hP hS hl)
/-! ===== returns ===== -/
theorem zend {ret : Option FieldType} {ty : FieldType} {v : Int32} {t : State} {H : Heap} (hret : ret = some ty) (hF : some (v, M) = some G.2.2.2) (hM : zWM P M) (hP : zW P M H) {locs : List Loc} (hS : va_S (zA P (zs G).heap.size) (zs G).heap H locs) (ht : t.heap = H) : zQ ret P (zs G).heap.size G.2.2.2 G.2.1.1 (zs G) (.returned (some (.int v))) t := by
  subst hret
  have e := Option.some.inj hF
  exact ⟨⟨v, M, rfl, ⟨by rw [← e], by rw [← e]⟩, hM, by rw [ht]; exact hP⟩, hS.F ht⟩
theorem z_iret (ok : zOK P G own cc nL fr lo (some .int)) {v : Int32} (hd : decode cc pc = .ok (.ireturn, 1)) : zG P G (some (v, M)) M pc lv [.int v] := by
  intro hF hM H locs ls hP hS hl
  unfold zWat
  rw [ok.2.2.2]
  exact W.iret ok.x ok.b ok.1.2.2.2.2.2 (fun t ht _ => zend rfl hF hM hP hS ht) hS.2.2 hd ok.1.2.2.2.2.1
theorem z_zret (ok : zOK P G own cc nL fr lo (some .boolean)) {v : Int32} (hd : decode cc pc = .ok (.ireturn, 1)) : zG P G (if zbo v = true then some (v, M) else none) M pc lv [.int v] := by
  intro hF hM H locs ls hP hS hl
  by_cases hv : zbo v = true
  · rw [if_pos hv] at hF
    unfold zWat
    rw [ok.2.2.2]
    exact W.zret ok.x ok.b ok.1.2.2.2.2.2 (zbo_ok hv).1 (fun t ht _ => zend rfl hF hM hP hS ht) hS.2.2 hd ok.1.2.2.2.2.1
  · rw [if_neg hv] at hF
    cases hF
theorem z_vret (ok : zOK P G own cc nL fr lo none) (hd : decode cc pc = .ok (.return_, 1)) : zG P G (some (0, M)) M pc lv [] := by
  intro hF hM H locs ls hP hS hl
  have e := Option.some.inj hF
  unfold zWat
  rw [ok.2.2.2]
  exact W.vret ok.x ok.b ok.1.2.2.2.2.2 (fun t ht _ => ⟨⟨M, rfl, by rw [← e], hM, by rw [ht]; exact hP⟩, hS.F ht⟩) hS.2.2 hd ok.1.2.2.2.2.1
/-! ===== calls ===== -/
theorem zcallB (ok : zOK P G own cc nL fr lo ret) {y : MethodName} {cy : ByteArray} {maxC frc loc n : Nat} {retc : Option FieldType} (hcode : zw (.code y cy maxC retc)) (hini : zw (.initialized y.cls)) (hd9 : y.cls ≠ "java/lang/invoke/MethodHandle" ∧ y.cls ≠ "java/lang/invoke/VarHandle" ∧ (parseMethodDescriptor y.desc).map (fun d => d.parameters.length) = some n) (hR : frc + 1 ≤ fr ∧ 8 + (maxC + 11) + loc ≤ lo) {idx : Nat} (hl : zw (.methodLink own idx y)) : CallB G.1.2.2.2.1 (zs G) G.2.1.1 own idx y cy maxC retc [.code y cy maxC retc] (zrm frc loc) 0 0 n := by
  refine ⟨rfl, rfl, by rw [ok.2.2.1]; exact hR.1, by rw [ok.2.2.1]; exact hR.2, fun w hw a' U hW => ?_, List.mem_cons_self, ok.w hcode, ok.w hini, ⟨hd9.1, hd9.2.1⟩, fun sig h => ?_, ok.w hl⟩
  · rw [List.mem_singleton.mp hw]
    exact (ok.t.warm hW).1 _ hcode a'
  · have h2 := hd9.2.2
    rw [h] at h2
    exact (Option.some.inj h2).symm
theorem zcallN (ok : zOK P G own cc nL fr lo ret) {y : MethodName} {cy : ByteArray} {maxC frc loc n : Nat} {retc : Option FieldType} (hcode : zw (.code y cy maxC retc)) (hini : zw (.initialized y.cls)) (hd9 : y.cls ≠ "java/lang/invoke/MethodHandle" ∧ y.cls ≠ "java/lang/invoke/VarHandle" ∧ (parseMethodDescriptor y.desc).map (fun d => d.parameters.length) = some n) (hR : frc + 1 ≤ fr ∧ 8 + (maxC + 11) + loc ≤ lo) {idx : Nat} {host : String} (hl : zwn (.methodLinkNest own idx y host)) : va_CN G.1.2.2.2.1 (zs G) G.2.1.1 own idx y host cy maxC retc [.code y cy maxC retc] (zrm frc loc) 0 0 n := by
  refine ⟨⟨rfl, rfl, by rw [ok.2.2.1]; exact hR.1, by rw [ok.2.2.1]; exact hR.2, fun w hw a' U hW => ?_, List.mem_cons_self⟩, ok.w hcode, ok.w hini, ⟨hd9.1, hd9.2.1⟩, fun sig h => ?_, va_Nw.use rfl (ok.m hl)⟩
  · rw [List.mem_singleton.mp hw]
    exact (ok.t.warm hW).1 _ hcode a'
  · have h2 := hd9.2.2
    rw [h] at h2
    exact (Option.some.inj h2).symm
theorem zpre_at (ok : zOK P G own cc nL fr lo ret) {H : Heap} (hM : zWM P M) (hP : zW P M H) {U : State} (hU : U.heap = H) (hW : (zs G).WarmedH U.vm) : zPre P H.size M U :=
  ⟨by rw [hU], hM, by rw [hU]; exact hP, va_K.moved hW.alike ok.k, ok.t.warm hW⟩
theorem zfree {H : Heap} {locs : List Loc} (hS : va_S (zA P (zs G).heap.size) (zs G).heap H locs) : ∀ q, zA P H.size q → zA P (zs G).heap.size q := fun q h => h.elim Or.inl (fun h => Or.inr (Nat.le_trans hS.1 h))
/-- behind a call that answers an int -/
theorem zafter_i {H : Heap} {locs : List Loc} {ls : Array Slot} {st0 : List Value} {retc : Option FieldType} {ty : FieldType} (hrc : retc = some ty) {ar : Array Value} {res : Int32 × zM} (hS : va_S (zA P (zs G).heap.size) (zs G).heap H locs) (hl : lv_has ls (zcd G).maxLocals lv)
    (hr : va_Run G.1.1 G.1.2.1 G.1.2.2.1 G.1.2.2.2.1 (zs G) G.1.2.2.2.2.2 G.2.1.1 G.2.1.2.1 G.2.1.2.2.1 G.2.1.2.2.2 H locs 0 0 0 0 (F0 G.1.2.2.2.2.2 pc ls st0) st (zQ retc P H.size res ar) (zA P H.size))
    (kk : zAt P G res.2 (pc + 3) lv (.int res.1 :: st)) : zWat G H locs pc ls st0 := by
  subst hrc
  refine va_calli (a := ar) hr hS (fun q _ h => zfree hS q h) (zfree hS) (fun r u t H1 locs1 ht hvm hw hB hz hk hS1 => ?_)
  obtain ⟨rfl, rfl⟩ := hw
  exact kk hB.1 H1 locs1 ls (by rw [← ht]; exact hB.2) hS1 hl
theorem zafter_v {H : Heap} {locs : List Loc} {ls : Array Slot} {st0 : List Value} {ar : Array Value} {res : Int32 × zM} (hS : va_S (zA P (zs G).heap.size) (zs G).heap H locs) (hl : lv_has ls (zcd G).maxLocals lv)
    (hr : va_Run G.1.1 G.1.2.1 G.1.2.2.1 G.1.2.2.2.1 (zs G) G.1.2.2.2.2.2 G.2.1.1 G.2.1.2.1 G.2.1.2.2.1 G.2.1.2.2.2 H locs 0 0 0 0 (F0 G.1.2.2.2.2.2 pc ls st0) st (zQ none P H.size res ar) (zA P H.size))
    (kk : zAt P G res.2 (pc + 3) lv st) : zWat G H locs pc ls st0 := by
  refine va_callv (a := ar) hr hS (fun q _ h => zfree hS q h) (zfree hS) (fun u t H1 locs1 ht hvm hw hB hz hk hS1 => ?_)
  subst hw
  exact kk hB.1 H1 locs1 ls (by rw [← ht]; exact hB.2) hS1 hl
theorem zb_some {x : Option (Int32 × zM)} {k : Int32 → zM → Option (Int32 × zM)} {r : Int32 × zM} (h : zb x k = some r) : ∃ q, x = some q ∧ k q.1 q.2 = some r := by
  cases x with
  | none => cases h
  | some q => exact ⟨q, rfl, h⟩
theorem zrecv (ok : zOK P G own cc nL fr lo ret) {H : Heap} (hP : zW P M H) {b kd : Nat} {C : String} {T : u_T} {N : Nat} (hb : zT P kd b) (hc : vwCl[kd]? = some (C, T, N)) : ∃ cell : Cell, H[b]? = some cell ∧ cell.vm.isStatics = false ∧ (zs G).vm.findClass C = some cell.cls := by
  obtain ⟨q, hq⟩ := zpl_get (f := zcell P M) hb.1
  rw [zcell_o hb.2 (zci hc)] at hq
  exact va_recv (q := (C, T, N)) ok.k hP hc hq
theorem z_callVi (ok : zOK P G own cc nL fr lo ret) {y : MethodName} {C : String} {cy : ByteArray} {maxC frc loc n idx kd b : Nat} {ty : FieldType} {Fc : zM → Option (Int32 × zM)} {k : Int32 → zM → Option (Int32 × zM)} {st0 : List Value} {X : Option (Int32 × zM)} (As : List Value) (hM9 : zMet G.1.2.1 P y cy maxC frc loc (some ty) (.ref b :: As) Fc) (cv : zCv own C idx y cy maxC n kd (some ty)) (hb : zT P kd b) (hn : As.length = n) (hR : frc + 1 ≤ fr ∧ 8 + (maxC + 11) + loc ≤ lo) (hst : st0 = As.reverse ++ .ref b :: st) (hcat : (st.map fun v => v.category).sum ≤ 8) (hX : Fc M = X) (hd : decode cc pc = .ok (.invokevirtual idx, 3)) (kk : ∀ (r : Int32) (M' : zM), zG P G (k r M') M' (pc + 3) lv (.int r :: st)) : zG P G (zb X k) M pc lv st0 := by
  intro hF hM H locs ls hP hS hl
  subst hX
  obtain ⟨q, hq, hk⟩ := zb_some hF
  obtain ⟨c1, c2, c3, c4, c5, c6, T, N, c7⟩ := cv
  exact zafter_i rfl hS hl (va_runV (As := As) (rest := st) ⟨ok.x, ok.b, ok.n, ok.o, fun w (hw : w ∈ ([] : List Cond)) => absurd hw List.not_mem_nil⟩ (hM9 H.size M q hq) ⟨zcallB ok c1 c2 c6 hR c3, ok.w c4, ok.w c5⟩ ⟨zPre_blind, zrecv ok hP hb c7, fun U hU hW => ⟨rfl, zpre_at ok hM hP hU hW⟩⟩ rfl hn (hl.1.trans ok.n) hst (lv_room hcat) hd ⟨Nat.zero_le _, Nat.zero_le _⟩) (kk q.1 q.2 hk)
theorem z_callVv (ok : zOK P G own cc nL fr lo ret) {y : MethodName} {C : String} {cy : ByteArray} {maxC frc loc n idx kd b : Nat} {Fc : zM → Option (Int32 × zM)} {k : Int32 → zM → Option (Int32 × zM)} {st0 : List Value} {X : Option (Int32 × zM)} (As : List Value) (hM9 : zMet G.1.2.1 P y cy maxC frc loc none (.ref b :: As) Fc) (cv : zCv own C idx y cy maxC n kd none) (hb : zT P kd b) (hn : As.length = n) (hR : frc + 1 ≤ fr ∧ 8 + (maxC + 11) + loc ≤ lo) (hst : st0 = As.reverse ++ .ref b :: st) (hcat : (st.map fun v => v.category).sum ≤ 8) (hX : Fc M = X) (hd : decode cc pc = .ok (.invokevirtual idx, 3)) (kk : ∀ (r : Int32) (M' : zM), zG P G (k r M') M' (pc + 3) lv st) : zG P G (zb X k) M pc lv st0 := by
  intro hF hM H locs ls hP hS hl
  subst hX
  obtain ⟨q, hq, hk⟩ := zb_some hF
  obtain ⟨c1, c2, c3, c4, c5, c6, T, N, c7⟩ := cv
  exact zafter_v hS hl (va_runV (As := As) (rest := st) ⟨ok.x, ok.b, ok.n, ok.o, fun w (hw : w ∈ ([] : List Cond)) => absurd hw List.not_mem_nil⟩ (hM9 H.size M q hq) ⟨zcallB ok c1 c2 c6 hR c3, ok.w c4, ok.w c5⟩ ⟨zPre_blind, zrecv ok hP hb c7, fun U hU hW => ⟨rfl, zpre_at ok hM hP hU hW⟩⟩ rfl hn (hl.1.trans ok.n) hst (lv_room hcat) hd ⟨Nat.zero_le _, Nat.zero_le _⟩) (kk q.1 q.2 hk)
theorem z_callSi (ok : zOK P G own cc nL fr lo ret) {y : MethodName} {cy : ByteArray} {maxC frc loc n idx : Nat} {ty : FieldType} {Fc : zM → Option (Int32 × zM)} {k : Int32 → zM → Option (Int32 × zM)} {st0 : List Value} {X : Option (Int32 × zM)} (As : List Value) (hM9 : zMet G.1.2.1 P y cy maxC frc loc (some ty) As Fc) (cv : zCs own idx y cy maxC n (some ty)) (hn : As.length = n) (hR : frc + 1 ≤ fr ∧ 8 + (maxC + 11) + loc ≤ lo) (hst : st0 = As.reverse ++ st) (hcat : (st.map fun v => v.category).sum ≤ 8) (hX : Fc M = X) (hd : decode cc pc = .ok (.invokestatic idx, 3)) (kk : ∀ (r : Int32) (M' : zM), zG P G (k r M') M' (pc + 3) lv (.int r :: st)) : zG P G (zb X k) M pc lv st0 := by
  intro hF hM H locs ls hP hS hl
  subst hX
  obtain ⟨q, hq, hk⟩ := zb_some hF
  obtain ⟨c1, c2, c3, c4, c5⟩ := cv
  rcases c5 with c5 | ⟨host, c5⟩
  · exact zafter_i rfl hS hl (va_runS (As := As) (rest := st) ⟨ok.x, ok.b, ok.n, ok.o, fun w (hw : w ∈ ([] : List Cond)) => absurd hw List.not_mem_nil⟩ (hM9 H.size M q hq) ⟨zcallB ok c1 c2 c4 hR c5, ok.w c3⟩ ⟨zPre_blind, fun U hU hW => ⟨rfl, zpre_at ok hM hP hU hW⟩⟩ rfl hn (hl.1.trans ok.n) hst (lv_room hcat) hd ⟨Nat.zero_le _, Nat.zero_le _⟩) (kk q.1 q.2 hk)
  · exact zafter_i rfl hS hl (va_runSN (As := As) (rest := st) ⟨ok.x, ok.b, ok.n, ok.o, fun w (hw : w ∈ ([] : List Cond)) => absurd hw List.not_mem_nil⟩ (hM9 H.size M q hq) ⟨zcallN ok c1 c2 c4 hR c5, ok.w c3, trivial⟩ ⟨zPre_blind, fun U hU hW => ⟨rfl, zpre_at ok hM hP hU hW⟩⟩ rfl hn (hl.1.trans ok.n) hst (lv_room hcat) hd ⟨Nat.zero_le _, Nat.zero_le _⟩) (kk q.1 q.2 hk)
theorem z_callSv (ok : zOK P G own cc nL fr lo ret) {y : MethodName} {cy : ByteArray} {maxC frc loc n idx : Nat} {Fc : zM → Option (Int32 × zM)} {k : Int32 → zM → Option (Int32 × zM)} {st0 : List Value} {X : Option (Int32 × zM)} (As : List Value) (hM9 : zMet G.1.2.1 P y cy maxC frc loc none As Fc) (cv : zCs own idx y cy maxC n none) (hn : As.length = n) (hR : frc + 1 ≤ fr ∧ 8 + (maxC + 11) + loc ≤ lo) (hst : st0 = As.reverse ++ st) (hcat : (st.map fun v => v.category).sum ≤ 8) (hX : Fc M = X) (hd : decode cc pc = .ok (.invokestatic idx, 3)) (kk : ∀ (r : Int32) (M' : zM), zG P G (k r M') M' (pc + 3) lv st) : zG P G (zb X k) M pc lv st0 := by
  intro hF hM H locs ls hP hS hl
  subst hX
  obtain ⟨q, hq, hk⟩ := zb_some hF
  obtain ⟨c1, c2, c3, c4, c5⟩ := cv
  rcases c5 with c5 | ⟨host, c5⟩
  · exact zafter_v hS hl (va_runS (As := As) (rest := st) ⟨ok.x, ok.b, ok.n, ok.o, fun w (hw : w ∈ ([] : List Cond)) => absurd hw List.not_mem_nil⟩ (hM9 H.size M q hq) ⟨zcallB ok c1 c2 c4 hR c5, ok.w c3⟩ ⟨zPre_blind, fun U hU hW => ⟨rfl, zpre_at ok hM hP hU hW⟩⟩ rfl hn (hl.1.trans ok.n) hst (lv_room hcat) hd ⟨Nat.zero_le _, Nat.zero_le _⟩) (kk q.1 q.2 hk)
  · exact zafter_v hS hl (va_runSN (As := As) (rest := st) ⟨ok.x, ok.b, ok.n, ok.o, fun w (hw : w ∈ ([] : List Cond)) => absurd hw List.not_mem_nil⟩ (hM9 H.size M q hq) ⟨zcallN ok c1 c2 c4 hR c5, ok.w c3, trivial⟩ ⟨zPre_blind, fun U hU hW => ⟨rfl, zpre_at ok hM hP hU hW⟩⟩ rfl hn (hl.1.trans ok.n) hst (lv_room hcat) hd ⟨Nat.zero_le _, Nat.zero_le _⟩) (kk q.1 q.2 hk)
theorem z_min (ok : zOK P G own cc nL fr lo ret) {idx : Nat} {x y : Int32} (h1 : zw (.methodLink own idx Lib.Math.min.name)) (h2 : zw (.static Lib.Math.min.name)) (h3 : zw (.initialized "java/lang/Math")) (h4 : zw (.code Lib.Math.min.name Lib.Math.min.code 2 (some .int))) (hR : 1 ≤ fr ∧ (st.map fun v => v.category).sum + 13 ≤ lo) (hd : decode cc pc = .ok (.invokestatic idx, 3)) (kk : zG P G F M (pc + 3) lv (.int (if y < x then y else x) :: st)) : zG P G F M pc lv (.int y :: .int x :: st) := by
  intro hF hM H locs ls hP hS hl
  exact va_mmin ok.x ok.b hl.1.symm ok.o (ok.w h1) (ok.w h2) (ok.w h3) (ok.w h4) (by rw [ok.2.2.1]; exact hR.1) (by rw [ok.2.2.1]; exact hR.2) (Nat.zero_le _) (Nat.zero_le _) hd (kk hF hM H locs ls hP hS hl)
theorem z_abs (ok : zOK P G own cc nL fr lo ret) {idx : Nat} {x : Int32} (h1 : zw (.methodLink own idx Lib.Math.abs.name)) (h2 : zw (.static Lib.Math.abs.name)) (h3 : zw (.initialized "java/lang/Math")) (h4 : zw (.code Lib.Math.abs.name Lib.Math.abs.code 1 (some .int))) (hR : 1 ≤ fr ∧ (st.map fun v => v.category).sum + 13 ≤ lo) (hd : decode cc pc = .ok (.invokestatic idx, 3)) (kk : zG P G F M (pc + 3) lv (.int (if 0 ≤ x then x else 0 - x) :: st)) : zG P G F M pc lv (.int x :: st) := by
  intro hF hM H locs ls hP hS hl
  exact va_mabs ok.x ok.b hl.1.symm ok.o (ok.w h1) (ok.w h2) (ok.w h3) (ok.w h4) (by rw [ok.2.2.1]; exact hR.1) (by rw [ok.2.2.1]; exact hR.2) (Nat.zero_le _) (Nat.zero_le _) hd (kk hF hM H locs ls hP hS hl)
end ZR

/-! ===== rows of the law's body, behind the constructors ===== -/
def lCx (P : zSt) (G : zC) (x b L : Nat) (xs : Nat → Int32) : Prop :=
  (G.1.1.tables.exec = Jvm.exec ∧ (zcd G).code = cL_law ∧ (zcd G).maxLocals = 4 ∧ (zs G).vm.findClass "MeshRouterLaw" = some G.1.2.2.2.2.2.cls) ∧
  (va_K (zD P) vwCl (ztys P) (zs G) ∧ zTab (zs G) ∧ zOKP P) ∧ G.1.2.2.2.1 = room_1 ∧
  (va_X b L xs (zs G) (zs G).heap ∧ b < (zs G).heap.size ∧ (zs G).heap.size = x ∧ (∀ q, q ∈ zL P → x ≤ q) ∧ L ≤ 3584) ∧
  ∀ (H : Heap) (ls : Array Slot), cWat G 600000 7302250 H [] 909 ls [.int 1]
def lAt (P : zSt) (G : zC) (x : Nat) (M : zM) (pc : Nat) (lv : List (Nat × Value)) (st : List Value) : Prop :=
  zWM P M → ∀ (H : Heap) (locs : List Loc) (ls : Array Slot), zW P M H → va_S (fun q => x ≤ q) (zs G).heap H locs → lv_has ls (zcd G).maxLocals lv → cWat G 390 9670 H locs pc ls st
section LR
variable {P : zSt} {G : zC} {x b L : Nat} {xs : Nat → Int32} {M : zM} {pc : Nat} {lv : List (Nat × Value)} {st : List Value}
theorem lCx.ex (ok : lCx P G x b L xs) : G.1.1.tables.exec = Jvm.exec := ok.1.1
theorem lCx.bc (ok : lCx P G x b L xs) : G.2.1.2.2.2.code = cL_law := ok.1.2.1
theorem lCx.n (ok : lCx P G x b L xs) : G.2.1.2.2.2.maxLocals = 4 := ok.1.2.2.1
theorem lCx.o (ok : lCx P G x b L xs) : (zs G).vm.findClass "MeshRouterLaw" = some G.1.2.2.2.2.2.cls := ok.1.2.2.2
theorem lCx.k (ok : lCx P G x b L xs) : va_K (zD P) vwCl (ztys P) (zs G) := ok.2.1.1
theorem lCx.t (ok : lCx P G x b L xs) : zTab (zs G) := ok.2.1.2.1
theorem lCx.p (ok : lCx P G x b L xs) : zOKP P := ok.2.1.2.2
theorem lCx.w (ok : lCx P G x b L xs) {w : Cond} (h : zw w) : w.before G.2.1.1 (zs G) = true := ok.t.1 w h _
theorem lCx.r (ok : lCx P G x b L xs) : G.1.2.2.2.1 = room_1 := ok.2.2.1
theorem lCx.sc (ok : lCx P G x b L xs) : va_X b L xs (zs G) (zs G).heap := ok.2.2.2.1.1
theorem lCx.bl (ok : lCx P G x b L xs) : b < (zs G).heap.size := ok.2.2.2.1.2.1
theorem lCx.sz (ok : lCx P G x b L xs) : (zs G).heap.size = x := ok.2.2.2.1.2.2.1
theorem lCx.up (ok : lCx P G x b L xs) : ∀ q, q ∈ zL P → x ≤ q := ok.2.2.2.1.2.2.2.1
theorem lCx.le (ok : lCx P G x b L xs) : L ≤ 3584 := ok.2.2.2.1.2.2.2.2
theorem lCx.nb (ok : lCx P G x b L xs) : ¬ x ≤ b := by
  have h1 := ok.bl
  have h2 := ok.sz
  omega
theorem l_aload_n (ok : lCx P G x b L xs) {i : Fin 4} {a : Nat} (j : Nat) (hd : decode cL_law pc = .ok (.aload_n i, 1)) (hj : lv[j]? = some ((i : Nat), .ref a)) (kk : lAt P G x M (pc + 1) lv (.ref a :: st)) : lAt P G x M pc lv st :=
  fun hM H locs ls hW hS hl => lv_aload_n ok.ex ok.bc hd rfl (lv_at hl j hj) (kk hM H locs ls hW hS hl)
theorem l_iload_n (ok : lCx P G x b L xs) {i : Fin 4} {a : Int32} (j : Nat) (hd : decode cL_law pc = .ok (.iload_n i, 1)) (hj : lv[j]? = some ((i : Nat), .int a)) (kk : lAt P G x M (pc + 1) lv (.int a :: st)) : lAt P G x M pc lv st :=
  fun hM H locs ls hW hS hl => lv_iload_n ok.ex ok.bc hd rfl (lv_at hl j hj) (kk hM H locs ls hW hS hl)
theorem l_iconst (ok : lCx P G x b L xs) {z : Int} (v : Int32) (hd : decode cL_law pc = .ok (.iconst z, 1)) (hv : Int32.ofInt z = v) (kk : lAt P G x M (pc + 1) lv (.int v :: st)) : lAt P G x M pc lv st :=
  fun hM H locs ls hW hS hl => lv_iconst ok.ex ok.bc hd hv (kk hM H locs ls hW hS hl)
theorem l_bipush (ok : lCx P G x b L xs) {z : Int} (v : Int32) (hd : decode cL_law pc = .ok (.bipush z, 2)) (hv : (Int8.ofInt z).toInt32 = v) (kk : lAt P G x M (pc + 2) lv (.int v :: st)) : lAt P G x M pc lv st :=
  fun hM H locs ls hW hS hl => lv_bipush ok.ex ok.bc hd hv (kk hM H locs ls hW hS hl)
theorem l_iadd (ok : lCx P G x b L xs) {a c : Int32} (hd : decode cL_law pc = .ok (.iadd, 1)) (kk : lAt P G x M (pc + 1) lv (.int (a + c) :: st)) : lAt P G x M pc lv (.int c :: .int a :: st) :=
  fun hM H locs ls hW hS hl => lv_iadd ok.ex ok.bc hd (kk hM H locs ls hW hS hl)
theorem l_isub (ok : lCx P G x b L xs) {a c : Int32} (hd : decode cL_law pc = .ok (.isub, 1)) (kk : lAt P G x M (pc + 1) lv (.int (a - c) :: st)) : lAt P G x M pc lv (.int c :: .int a :: st) :=
  fun hM H locs ls hW hS hl => lv_isub ok.ex ok.bc hd (kk hM H locs ls hW hS hl)
theorem l_iand (ok : lCx P G x b L xs) {a c : Int32} (hd : decode cL_law pc = .ok (.iand, 1)) (kk : lAt P G x M (pc + 1) lv (.int (a &&& c) :: st)) : lAt P G x M pc lv (.int c :: .int a :: st) :=
  fun hM H locs ls hW hS hl => lv_iand ok.ex ok.bc hd (kk hM H locs ls hW hS hl)
theorem l_goto (ok : lCx P G x b L xs) {off : Int} (tgt : Nat) (hd : decode cL_law pc = .ok (.goto off, 3)) (ht : (pc : Int) + off = (tgt : Int)) (kk : lAt P G x M tgt lv st) : lAt P G x M pc lv st :=
  fun hM H locs ls hW hS hl => lv_goto ok.ex ok.bc hd ht (kk hM H locs ls hW hS hl)
theorem l_iinc (ok : lCx P G x b L xs) {i : Nat} {z : Int} {a d : Int32} (lv' : List (Nat × Value)) (j : Nat) (hd : decode cL_law pc = .ok (.iinc i z, 3)) (hj : lv[j]? = some (i, .int a)) (hv : Int32.ofInt z = d) (hn : i < 4) (hl : (i, Value.int (a + d)) :: lv.filter (fun q => !(q.1 == i) && !(q.1 + 1 == i && q.2.category == 2)) = lv') (kk : lAt P G x M (pc + 3) lv' st) : lAt P G x M pc lv st :=
  fun hM H locs ls hW hS hl9 => lv_iinc (v := a + d) (lv' := lv') ok.ex ok.bc hd hl9 hj (by rw [hv]) (by rw [ok.n.symm] at hn; exact hn) hl (fun ls' h' => kk hM H locs ls' hW hS h')
theorem l_icmp_gt (ok : lCx P G x b L xs) {a c : Int32} {off : Int} (tgt : Nat) (hd : decode cL_law pc = .ok (.if_icmp .gt off, 3)) (ht : (pc : Int) + off = (tgt : Int)) (kt : c < a → lAt P G x M tgt lv st) (kf : ¬ c < a → lAt P G x M (pc + 3) lv st) : lAt P G x M pc lv (.int c :: .int a :: st) :=
  fun hM H locs ls hW hS hl => lv_icmp_gt ok.ex ok.bc hd ht (fun h => kt h hM H locs ls hW hS hl) (fun h => kf h hM H locs ls hW hS hl)
theorem l_icmp_eq (ok : lCx P G x b L xs) {a : Int32} {off : Int} (tgt : Nat) (hd : decode cL_law pc = .ok (.if_icmp .eq off, 3)) (ht : (pc : Int) + off = (tgt : Int)) (kt : lAt P G x M tgt lv st) : lAt P G x M pc lv (.int a :: .int a :: st) :=
  fun hM H locs ls hW hS hl => lv_icmp_eq ok.ex ok.bc hd ht (fun _ => kt hM H locs ls hW hS hl) (fun h => absurd rfl h)
theorem l_alen (ok : lCx P G x b L xs) (hd : decode cL_law pc = .ok (.arraylength, 1)) (kk : lAt P G x M (pc + 1) lv (.int (nI L) :: st)) : lAt P G x M pc lv (.ref b :: st) :=
  fun hM H locs ls hW hS hl => va_slen ok.ex ok.bc ok.sc ok.bl ok.nb hS hd (kk hM H locs ls hW hS hl)
theorem l_ald (ok : lCx P G x b L xs) {i : Nat} (hi : i < L) (hd : decode cL_law pc = .ok (.iaload, 1)) (kk : lAt P G x M (pc + 1) lv (.int (xs i) :: st)) : lAt P G x M pc lv (.int (nI i) :: .ref b :: st) := by
  intro hM H locs ls hW hS hl
  have hL := ok.le
  have hin : vp_in (nI i) L := by
    intro h
    rcases h with h | h
    · exact nI_pos (by omega) h
    · rw [n_nat (by omega)] at h
      omega
  refine va_sld ok.ex ok.bc ok.sc ok.bl ok.nb hS hin hd ?_
  rw [n_nat (by omega)]
  exact kk hM H locs ls hW hS hl
/-- the k-th int behind the action's -/
theorem l_par (ok : lCx P G x b L xs) {i k : Nat} {y : Nat} {z : Int} (hk : i + k < L) (d0 : decode cL_law pc = .ok (.aload_n 0, 1)) (d1 : decode cL_law (pc + 1) = .ok (.iload_n 3, 1)) (d2 : decode cL_law (pc + 2) = .ok (.iconst z, 1)) (hz : Int32.ofInt z = nI k) (d3 : decode cL_law (pc + 3) = .ok (.iadd, 1)) (d4 : decode cL_law (pc + 4) = .ok (.iaload, 1)) (kk : lAt P G x M (pc + 5) [(3, .int (nI i)), (2, .ref y), (1, .ref x), (0, .ref b)] (.int (xs (i + k)) :: st)) : lAt P G x M pc [(3, .int (nI i)), (2, .ref y), (1, .ref x), (0, .ref b)] st := by
  refine l_aload_n ok 3 d0 rfl ?_
  refine l_iload_n ok 0 d1 rfl ?_
  refine l_iconst ok (nI k) d2 hz ?_
  refine l_iadd ok d3 ?_
  rw [n_add]
  exact l_ald ok hk d4 kk
theorem l_parb (ok : lCx P G x b L xs) {i k : Nat} {y : Nat} {z : Int} (hk : i + k < L) (d0 : decode cL_law pc = .ok (.aload_n 0, 1)) (d1 : decode cL_law (pc + 1) = .ok (.iload_n 3, 1)) (d2 : decode cL_law (pc + 2) = .ok (.bipush z, 2)) (hz : (Int8.ofInt z).toInt32 = nI k) (d3 : decode cL_law (pc + 4) = .ok (.iadd, 1)) (d4 : decode cL_law (pc + 5) = .ok (.iaload, 1)) (kk : lAt P G x M (pc + 6) [(3, .int (nI i)), (2, .ref y), (1, .ref x), (0, .ref b)] (.int (xs (i + k)) :: st)) : lAt P G x M pc [(3, .int (nI i)), (2, .ref y), (1, .ref x), (0, .ref b)] st := by
  refine l_aload_n ok 3 d0 rfl ?_
  refine l_iload_n ok 0 d1 rfl ?_
  refine l_bipush ok (nI k) d2 hz ?_
  refine l_iadd ok d3 ?_
  rw [n_add]
  exact l_ald ok hk d4 kk
theorem l_tsw (ok : lCx P G x b L xs) {dflt lo hi : Int} {offs : Array Int} {len : Nat} {a : Int32} (td : Nat) (ts : List Nat) (hd : decode cL_law pc = .ok (.tableswitch dflt lo hi offs, len)) (hts : offs.toList.map (fun o => ((pc : Int) + o)) = ts.map (fun (t : Nat) => (t : Int))) (hb : hi - lo + 1 = (ts.length : Int)) (htd : (pc : Int) + dflt = (td : Int)) (ka : ∀ t ∈ ts, lAt P G x M t lv st) (kd : lAt P G x M td lv st) : lAt P G x M pc lv (.int a :: st) := by
  intro hM H locs ls hW hS hl
  by_cases h1 : a.toInt < lo
  · exact lv_tableOut ok.ex ok.bc hd (Or.inl h1) htd (kd hM H locs ls hW hS hl)
  · by_cases h2 : hi < a.toInt
    · exact lv_tableOut ok.ex ok.bc hd (Or.inr h2) htd (kd hM H locs ls hW hS hl)
    · have hi : (a.toInt - lo).toNat < ts.length := by omega
      have e1 : (ts.map (fun (t : Nat) => (t : Int)))[(a.toInt - lo).toNat]? = some ((ts[(a.toInt - lo).toNat] : Nat) : Int) := by
        rw [List.getElem?_map, List.getElem?_eq_getElem hi]
        rfl
      rw [← hts, List.getElem?_map] at e1
      cases ho : offs.toList[(a.toInt - lo).toNat]? with
      | none => rw [ho] at e1; cases e1
      | some o =>
        rw [ho] at e1
        have e2 : (pc : Int) + o = ((ts[(a.toInt - lo).toNat] : Nat) : Int) := Option.some.inj e1
        exact lv_tableIn ok.ex ok.bc hd h1 h2 (by rw [← Array.getElem?_toList]; exact ho) e2 (ka _ (List.getElem_mem hi) hM H locs ls hW hS hl)
theorem l_call (ok : lCx P G x b L xs) {y : MethodName} {C : String} {cyc : ByteArray} {maxC frc loc n idx kd o : Nat} {ty : FieldType} {Fc : zM → Option (Int32 × zM)} {st0 : List Value} {r : Int32} {M1 : zM} (As : List Value) (hM9 : zMet G.1.2.1 P y cyc maxC frc loc (some ty) (.ref o :: As) Fc) (cv : zCv "MeshRouterLaw" C idx y cyc maxC n kd (some ty)) (hb : zT P kd o) (hn : As.length = n) (hR : frc + 1 ≤ 10 ∧ 8 + (maxC + 11) + loc ≤ 412) (hst : st0 = As.reverse ++ .ref o :: st) (hcat : (st.map fun v => v.category).sum ≤ 8) (hF : Fc M = some (r, M1)) (hd : decode cL_law pc = .ok (.invokevirtual idx, 3)) (kk : lAt P G x M1 (pc + 3) lv (.int r :: st)) : lAt P G x M pc lv st0 := by
  intro hM H locs ls hP hS hl
  obtain ⟨c1, c2, c3, c4, c5, c6, T, N, c7⟩ := cv
  have hrc : ∃ cell : Cell, H[o]? = some cell ∧ cell.vm.isStatics = false ∧ (zs G).vm.findClass C = some cell.cls := by
    obtain ⟨q, hq⟩ := zpl_get (f := zcell P M) hb.1
    rw [zcell_o hb.2 (zci c7)] at hq
    exact va_recv (q := (C, T, N)) ok.k hP c7 hq
  have hwords : ∀ w ∈ ([.code y cyc maxC (some ty)] : List Cond), ∀ (a' : Array Value) (U : State), (zs G).WarmedH U.vm → w.before a' U = true := fun w hw a' U hW' => by
    rw [List.mem_singleton.mp hw]
    exact (ok.t.warm hW').1 _ c1 a'
  have hlen : ∀ sig, parseMethodDescriptor y.desc = some sig → n = sig.parameters.length := fun sig h => by
    have h2 := c6.2.2
    rw [h] at h2
    exact (Option.some.inj h2).symm
  have hfr : (zrm frc loc).frames + 1 ≤ G.1.2.2.2.1.frames := by rw [ok.r]; exact hR.1
  have hlo : 8 + (maxC + 11) + (zrm frc loc).locals ≤ G.1.2.2.2.1.locals := by rw [ok.r]; exact hR.2
  have hr : va_Run G.1.1 G.1.2.1 G.1.2.2.1 G.1.2.2.2.1 (zs G) G.1.2.2.2.2.2 G.2.1.1 G.2.1.2.1 G.2.1.2.2.1 G.2.1.2.2.2 H locs 390 9670 0 0 (F0 G.1.2.2.2.2.2 pc ls st0) st (zQ (some ty) P H.size (r, M1) (Value.ref o :: As).toArray) (zA P H.size) :=
    va_runV (As := As) (rest := st) ⟨ok.ex, ok.bc, ok.n, ok.o, fun w (hw : w ∈ ([] : List Cond)) => absurd hw List.not_mem_nil⟩ (hM9 H.size M (r, M1) hF) ⟨⟨rfl, rfl, hfr, hlo, hwords, List.mem_cons_self, ok.w c1, ok.w c2, ⟨c6.1, c6.2.1⟩, hlen, ok.w c3⟩, ok.w c4, ok.w c5⟩ ⟨zPre_blind, hrc, fun U hU hW' => ⟨rfl, by rw [hU], hM, by rw [hU]; exact hP, va_K.moved hW'.alike ok.k, ok.t.warm hW'⟩⟩ rfl hn (hl.1.trans ok.n) hst (lv_room hcat) hd (by rw [ok.r]; exact ⟨by decide, by decide⟩)
  have hA : ∀ q, zA P H.size q → x ≤ q := fun q h => h.elim (ok.up q) (fun h => by
    have h1 := hS.1
    have h2 := ok.sz
    omega)
  refine va_calli (a := (Value.ref o :: As).toArray) (A0 := fun q => x ≤ q) hr hS (fun q _ h => hA q h) hA (fun r' u t H1 locs1 ht hvm hw hB hz hk hS1 => ?_)
  obtain ⟨rfl, rfl⟩ := hw
  exact kk hB.1 H1 locs1 ls (by rw [← ht]; exact hB.2) hS1 hl
theorem l_end (ok : lCx P G x b L xs) : lAt P G x M 909 lv [.int 1] := by
  intro hM H locs ls hW hS hl
  refine W.widen (k := 600000) (n := 7302250) (by decide) (by decide) ?_
  refine va_forget (fun q hq => ?_) (ok.2.2.2.2 H ls)
  have h1 := hS.2.2 q hq
  have h2 := ok.sz
  have h3 : (zs G).heap.size ≤ q.base := by rw [h2]; exact h1
  exact h3
end LR

/-! ===== what was made lies as the tables say ===== -/
section LY
variable {cy : Nat → ClassId} {x i : Nat}
theorem ceq_o {k : Nat} {fs : List Value} (hk : tK i = k) (h10 : k ≤ 10) (h : cfs x i k (zft k) 0 = fs) : ceq (.inr (k, fs)) (cI cy x i) := by
  subst h
  unfold cI
  rw [hk, if_pos h10]
  exact ceq.rf
theorem ceq_i {k n : Nat} {f : Nat → Int32} (hk : tK i = k) (h10 : k = 11 ∨ k = 12) (hn : tL i = n) (h : ∀ j, j < n → f j = tA i j) : ceq (.inl (cy k, n, .inl f)) (cI cy x i) := by
  unfold cI
  rw [hk, hn, if_neg (by omega), if_pos (by omega)]
  exact ceq.i h
theorem ceq_r {k n : Nat} {f : Nat → Option Nat} (hk : tK i = k) (h10 : 13 ≤ k) (hn : tL i = n) (h : ∀ j, j < n → f j = some (x + tR i j)) : ceq (.inl (cy k, n, .inr (.inr (.inr (.inr f))))) (cI cy x i) := by
  unfold cI
  rw [hk, hn, if_neg (by omega), if_neg (by omega)]
  exact ceq.r h
theorem tA_0 (h : tC i = 0) (j : Nat) : tA i j = 0 := by
  unfold tA
  rw [h, if_neg (by decide), if_neg (by decide)]
theorem tA_1 (h : tC i = 1) (j : Nat) : tA i j = -1 := by
  unfold tA
  rw [h, if_neg (by decide), if_pos rfl]
def dZr (i n : Nat) : Prop := tK i = 12 ∧ tL i = n ∧ tC i = 0
theorem ceq_z {n : Nat} (h : dZr i n) : ceq (.inl (cy 12, n, .inl (fun _ => 0))) (cI cy x i) := ceq_i h.1 (Or.inr rfl) h.2.1 (fun j _ => (tA_0 h.2.2 j).symm)
def dText (i : Nat) : Prop := tK i = 7 ∧ tR i 0 = i + 1 ∧ tK (i + 1) = 11 ∧ tL (i + 1) = 40 ∧ tC (i + 1) = 0
theorem l_text (h : dText i) : cAll cy x i (cText cy (x + i)) := by
  obtain ⟨h1, h2, h3, h4, h5⟩ := h
  refine ⟨ceq_o h1 (by decide) ?_, ceq_i h3 (Or.inl rfl) h4 (fun j _ => (tA_0 h5 j).symm), trivial⟩
  show [Value.ref (x + tR i 0), .int (tI 141)] = _
  rw [h2]
  rfl
theorem l_target (h : tK i = 6) : ceq (.inr (6, [.int 0, .int 0, .int 0, .int 0, .int 0])) (cI cy x i) := ceq_o h (by decide) rfl
theorem l_backend (h : tK i = 0) : ceq (.inr (0, [.int 0, .int 0, .int 0, .int 0, .int 0, .int 0, .int 0, .int 0, .int 0, .int 0, .int 0, .int 0, .int 0, .int 0])) (cI cy x i) := ceq_o h (by decide) rfl
theorem l_rep {e : va_E} : ∀ n i, (∀ j, j < n → ceq e (cI cy x (i + j))) → cAll cy x i (List.replicate n e) := by
  intro n
  induction n with
  | zero => intro i _; exact trivial
  | succ n ih =>
    intro i h
    exact ⟨h 0 (by omega), ih (i + 1) (fun j hj => by
      have := h (j + 1) (by omega)
      rw [show i + (j + 1) = i + 1 + j by omega] at this
      exact this)⟩
def dService (i : Nat) : Prop := tK i = 5 ∧ tR i 8 = i + 1 ∧ tR i 9 = i + 2 ∧ dZr (i + 1) 3 ∧ tK (i + 2) = 12 ∧ tL (i + 2) = 10 ∧ tC (i + 2) = 1
theorem l_service (h : dService i) : cAll cy x i (cService cy (x + i)) := by
  obtain ⟨h1, h2, h3, h4, h5, h6, h7⟩ := h
  refine ⟨ceq_o h1 (by decide) ?_, ceq_z h4, ceq_i h5 (Or.inr rfl) h6 (fun j hj => ?_), trivial⟩
  · show [Value.int (tI 100), .int (tI 101), .int (tI 102), .int (tI 103), .int (tI 104), .int (tI 105), .int (tI 106), .int (tI 107), .ref (x + tR i 8), .ref (x + tR i 9)] = _
    rw [h2, h3]
    rfl
  · rw [tA_1 h7]
    unfold kpF
    rw [if_pos hj]
def dTrail (i : Nat) : Prop := tK i = 8 ∧ tR i 0 = i + 1 ∧ tK (i + 1) = 17 ∧ tL (i + 1) = 4 ∧ (∀ j, j < 4 → tR (i + 1) j = i + 2 + j) ∧ ∀ j, j < 4 → dZr (i + 2 + j) 4
theorem l_trail (h : dTrail i) : cAll cy x i (cTrail cy (x + i)) := by
  obtain ⟨h1, h2, h3, h4, h5, h6⟩ := h
  refine ⟨ceq_o h1 (by decide) ?_, ceq_r h3 (by decide) h4 (fun j hj => ?_), l_rep 4 (i + 1 + 1) (fun j hj => ceq_z (h6 j hj))⟩
  · show [Value.ref (x + tR i 0), .int (tI 161)] = _
    rw [h2]
    rfl
  · rw [if_pos hj, h5 j hj]
    congr 1
    omega
def dRule (i : Nat) : Prop := tK i = 3 ∧ tR i 0 = i + 1 ∧ tR i 3 = i + 3 ∧ dText (i + 1) ∧ tK (i + 3) = 16 ∧ tL (i + 3) = 3 ∧ (∀ j, j < 3 → tR (i + 3) j = i + 4 + j) ∧ ∀ j, j < 3 → tK (i + 4 + j) = 6
theorem l_rule (h : dRule i) : cAll cy x i (cRule cy (x + i)) := by
  obtain ⟨h1, h2, h3, h4, h5, h6, h7, h8⟩ := h
  refine ⟨ceq_o h1 (by decide) ?_, cAll_app _ _ _ (l_text h4) ⟨ceq_r (i := i + 1 + (cText cy (x + i + 1)).length) h5 (by decide) h6 (fun j hj => ?_), l_rep 3 (i + 1 + 2 + 1) (fun j hj => l_target ?_)⟩⟩
  · show [Value.ref (x + tR i 0), .int (tI 61), .int (tI 62), .ref (x + tR i 3), .int (tI 64), .int (tI 65), .int (tI 66)] = _
    rw [h2, h3]
    rfl
  · show rfF (x + i + 4) 1 3 j = some (x + tR (i + 3) j)
    unfold rfF
    rw [if_pos hj, h7 j hj]
    congr 1
    omega
  · rw [show i + 1 + 2 + 1 + j = i + 4 + j by omega]
    exact h8 j hj
def dMesh (i : Nat) : Prop := tK i = 1 ∧ (tR i 0 = i + 1 ∧ tR i 2 = i + 2 ∧ tR i 3 = i + 3 ∧ tR i 15 = i + 4) ∧ (tK (i + 1) = 13 ∧ tL (i + 1) = 12 ∧ ∀ j, j < 12 → tR (i + 1) j = i + 10 + j) ∧ (tK (i + 2) = 15 ∧ tL (i + 2) = 4 ∧ ∀ j, j < 4 → tR (i + 2) j = i + 22 + 3 * j) ∧ (tK (i + 3) = 14 ∧ tL (i + 3) = 8 ∧ ∀ j, j < 8 → tR (i + 3) j = i + 34 + 7 * j) ∧ dTrail (i + 4) ∧ (∀ j, j < 12 → tK (i + 10 + j) = 0) ∧ (∀ j, j < 4 → dService (i + 22 + 3 * j)) ∧ ∀ j, j < 8 → dRule (i + 34 + 7 * j)
theorem l_svs (h : ∀ j, j < 4 → dService (i + 22 + 3 * j)) : ∀ n, n ≤ 4 → cAll cy x (i + 22) (svs cy (x + i) n) := by
  intro n
  induction n with
  | zero => intro _; exact trivial
  | succ n ih =>
    intro hn
    refine cAll_app _ _ _ (ih (by omega)) ?_
    rw [svs_n, show x + i + (3 * n + 22) = x + (i + 22 + 3 * n) by omega]
    exact l_service (h n (by omega))
theorem l_rus (h : ∀ j, j < 8 → dRule (i + 34 + 7 * j)) : ∀ n, n ≤ 8 → cAll cy x (i + 34) (rus cy (x + i) n) := by
  intro n
  induction n with
  | zero => intro _; exact trivial
  | succ n ih =>
    intro hn
    refine cAll_app _ _ _ (ih (by omega)) ?_
    rw [rus_n, show x + i + (7 * n + 34) = x + (i + 34 + 7 * n) by omega]
    exact l_rule (h n (by omega))
theorem l_mesh (h : dMesh i) : cAll cy x i (cMesh cy (x + i)) := by
  obtain ⟨h1, ⟨a1, a2, a3, a4⟩, ⟨b1, b2, b3⟩, ⟨c1, c2, c3⟩, ⟨d1, d2, d3⟩, h6, h7, h8, h9⟩ := h
  refine ⟨ceq_o h1 (by decide) ?_, ceq_r b1 (by decide) b2 (fun j hj => ?_), ceq_r c1 (by decide) c2 (fun j hj => ?_), ceq_r d1 (by decide) d2 (fun j hj => ?_), cAll_app _ _ _ (l_trail (i := i + 4) h6) (cAll_app _ _ _ (l_rep 12 (i + 10) (fun j hj => l_backend (h7 j hj))) (cAll_app _ _ _ (l_svs h8 4 (Nat.le_refl _)) (l_rus h9 8 (Nat.le_refl _))))⟩
  · show [Value.ref (x + tR i 0), .int (tI 21), .ref (x + tR i 2), .ref (x + tR i 3), .int (tI 24), .int (tI 25), .int (tI 26), .int (tI 27), .int (tI 28), .int (tI 29), .int (tI 30), .int (tI 31), .int (tI 32), .int (tI 33), .int (tI 34), .ref (x + tR i 15)] = _
    rw [a1, a2, a3, a4]
    rfl
  · unfold rfF
    rw [if_pos hj, b3 j hj]
    congr 1
    omega
  · unfold rfF
    rw [if_pos hj, c3 j hj]
    congr 1
    omega
  · unfold rfF
    rw [if_pos hj, d3 j hj]
    congr 1
    omega
theorem d_m1 : ∀ m, m < 4 → tK (90 * m + 1) = 1 ∧ tR (90 * m + 1) 0 = 90 * m + 1 + 1 ∧ tR (90 * m + 1) 2 = 90 * m + 1 + 2 ∧ tR (90 * m + 1) 3 = 90 * m + 1 + 3 ∧ tR (90 * m + 1) 15 = 90 * m + 1 + 4 := by decide +kernel
theorem d_m2 : ∀ m, m < 4 → tK (90 * m + 1 + 1) = 13 ∧ tL (90 * m + 1 + 1) = 12 ∧ ∀ j, j < 12 → tR (90 * m + 1 + 1) j = 90 * m + 1 + 10 + j := by decide +kernel
theorem d_m3 : ∀ m, m < 4 → tK (90 * m + 1 + 2) = 15 ∧ tL (90 * m + 1 + 2) = 4 ∧ ∀ j, j < 4 → tR (90 * m + 1 + 2) j = 90 * m + 1 + 22 + 3 * j := by decide +kernel
theorem d_m4 : ∀ m, m < 4 → tK (90 * m + 1 + 3) = 14 ∧ tL (90 * m + 1 + 3) = 8 ∧ ∀ j, j < 8 → tR (90 * m + 1 + 3) j = 90 * m + 1 + 34 + 7 * j := by decide +kernel
theorem d_m5 : ∀ m, m < 4 → dTrail (90 * m + 1 + 4) := by
  unfold dTrail dZr
  decide +kernel
theorem d_m6 : ∀ m, m < 4 → ∀ j, j < 12 → tK (90 * m + 1 + 10 + j) = 0 := by decide +kernel
theorem d_m7 : ∀ m, m < 4 → ∀ j, j < 4 → dService (90 * m + 1 + 22 + 3 * j) := by
  unfold dService dZr
  decide +kernel
theorem d_m8 : ∀ m, m < 4 → ∀ j, j < 8 → dRule (90 * m + 1 + 34 + 7 * j) := by
  unfold dRule dText
  decide +kernel
theorem d_mesh : ∀ m, m < 4 → dMesh (90 * m + 1) := fun m hm => ⟨(d_m1 m hm).1, (d_m1 m hm).2, d_m2 m hm, d_m3 m hm, d_m4 m hm, d_m5 m hm, d_m6 m hm, d_m7 m hm, d_m8 m hm⟩
theorem d_rest : dZr 362 60 ∧ dZr 363 60 ∧ dZr 364 60 ∧ dZr 365 60 ∧ dZr 366 60 ∧ dText 367 ∧ dText 369 ∧ dRule 372 ∧ tK 0 = 9 ∧ tK 361 = 2 ∧ tK 371 = 4 ∧ tK 379 = 10 := by
  unfold dRule dText dZr
  decide +kernel
theorem d_mod : (tK 380 = 12 ∧ tL 380 = 723 ∧ tC 380 = 2) ∧ dZr 381 723 ∧ dZr 382 723 ∧ dZr 383 723 ∧ dZr 384 40 ∧ dZr 385 240 ∧ dZr 386 2400 ∧ dZr 387 80 ∧ dZr 388 58 ∧ dZr 389 40 := by
  unfold dZr
  decide +kernel
theorem cAll_at {as bs : List va_E} {k : Nat} (h1 : cAll cy x i as) (hk : i + as.length = k) (h2 : cAll cy x k bs) : cAll cy x i (as ++ bs) := by
  subst hk
  exact cAll_app as bs i h1 h2
theorem cReader_n {a tx : Nat} : (cReader cy a tx).length = 8 := rfl
theorem cRouter_n {a : Nat} : (cRouter cy a).length = 379 := by
  unfold cRouter
  simp only [List.length_cons, List.length_append, cMesh_n, cRecording_n, cText_n, cReader_n]
theorem d_tr : [tR 0 0, tR 0 1, tR 0 2, tR 0 3, tR 0 4, tR 0 5, tR 0 6, tR 0 7] = [1, 91, 181, 271, 361, 367, 369, 371] ∧ [tR 361 0, tR 361 1, tR 361 2, tR 361 3, tR 361 4] = [362, 363, 364, 365, 366] ∧ [tR 371 0, tR 371 1] = [367, 372] ∧ [tR 379 0, tR 379 1, tR 379 2, tR 379 3, tR 379 6, tR 379 8, tR 379 9, tR 379 11, tR 379 15, tR 379 17] = [380, 381, 382, 383, 384, 385, 386, 387, 388, 389] := by decide +kernel
theorem l_r0 : ceq (.inr (9, [.ref (x + 1), .ref (x + 91), .ref (x + 181), .ref (x + 271), .ref (x + 361), .ref (x + 367), .ref (x + 369), .ref (x + 371), .int 0])) (cI cy x 0) := by
  refine ceq_o d_rest.2.2.2.2.2.2.2.2.1 (by decide) ?_
  have h := d_tr.1
  simp only [List.cons.injEq] at h
  obtain ⟨h0, h1, h2, h3, h4, h5, h6, h7, -⟩ := h
  show [Value.ref (x + tR 0 0), .ref (x + tR 0 1), .ref (x + tR 0 2), .ref (x + tR 0 3), .ref (x + tR 0 4), .ref (x + tR 0 5), .ref (x + tR 0 6), .ref (x + tR 0 7), .int (tI 188)] = _
  rw [h0, h1, h2, h3, h4, h5, h6, h7]
  rfl
theorem l_r1 : ceq (.inr (2, [.ref (x + 361 + 1), .ref (x + 361 + 2), .ref (x + 361 + 3), .ref (x + 361 + 4), .ref (x + 361 + 5), .int 0, .int 0])) (cI cy x 361) := by
  refine ceq_o d_rest.2.2.2.2.2.2.2.2.2.1 (by decide) ?_
  have h := d_tr.2.1
  simp only [List.cons.injEq] at h
  obtain ⟨h0, h1, h2, h3, h4, -⟩ := h
  show [Value.ref (x + tR 361 0), .ref (x + tR 361 1), .ref (x + tR 361 2), .ref (x + tR 361 3), .ref (x + tR 361 4), .int (tI 45), .int (tI 46)] = _
  rw [h0, h1, h2, h3, h4]
  rfl
theorem l_r2 : ceq (.inr (4, [.ref (x + 367), .ref (x + 371 + 1), .int 0])) (cI cy x 371) := by
  refine ceq_o d_rest.2.2.2.2.2.2.2.2.2.2.1 (by decide) ?_
  have h := d_tr.2.2.1
  simp only [List.cons.injEq] at h
  obtain ⟨h0, h1, -⟩ := h
  show [Value.ref (x + tR 371 0), .ref (x + tR 371 1), .int (tI 82)] = _
  rw [h0, h1]
  rfl
theorem l_r3 : ceq (.inr (10, [.ref (x + 379 + 1), .ref (x + 379 + 2), .ref (x + 379 + 3), .ref (x + 379 + 4), .int 0, .int 0, .ref (x + 379 + 5), .int 0, .ref (x + 379 + 6), .ref (x + 379 + 7), .int 0, .ref (x + 379 + 8), .int 0, .int 0, .int 0, .ref (x + 379 + 9), .int (-1), .ref (x + 379 + 10)])) (cI cy x 379) := by
  refine ceq_o d_rest.2.2.2.2.2.2.2.2.2.2.2 (by decide) ?_
  have h := d_tr.2.2.2
  simp only [List.cons.injEq] at h
  obtain ⟨h0, h1, h2, h3, h4, h5, h6, h7, h8, h9, -⟩ := h
  show [Value.ref (x + tR 379 0), .ref (x + tR 379 1), .ref (x + tR 379 2), .ref (x + tR 379 3), .int (tI 204), .int (tI 205), .ref (x + tR 379 6), .int (tI 207), .ref (x + tR 379 8), .ref (x + tR 379 9), .int (tI 210), .ref (x + tR 379 11), .int (tI 212), .int (tI 213), .int (tI 214), .ref (x + tR 379 15), .int (tI 216), .ref (x + tR 379 17)] = _
  rw [h0, h1, h2, h3, h4, h5, h6, h7, h8, h9]
  rfl
theorem l_model : cAll cy x 379 (cModel cy (x + 379)) := by
  obtain ⟨⟨q1, q2, q3⟩, e1, e2, e3, e4, e5, e6, e7, e8, e9⟩ := d_mod
  refine ⟨l_r3, ceq_i q1 (Or.inr rfl) q2 (fun j _ => ?_), ceq_z e1, ceq_z e2, ceq_z e3, ceq_z e4, ceq_z e5, ceq_z e6, ceq_z e7, ceq_z e8, ceq_z e9, trivial⟩
  unfold tA
  rw [if_pos q3]
theorem l_router : cAll cy x 0 (cRouter cy x ++ cModel cy (x + 379)) := by
  obtain ⟨r1, r2, r3, r4, r5, r6, r7, r8, r9, r10, r11, r12⟩ := d_rest
  refine cAll_at (k := 379) ?_ (by rw [cRouter_n]) l_model
  refine ⟨l_r0, ?_⟩
  have m0 : cAll cy x 1 (cMesh cy (x + 1)) := l_mesh (d_mesh 0 (by decide))
  have m1 : cAll cy x 91 (cMesh cy (x + 91)) := l_mesh (d_mesh 1 (by decide))
  have m2 : cAll cy x 181 (cMesh cy (x + 181)) := l_mesh (d_mesh 2 (by decide))
  have m3 : cAll cy x 271 (cMesh cy (x + 271)) := l_mesh (d_mesh 3 (by decide))
  have m4 : cAll cy x 361 (cRecording cy (x + 361)) := ⟨l_r1, ceq_z r1, ceq_z r2, ceq_z r3, ceq_z r4, ceq_z r5, trivial⟩
  have m7 : cAll cy x 371 (cReader cy (x + 371) (x + 367)) := ⟨l_r2, l_rule r8⟩
  have nn : ∀ {P : Prop}, P → P := fun h => h
  refine cAll_at (k := 371) (cAll_at (k := 369) (cAll_at (k := 367) (cAll_at (k := 361) (cAll_at (k := 271) (cAll_at (k := 181) (cAll_at (k := 91) m0 ?_ m1) ?_ m2) ?_ m3) ?_ m4) ?_ (l_text r6)) ?_ (l_text r7)) ?_ m7
  all_goals simp only [List.length_append, cMesh_n, cRecording_n, cText_n]
end LY

/-! ===== class object and reference alike at the start ===== -/
section R0
variable {D : va_G} {cy : Nat → ClassId} {x i o : Nat}
def gg (x o : Nat) : zGr := (fun i => x + (o + 10 + i), fun s => x + (o + 22 + 3 * s), fun r => x + (o + 34 + 7 * r), fun r t => x + (o + 34 + 7 * r + 4 + t), fun i => x + (o + 4 + 2 + i))
theorem e_B : gB (gg x o) i = x + (o + 10 + i) := rfl
theorem e_S : gS (gg x o) i = x + (o + 22 + 3 * i) := rfl
theorem e_Q : gQ (gg x o) i = x + (o + 34 + 7 * i) := rfl
theorem e_T {t : Nat} : gT (gg x o) i t = x + (o + 34 + 7 * i + 4 + t) := rfl
theorem e_P : gP (gg x o) i = x + (o + 4 + 2 + i) := rfl
theorem e_X (h : dMesh o) (hi : i < 4) : gX (pP D cy x) (gg x o) i = x + (o + 22 + 3 * i + 1) := by
  show zR (pP D cy x) 108 (x + (o + 22 + 3 * i)) = _
  rw [p_R]
  show x + tR (o + 22 + 3 * i) 8 = _
  rw [(h.2.2.2.2.2.2.2.1 i hi).2.1]
theorem e_K (h : dMesh o) (hi : i < 4) : gK (pP D cy x) (gg x o) i = x + (o + 22 + 3 * i + 2) := by
  show zR (pP D cy x) 109 (x + (o + 22 + 3 * i)) = _
  rw [p_R]
  show x + tR (o + 22 + 3 * i) 9 = _
  rw [(h.2.2.2.2.2.2.2.1 i hi).2.2.1]
theorem e_W (h : dMesh o) (hi : i < 8) : gW (pP D cy x) (gg x o) i = x + (o + 34 + 7 * i + 1) := by
  show zR (pP D cy x) 60 (x + (o + 34 + 7 * i)) = _
  rw [p_R]
  show x + tR (o + 34 + 7 * i) 0 = _
  rw [(h.2.2.2.2.2.2.2.2 i hi).2.1]
theorem e_Z (h : dMesh o) (hi : i < 8) : gZ (pP D cy x) (gg x o) i = x + (o + 34 + 7 * i + 1 + 1) := by
  show zR (pP D cy x) 140 (gW (pP D cy x) (gg x o) i) = _
  rw [e_W h hi, p_R]
  show x + tR (o + 34 + 7 * i + 1) 0 = _
  rw [(h.2.2.2.2.2.2.2.2 i hi).2.2.2.1.2.1]
theorem e_63 (h : dMesh o) (hi : i < 8) : zR (pP D cy x) 63 (gQ (gg x o) i) = x + (o + 34 + 7 * i + 3) := by
  show zR (pP D cy x) 63 (x + (o + 34 + 7 * i)) = _
  rw [p_R]
  show x + tR (o + 34 + 7 * i) 3 = _
  rw [(h.2.2.2.2.2.2.2.2 i hi).2.2.1]
theorem e_20 (h : dMesh o) : zR (pP D cy x) 20 (x + o) = x + (o + 1) := by
  rw [p_R]
  show x + tR o 0 = _
  rw [h.2.1.1]
theorem e_22 (h : dMesh o) : zR (pP D cy x) 22 (x + o) = x + (o + 2) := by
  rw [p_R]
  show x + tR o 2 = _
  rw [h.2.1.2.1]
theorem e_23 (h : dMesh o) : zR (pP D cy x) 23 (x + o) = x + (o + 3) := by
  rw [p_R]
  show x + tR o 3 = _
  rw [h.2.1.2.2.1]
theorem e_35 (h : dMesh o) : zR (pP D cy x) 35 (x + o) = x + (o + 4) := by
  rw [p_R]
  show x + tR o 15 = _
  rw [h.2.1.2.2.2]
theorem e_160 (h : dMesh o) : zR (pP D cy x) 160 (zR (pP D cy x) 35 (x + o)) = x + (o + 4 + 1) := by
  rw [e_35 h, p_R]
  show x + tR (o + 4) 0 = _
  rw [h.2.2.2.2.2.1.2.1]
def oMesh (o : Nat) : Prop := ∀ j, j < 90 → tO (o + j) = o
theorem p_Om (hO : oMesh o) (h1 : o ≤ i) (h2 : i < o + 90) : pO x (x + i) = x + o := by
  rw [p_O]
  have := hO (i - o) (by omega)
  rw [show o + (i - o) = i by omega] at this
  rw [this]
theorem g_GL (h : dMesh o) : GL (pP D cy x) (x + o) (gg x o) := by
  refine ⟨?_, ?_, ?_, fun r hr => ?_, ?_, fun i hi => ?_, fun s hs => ⟨?_, ?_⟩, fun r hr => ?_⟩
  · rw [e_20 h, p_l]; exact h.2.2.1.2.1
  · rw [e_22 h, p_l]; exact h.2.2.2.1.2.1
  · rw [e_23 h, p_l]; exact h.2.2.2.2.1.2.1
  · rw [e_63 h hr, p_l]; exact (h.2.2.2.2.2.2.2.2 r hr).2.2.2.2.2.1
  · rw [e_160 h, p_l]; exact h.2.2.2.2.2.1.2.2.2.1
  · rw [e_P, p_l]; exact (h.2.2.2.2.2.1.2.2.2.2.2 i hi).2.1
  · rw [e_X h hs, p_l]; exact (h.2.2.2.2.2.2.2.1 s hs).2.2.2.1.2.1
  · rw [e_K h hs, p_l]; exact (h.2.2.2.2.2.2.2.1 s hs).2.2.2.2.2.1
  · rw [e_Z h hr, p_l]; exact (h.2.2.2.2.2.2.2.2 r hr).2.2.2.1.2.2.2.1
theorem g_GD (h : dMesh o) (hO : oMesh o) : GD (pO x) (pP D cy x) (x + o) (gg x o) := by
  refine ⟨fun i j _ _ => ?_, fun i j _ _ => ?_, fun r t r' t' _ _ _ _ => ?_, fun i j hi hj => ?_, fun i j hi hj => ?_, fun i j hi hj => ?_, fun i j _ _ => ?_, fun i j hi hj => ?_, fun r i hr hi => ?_, ?_, ?_, fun i hi => ?_, fun i hi => ⟨?_, ?_, ?_, ?_⟩, fun r hr => ⟨?_, ?_, ?_, fun t ht => ?_⟩⟩
  · rw [e_B, e_B]; omega
  · rw [e_S, e_S]; omega
  · rw [e_T, e_T]; omega
  · rw [e_X h hi, e_X h hj]; omega
  · rw [e_K h hi, e_K h hj]; omega
  · rw [e_X h hi, e_K h hj]; omega
  · rw [e_P, e_P]; omega
  · rw [e_P, e_X h hj, e_K h hj]; omega
  · rw [e_Z h hr, e_X h hi, e_K h hi, e_P]; omega
  · exact p_Om hO (by omega) (by omega)
  · rw [e_35 h]; exact p_Om hO (by omega) (by omega)
  · rw [e_B]; exact p_Om hO (by omega) (by omega)
  · rw [e_S]; exact p_Om hO (by omega) (by omega)
  · rw [e_X h hi]; exact p_Om hO (by omega) (by omega)
  · rw [e_K h hi]; exact p_Om hO (by omega) (by omega)
  · rw [e_P]; exact p_Om hO (by omega) (by omega)
  · rw [e_Q]; exact p_Om hO (by omega) (by omega)
  · rw [e_W h hr]; exact p_Om hO (by omega) (by omega)
  · rw [e_Z h hr]; exact p_Om hO (by omega) (by omega)
  · rw [e_T]; exact p_Om hO (by omega) (by omega)
theorem g_MS (h : dMesh o) (hO : oMesh o) : MS (pO x) (pP D cy x) (x + o) (gg x o) := by
  refine ⟨g_GL h, g_GD h hO, ⟨fun i j _ _ => ?_, fun i j hi hj => ?_, fun i j hi hj => ?_⟩, ?_, ?_, ?_, ?_, fun r hr => ?_, ?_, ?_, ?_, fun r hr => ?_⟩
  · rw [e_Q, e_Q]; omega
  · rw [e_W h hi, e_W h hj]; omega
  · rw [e_Z h hi, e_Z h hj]; omega
  · rw [e_20 h]; exact p_Om hO (by omega) (by omega)
  · rw [e_22 h]; exact p_Om hO (by omega) (by omega)
  · rw [e_23 h]; exact p_Om hO (by omega) (by omega)
  · rw [e_160 h]; exact p_Om hO (by omega) (by omega)
  · rw [e_63 h hr]; exact p_Om hO (by omega) (by omega)
  · rw [e_20 h, e_23 h]; omega
  · rw [e_22 h, e_23 h]; omega
  · rw [e_160 h, e_23 h]; omega
  · rw [e_63 h hr, e_23 h]; omega
theorem g_GM (h : dMesh o) : GM (pP D cy x) (pM x) (x + o) (gg x o) := by
  refine ⟨fun i hi => ?_, fun s hs => ?_, fun r hr => ?_, fun r t hr ht => ?_, fun i hi => ?_⟩
  · rw [e_20 h, p_zr, h.2.2.1.2.2 i hi, e_B]
  · rw [e_22 h, p_zr, h.2.2.2.1.2.2 s hs, e_S]
  · rw [e_23 h, p_zr, h.2.2.2.2.1.2.2 r hr, e_Q]
  · rw [e_63 h hr, p_zr, (h.2.2.2.2.2.2.2.2 r hr).2.2.2.2.2.2.1 t ht, e_T]
  · rw [e_160 h, p_zr, h.2.2.2.2.2.1.2.2.2.2.1 i hi, e_P]
theorem v_C : tI 21 = nI 0 ∧ moO 4 144 = nI 0 ∧ tI 24 = nI 0 ∧ moO 4 230 = nI 0 ∧ tI 25 = sLm (-1) (moO 4) ∧ tI 26 = moO 4 705 ∧ ∀ j, j < 35 → 28 ≤ j → tI j = moO 4 (670 + j) := by decide +kernel
theorem v_S : ∀ s, s < 4 → tI 100 = sPol (-1) (moO 4) s ∧ tI 101 = moO 4 (145 + 21 * s + 1) ∧ (∀ j, j < 8 → 2 ≤ j → tI (100 + j) = moO 4 (145 + 21 * s + j)) ∧ (∀ z, z < 3 → 0 = moO 4 (145 + 21 * s + 8 + z)) ∧ ∀ h, h < 10 → -1 = moO 4 (145 + 21 * s + 11 + h) := by decide +kernel
theorem v_I : moO 4 229 = nI 70 ∧ (∀ s, s < 4 → moO 4 (145 + 21 * s) = nI 0 ∧ moO 4 (145 + 21 * s + 2) = nI 5 ∧ ∀ h, h < 10 → moO 4 (145 + 21 * s + 11 + h) = oI none) ∧ moO 4 706 = nI 0 ∧ tI 161 = nI 0 ∧ tI 27 = moO 4 697 := by decide +kernel
theorem v_InV : InV (moO 4) 0 0 0 := by
  obtain ⟨h1, h2, -⟩ := v_I
  refine ⟨⟨v_C.2.1, by omega, ⟨70, by omega, by omega, h1⟩, fun i hi => absurd hi (by omega), fun s h hs hh => ⟨none, (h2 s hs).2.2 h hh, fun b q => by cases q⟩⟩, ⟨v_C.2.2.2.1, by omega⟩, fun s hs => ⟨⟨0, by omega, (h2 s hs).1⟩, 5, by omega, by omega, (h2 s hs).2.1⟩, fun i hi => absurd hi (by omega), fun i hi => absurd hi (by omega), fun r hr => absurd hr (by omega)⟩
theorem g_bM (h : dMesh o) (hO : oMesh o) : bM (pO x) (pP D cy x) (pM x) (x + o) (moO 4) 0 := by
  obtain ⟨c1, c2, c3, c4, c5, c6, c7⟩ := v_C
  refine ⟨gg x o, 0, 0, 0, g_MS h hO, g_GM h, ⟨⟨c1, c2, c3, c4, c5, c6, fun j h1 h2 => c7 j (by omega) h1⟩, fun i k hi => absurd hi (by omega), fun s hs => ?_, fun r hr => absurd hr (by omega), fun r t k hr => absurd hr (by omega)⟩, ⟨v_I.2.2.1, by omega, v_I.2.2.2.1, fun i k hi => absurd hi (by omega)⟩, v_I.2.2.2.2, v_InV⟩
  obtain ⟨s1, s2, s3, s4, s5⟩ := v_S s hs
  refine ⟨s1, ?_, fun j h1 h2 => s3 j h2 h1, fun z hz => ?_, fun k hk => ?_⟩
  · rw [if_neg (by decide)]
    exact s2
  · rw [e_X h hs, p_za, tA_0 (h.2.2.2.2.2.2.2.1 s hs).2.2.2.1.2.2]
    exact s4 z hz
  · rw [e_K h hs, p_za, tA_1 (h.2.2.2.2.2.2.2.1 s hs).2.2.2.2.2.2]
    exact s5 k hk
theorem g_bC (h : dMesh o) (hO : oMesh o) {V : Nat → Int32} {B : Nat} : bC (pO x) (pP D cy x) (pM x) (x + o) false V B := ⟨gg x o, g_MS h hO, g_GM h, fun q => by cases q⟩
theorem o_mesh : ∀ m, m < 4 → oMesh (90 * m + 1) := by
  unfold oMesh
  decide +kernel
theorem o_rest : (∀ j, j < 6 → tO (361 + j) = 361) ∧ (∀ j, j < 2 → tO (367 + j) = 367) ∧ (∀ j, j < 2 → tO (369 + j) = 369) ∧ (∀ j, j < 8 → tO (371 + j) = 371) ∧ ∀ j, j < 11 → tO (379 + j) = 379 := by decide +kernel
theorem t_rec : ∀ j, j < 45 → 40 ≤ j → tR 361 (j % 20) = 362 + (j - 40) ∧ tL (362 + (j - 40)) = 60 ∧ tO (362 + (j - 40)) = 361 := by decide +kernel
theorem g_bR {it : zIt} : bR (pO x) (pP D cy x) (pM x) (x + 361) false 0 it := by
  have e : ∀ j, 40 ≤ j → j < 45 → zR (pP D cy x) j (x + 361) = x + (362 + (j - 40)) := fun j h1 h2 => by rw [p_R, (t_rec j h2 h1).1]
  refine ⟨by rw [p_O, o_rest.1 0 (by decide)], fun j h1 h2 => ?_, fun i j h1 h2 h3 h4 => ?_, rfl, rfl, fun i hi => absurd hi (by omega)⟩
  · rw [e j h1 h2, p_O, p_l, (t_rec j h2 h1).2.1, (t_rec j h2 h1).2.2]
    exact ⟨rfl, rfl⟩
  · rw [e i h1 h2, e j h3 h4]
    omega
theorem g_bT {w : Nat → Int32} (h : dText i) (h1 : tO i = i) (h2 : tO (i + 1) = i) : bT (pO x) (pP D cy x) (pM x) (x + i) 0 w := by
  have e : zR (pP D cy x) 140 (x + i) = x + (i + 1) := by
    rw [p_R]
    show x + tR i 0 = _
    rw [h.2.1]
  refine ⟨by rw [p_O, h1], by rw [e, p_O, h2], by rw [e, p_l]; exact h.2.2.2.1, by omega, rfl, fun k hk => absurd hk (by omega)⟩
theorem t_reader : tR 371 0 = 367 ∧ tR 371 1 = 372 ∧ tR 372 0 = 373 ∧ tR 373 0 = 374 ∧ tR 372 3 = 375 ∧ tR 367 0 = 368 ∧ tL 368 = 40 ∧ tL 374 = 40 ∧ tL 375 = 3 ∧ ∀ t, t < 3 → tR 375 t = 376 + t := by decide +kernel
theorem g_bD : bD (pO x) (pP D cy x) (pM x) (x + 371) (x + 367) := by
  obtain ⟨t1, t2, t3, t4, t5, t6, l1, l2, l3, t7⟩ := t_reader
  have e1 : zR (pP D cy x) 80 (x + 371) = x + 367 := by rw [p_R]; show x + tR 371 0 = _; rw [t1]
  have e2 : zR (pP D cy x) 81 (x + 371) = x + 372 := by rw [p_R]; show x + tR 371 1 = _; rw [t2]
  have e3 : zR (pP D cy x) 60 (zR (pP D cy x) 81 (x + 371)) = x + 373 := by rw [e2, p_R]; show x + tR 372 0 = _; rw [t3]
  have e4 : zR (pP D cy x) 140 (zR (pP D cy x) 60 (zR (pP D cy x) 81 (x + 371))) = x + 374 := by rw [e3, p_R]; show x + tR 373 0 = _; rw [t4]
  have e5 : zR (pP D cy x) 63 (zR (pP D cy x) 81 (x + 371)) = x + 375 := by rw [e2, p_R]; show x + tR 372 3 = _; rw [t5]
  have e6 : zR (pP D cy x) 140 (zR (pP D cy x) 80 (x + 371)) = x + 368 := by rw [e1, p_R]; show x + tR 367 0 = _; rw [t6]
  have o4 := o_rest.2.2.2.1
  have oo : ∀ i, 371 ≤ i → i < 379 → pO x (x + i) = x + 371 := fun i h1 h2 => by
    have := o4 (i - 371) (by omega)
    rw [show 371 + (i - 371) = i by omega] at this
    rw [p_O, this]
  refine ⟨fun t => x + (376 + t), ⟨?_, ?_, ?_, ?_, ?_, fun i j _ _ h => by have h2 : x + (376 + i) = x + (376 + j) := h; omega, fun t ht => ?_⟩, e1, ?_, ?_, ?_, ?_, ?_, fun t ht => ?_⟩
  · show zlen _ (zR (pP D cy x) 140 (zR (pP D cy x) 80 (x + 371))) = 40
    rw [e6, p_l, l1]
  · show zlen _ (zR (pP D cy x) 140 (zR (pP D cy x) 60 (zR (pP D cy x) 81 (x + 371)))) = 40
    rw [e4, p_l, l2]
  · show zlen _ (zR (pP D cy x) 63 (zR (pP D cy x) 81 (x + 371))) = 3
    rw [e5, p_l, l3]
  · show zR (pP D cy x) 60 (zR (pP D cy x) 81 (x + 371)) ≠ zR (pP D cy x) 80 (x + 371)
    rw [e3, e1]
    omega
  · show zR (pP D cy x) 140 (zR (pP D cy x) 80 (x + 371)) ≠ zR (pP D cy x) 140 (zR (pP D cy x) 60 (zR (pP D cy x) 81 (x + 371)))
    rw [e6, e4]
    omega
  · show zr (pM x) (zR (pP D cy x) 63 (zR (pP D cy x) 81 (x + 371))) t = _
    rw [e5, p_zr, t7 t ht]
  · exact oo 371 (by omega) (by omega)
  · show pO x (zR (pP D cy x) 81 (x + 371)) = _
    rw [e2]; exact oo _ (by omega) (by omega)
  · show pO x (zR (pP D cy x) 60 (zR (pP D cy x) 81 (x + 371))) = _
    rw [e3]; exact oo _ (by omega) (by omega)
  · show pO x (zR (pP D cy x) 140 (zR (pP D cy x) 60 (zR (pP D cy x) 81 (x + 371)))) = _
    rw [e4]; exact oo _ (by omega) (by omega)
  · show pO x (zR (pP D cy x) 63 (zR (pP D cy x) 81 (x + 371))) = _
    rw [e5]; exact oo _ (by omega) (by omega)
  · exact oo _ (by omega) (by omega)
theorem t_mod : (tR 379 (200 % 20) = 380 ∧ tR 379 (201 % 20) = 381 ∧ tR 379 (202 % 20) = 382 ∧ tR 379 (203 % 20) = 383 ∧ tR 379 (206 % 20) = 384 ∧ tR 379 (208 % 20) = 385 ∧ tR 379 (209 % 20) = 386 ∧ tR 379 (211 % 20) = 387 ∧ tR 379 (215 % 20) = 388 ∧ tR 379 (217 % 20) = 389) ∧ (tL 380 = 723 ∧ tL 381 = 723 ∧ tL 382 = 723 ∧ tL 383 = 723 ∧ tL 384 = 40 ∧ tL 385 = 240 ∧ tL 386 = 2400 ∧ tL 387 = 80 ∧ tL 388 = 58 ∧ tL 389 = 40) ∧ ∀ j, j ∈ yRows → 379 ≤ tR 379 (j % 20) ∧ tR 379 (j % 20) < 390 := by decide +kernel
theorem g_bY {Q : Nat → Int32} {it : zIt} : bY (pO x) (pP D cy x) (pM x) (x + 379) (moO 4) false (za (pM x) (zR (pP D cy x) 201 (x + 379))) false (za (pM x) (zR (pP D cy x) 202 (x + 379))) 0 (za (pM x) (zR (pP D cy x) 206 (x + 379))) 0 Q 0 it := by
  obtain ⟨⟨t0, t1, t2, t3, t4, t5, t6, t7, t8, t9⟩, ⟨l0, l1, l2, l3, l4, l5, l6, l7, l8, l9⟩, tt⟩ := t_mod
  have o4 := o_rest.2.2.2.2
  have oo : ∀ i, 379 ≤ i → i < 390 → pO x (x + i) = x + 379 := fun i h1 h2 => by
    have := o4 (i - 379) (by omega)
    rw [show 379 + (i - 379) = i by omega] at this
    rw [p_O, this]
  refine ⟨?_, oo 379 (by omega) (by omega), fun j hj => by rw [p_R]; exact oo _ (tt j hj).1 (tt j hj).2, ?_, ⟨rfl, rfl⟩, ⟨rfl, rfl⟩, ⟨rfl, rfl⟩, ⟨rfl, fun i hi => absurd hi (by omega)⟩, ⟨rfl, fun i hi => absurd hi (by omega)⟩, rfl, false, rfl⟩
  · unfold yOK
    simp only [p_R, t0, t1, t2, t3, t4, t5, t6, t7, t8, t9, p_l, l0, l1, l2, l3, l4, l5, l6, l7, l8, l9, true_and]
    simp only [List.nodup_cons, List.mem_cons, List.not_mem_nil, or_false, not_or, not_false_eq_true, List.nodup_nil, and_true]
    omega
  · show za (pM x) (zR (pP D cy x) 200 (x + 379)) = moO 4
    rw [p_R, t0]
    funext j
    rw [p_za]
    unfold tA
    rw [if_pos (show tC 380 = 2 from rfl)]
theorem t_x : tR 0 (180 % 20) = 1 ∧ tR 0 (181 % 20) = 91 ∧ tR 0 (182 % 20) = 181 ∧ tR 0 (183 % 20) = 271 ∧ tR 0 (184 % 20) = 361 ∧ tR 0 (185 % 20) = 367 ∧ tR 0 (186 % 20) = 369 ∧ tR 0 (187 % 20) = 371 := by decide +kernel
theorem g_REL : REL (pO x) (pP D cy x) x (x + 379) 0 (pM x) := by
  obtain ⟨t0, t1, t2, t3, t4, t5, t6, t7⟩ := t_x
  have e0 : zR (pP D cy x) 180 x = x + 1 := by rw [p_R0, t0]
  have e1 : zR (pP D cy x) 181 x = x + 91 := by rw [p_R0, t1]
  have e2 : zR (pP D cy x) 182 x = x + 181 := by rw [p_R0, t2]
  have e3 : zR (pP D cy x) 183 x = x + 271 := by rw [p_R0, t3]
  have e4 : zR (pP D cy x) 184 x = x + 361 := by rw [p_R0, t4]
  have e5 : zR (pP D cy x) 185 x = x + 367 := by rw [p_R0, t5]
  have e6 : zR (pP D cy x) 186 x = x + 369 := by rw [p_R0, t6]
  have e7 : zR (pP D cy x) 187 x = x + 371 := by rw [p_R0, t7]
  refine ⟨?_, moO 4, false, _, false, _, 0, _, 0, fun _ => 0, 0, fun _ => none, ⟨?_, ?_, ?_, ?_, ?_, ?_, ?_, ?_, p_O0, rfl⟩, g_bY, fun j hj => absurd hj (by omega), by omega, fun _ => rfl, fun h => by cases h⟩
  · unfold owners
    rw [e0, e1, e2, e3, e4, e5, e6, e7]
    simp only [List.nodup_cons, List.mem_cons, List.not_mem_nil, or_false, not_or, not_false_eq_true, List.nodup_nil, and_true]
    omega
  · rw [e0]; exact g_bM (d_mesh 0 (by decide)) (o_mesh 0 (by decide))
  · rw [e1]; exact g_bC (d_mesh 1 (by decide)) (o_mesh 1 (by decide))
  · rw [e2]; exact g_bC (d_mesh 2 (by decide)) (o_mesh 2 (by decide))
  · rw [e3]; exact g_bC (d_mesh 3 (by decide)) (o_mesh 3 (by decide))
  · rw [e4]; exact g_bR
  · rw [e5]; exact g_bT d_rest.2.2.2.2.2.1 (o_rest.2.1 0 (by decide)) (o_rest.2.1 1 (by decide))
  · rw [e6]; exact g_bT d_rest.2.2.2.2.2.2.1 (o_rest.2.2.1 0 (by decide)) (o_rest.2.2.1 1 (by decide))
  · rw [e7, e5]; exact g_bD
end R0

/-! ===== copies: the whole mesh ===== -/
def cpT (u u' : Nat) (m : zM) : zM :=
  let m1 := zfp m 25 u (zf m 25 u')
  let m2 := zfp m1 26 u (zf m1 26 u')
  let m3 := zfp m2 27 u (zf m2 27 u')
  let m4 := zfp m3 28 u (zf m3 28 u')
  let m5 := zfp m4 29 u (zf m4 29 u')
  let m6 := zfp m5 30 u (zf m5 30 u')
  let m7 := zfp m6 31 u (zf m6 31 u')
  let m8 := zfp m7 32 u (zf m7 32 u')
  let m9 := zfp m8 33 u (zf m8 33 u')
  zfp m9 34 u (zf m9 34 u')
theorem cpT_v {u u' : Nat} {m : zM} (h : u' ≠ u) {j : Nat} (h1 : 25 ≤ j) (h2 : j ≤ 34) : zf (cpT u u' m) j u = zf m j u' := by
  unfold cpT
  have hc : j = 25 ∨ j = 26 ∨ j = 27 ∨ j = 28 ∨ j = 29 ∨ j = 30 ∨ j = 31 ∨ j = 32 ∨ j = 33 ∨ j = 34 := by omega
  rcases hc with rfl | rfl | rfl | rfl | rfl | rfl | rfl | rfl | rfl | rfl <;> simp only [zf_zfp, h, Nat.reduceEqDiff, and_true, and_false, true_and, false_and, if_true, if_false, reduceIte]
theorem cpT_f {u u' : Nat} {m : zM} : Fp (fun f a => (25 ≤ f ∧ f < 35) ∧ a = u) (fun _ _ => False) m (cpT u u' m) := by
  unfold cpT
  repeat (refine Fp.put ?_ (And.intro (by decide) rfl))
  exact Fp.rfl'
section CM
variable {own : Nat → Nat} {P : zSt} {m m' : zM} {u u' N R T : Nat} {g g' : zGr} {c : Int32} {V : Nat → Int32}
/-- a mesh's picture stays where another's places are written -/
theorem PicB.fo (h : PicB m g N V) (hf : Mf own P u g N) (f : ∀ f a, own a = u → zf m' f a = zf m f a) : PicB m' g N V := fun i k hi hk => by
  have h12 := hf.2.2
  rw [f _ _ (hf.2.1.2.2.2.2.2.2.2.2.2.2.2.1 i (by omega))]
  exact h i k hi hk
theorem Pic.fo' (h : Pic P m u g N R c V) (hf : Mf own P u g N) (hL : RuL V R) (f1 : ∀ f a, own a = u → zf m' f a = zf m f a) (f2 : ∀ a i, own a = u → za m' a i = za m a i) : Pic P m' u g N R c V := by
  have o1 := hf.2.1.2.2.2.2.2.2.2.2.2.2.2.2.1
  have o2 := hf.2.1.2.2.2.2.2.2.2.2.2.2.2.2.2
  have h8 := hL.1
  exact ⟨h.1.cg (fun f _ _ => f1 _ _ hf.2.1.2.2.2.2.2.2.2.2.2.1) rfl rfl rfl (fun _ _ _ => rfl), h.2.1.fo hf f1, h.2.2.1.cg (fun s j hs _ => f1 _ _ (o1 s hs).1) (fun s z hs _ => f2 _ _ (o1 s hs).2.1) (fun s k hs _ => f2 _ _ (o1 s hs).2.2.1) (fun _ _ _ => rfl), h.2.2.2.1.cg h8 (fun f r hr _ _ => f1 _ _ (o2 r (by omega)).1) (fun r hr => f1 _ _ (o2 r (by omega)).2.1) (fun r k hr _ => f2 _ _ (o2 r (by omega)).2.2.1) (fun r hr => (hL.2 r hr).1) (fun _ _ _ _ => rfl), h.2.2.2.2.cg (fun r t k hr ht _ => f1 _ _ ((o2 r (by omega)).2.2.2 t (by have := (hL.2 r hr).2; omega))) (fun _ _ => rfl) (fun _ _ _ _ _ _ => rfl)⟩
theorem Pic.fo (h : Pic P m u g N R c V) (hf : Mf own P u g N) (hL : RuL V R) (f : Fo own u' m m') (hu : u ≠ u') : Pic P m' u g N R c V :=
  h.fo' hf hL (fun f' a ha => f.2.1 f' a (fun q => hu (by rw [← ha, q]))) (fun a i ha => f.2.2 a i (fun q => hu (by rw [← ha, q])))
theorem PicX.fo (h : PicX P m u g T V) (hf : Mf own P u g N) (f : Fo own u' m m') (hu : u ≠ u') : PicX P m' u g T V :=
  h.cg (f.2.1 _ _ (fun q => hu (by rw [← hf.2.1.2.2.2.2.2.2.2.2.2.2.1, q]))) (fun i k hi _ => f.2.2 _ _ (fun q => hu (by rw [← (hf.2.1.2.2.2.2.2.2.2.2.2.2.2.2.1 i (by have := h.2.1; omega)).2.2.2, q]))) rfl (fun _ _ _ _ => rfl)
theorem c_copy {B : Nat} (hf : Mf own P u g N) (hf' : Mf own P u' g' N) (hq : GQ P g) (hu : u' ≠ u) (hG : GM P m u g) (hG' : GM P m u' g') (hp : Pic P m u' g' N R (-1) V) (h27 : zf m 27 u' = V 697) (hI : InV V N R B) :
    ∃ m', f_X1_copyFrom P u u' m = some (0, m') ∧ GM P m' u g ∧ Pic P m' u g N R (-1) V ∧ zf m' 27 u = V 697 ∧ Fo own u m m' := by
  have h12 := hf.2.2
  have hL := hI.ru.l
  have h8 := hL.1
  have hou : own u = u := hf.2.1.2.2.2.2.2.2.2.2.2.1
  have hou' : own u' = u' := hf'.2.1.2.2.2.2.2.2.2.2.2.1
  have o1 := hf.2.1.2.2.2.2.2.2.2.2.2.2.2.2.1
  have o2 := hf.2.1.2.2.2.2.2.2.2.2.2.2.2.2.2
  have e21 : zf m 21 u' = nI N := hp.1.1
  -- the backends
  have F0 : Fo own u m (zfp m 21 u (nI N)) := Fo.zfp hou
  have p0 := hp.fo hf' hL F0 hu
  obtain ⟨m1, a1, a2, a3⟩ := c_copyB_l (g := g) (g' := g') (V := V) hf hf' hu N 0 zfuel (zfp m 21 u (nI N)) (by omega) (by unfold zfuel; omega) hG hG' p0.2.1 zf_eq (by intro i k hi; omega)
  have F1 : Fo own u (zfp m 21 u (nI N)) m1 := a3.fo (fun _ _ q => q.2) (fun _ _ q => q.elim)
  have p1 := p0.fo hf' hL F1 hu
  -- the services
  obtain ⟨m2, b1, b2, b3⟩ := c_copyS_l (g := g) (g' := g') (V := V) hf hf' hu 4 0 zfuel m1 (by omega) (by unfold zfuel; omega) (hG.to a3.1) (hG'.to a3.1) (PicS1.of p1.2.2.1) (by intro s hs; omega)
  have oA : ∀ a, (∃ s, s < 4 ∧ (a = gX P g s ∨ a = gK P g s)) → own a = u := by
    rintro a ⟨s, hs4, q | q⟩
    · rw [q]; exact (o1 s hs4).2.1
    · rw [q]; exact (o1 s hs4).2.2.1
  have F2 : Fo own u m1 m2 := b3.fo (fun _ _ q => q.2.2) (fun a _ q => oA a q)
  have p2 := p1.fo hf' hL F2 hu
  have g2 : m2.2.2 = m.2.2 := by rw [b3.1, a3.1]; rfl
  -- the rules
  have e24 : zf m2 24 u' = nI R := p2.1.2.2.1
  have F3 : Fo own u m2 (zfp m2 24 u (nI R)) := Fo.zfp hou
  have p3 := p2.fo hf' hL F3 hu
  obtain ⟨m4, c1, c2, c3⟩ := c_copyR_l (g := g) (g' := g') (V := V) (F := fun m => some (0, cpT u u' m)) hf hf' hq hu h8 (fun r hr => hI.ra hr) (fun fu m h24 => by
    unfold f_X1_copyFrom_b77
    rw [h24, if_pos (Int32.le_refl _)]
    rfl) R 0 zfuel (zfp m2 24 u (nI R)) (by omega) (by unfold zfuel; omega) (hG.to g2) (hG'.to g2) zf_eq (fun r hr => RuP.of p3.2.2.2.1 p3.2.2.2.2 hr) (by intro r hr; omega)
  have F4 : Fo own u (zfp m2 24 u (nI R)) m4 := c3.fo (fun _ _ q => q.2.2) (fun a _ q => by
    obtain ⟨r, q1, q2⟩ := q
    rw [q2]
    exact (o2 r q1).2.2.1)
  have p4 := p3.fo hf' hL F4 hu
  have F5 : Fo own u m4 (cpT u u' m4) := cpT_f.fo (fun _ _ q => by rw [q.2, hou]) (fun _ _ q => q.elim)
  have FF : Fo own u m (cpT u u' m4) := (((F0.trans F1).trans F2).trans F3).trans (F4.trans F5)
  have e27' : zf m4 27 u' = V 697 := by
    have := ((((F0.trans F1).trans F2).trans F3).trans F4).2.1 27 u' (by rw [hou']; exact hu)
    rw [this, h27]
  refine ⟨cpT u u' m4, ?_, hG.to FF.1, ?_, by rw [cpT_v hu (by omega) (by omega), e27'], FF⟩
  · unfold f_X1_copyFrom
    rw [e21, zl_s]
    have a1' : f_X1_copyFrom_b10 P zfuel u u' 0 (zfp m 21 u (nI N)) = f_X1_copyFrom_b41 P zfuel u u' 0 m1 := a1
    have b1' : f_X1_copyFrom_b41 P zfuel u u' 0 m1 = (zl (zfp m2 24 u (zf m2 24 u')) fun m72 => f_X1_copyFrom_b77 P zfuel u u' 0 m72) := b1
    have c1' : f_X1_copyFrom_b77 P zfuel u u' 0 (zfp m2 24 u (nI R)) = some (0, cpT u u' m4) := c1
    rw [a1', b1', e24, zl_s, c1']
  · -- the picture
    obtain ⟨pr, pt⟩ := RuP.to c2
    have kk : ∀ f a, ¬ (25 ≤ f ∧ f < 35) → zf (cpT u u' m4) f a = zf m4 f a := fun f a h => cpT_f.2.1 f a (fun q => h q.1)
    have k4 : ∀ f a, f < 60 → zf m4 f a = zf (zfp m2 24 u (nI R)) f a := fun f a h => c3.2.1 f a (fun q => absurd q.1 (by omega))
    have k2 : ∀ f a, f < 100 → zf m2 f a = zf m1 f a := fun f a h => b3.2.1 f a (fun q => absurd q.1 (by omega))
    have k1 : ∀ f a, 20 ≤ f → zf m1 f a = zf (zfp m 21 u (nI N)) f a := fun f a h => a3.2.1 f a (fun q => absurd q.1 (by omega))
    obtain ⟨s1, s2, s3, s4, s5, s6, s7⟩ := p4.1
    refine ⟨⟨?_, hp.1.2.1, ?_, hp.1.2.2.2.1, ?_, ?_, fun j h1 h2 => ?_⟩, ?_, ?_, ?_, ?_⟩
    · rw [kk _ _ (by omega), k4 _ _ (by omega), zf_ne (Or.inl (by omega)), k2 _ _ (by omega), k1 _ _ (by omega), zf_eq]
    · rw [kk _ _ (by omega), k4 _ _ (by omega), zf_eq]
    · rw [cpT_v hu (by omega) (by omega), s5]
    · rw [cpT_v hu (by omega) (by omega), s6]
    · rw [cpT_v hu (by omega) (by omega), s7 j h1 h2]
    · intro i k hi hk
      have := bsl_lt k
      rw [kk _ _ (by omega), k4 _ _ (by omega), zf_ne (Or.inl (by omega)), k2 _ _ (by omega)]
      exact a2 i k hi hk
    · refine PicS1.to (fun s hs => ?_)
      obtain ⟨x1, x2, x3⟩ := b2 s hs
      have z4 : ∀ a i, own a = u → (∀ r, r < 8 → a ≠ gZ P g r) → za (cpT u u' m4) a i = za m2 a i := fun a i _ h => by
        rw [cpT_f.2.2 a i (fun q => q), c3.2.2 a i (fun q => by obtain ⟨r, q1, q2⟩ := q; exact h r q1 q2)]
        rfl
      refine ⟨fun j hj => ?_, fun z hz => ?_, fun h hh => ?_⟩
      · have z5 : zf (cpT u u' m4) (100 + j) (gS g s) = zf m2 (100 + j) (gS g s) := by
          rw [kk _ _ (by omega), c3.2.1 _ _ (fun q => q.2.1 ⟨by omega, by omega⟩), zf_ne (Or.inl (by omega))]
        rw [z5, x1 j hj]
      · rw [z4 _ z (o1 s hs).2.1 (fun r hr q => (hf.2.1.2.2.2.2.2.2.2.2.1 r s hr hs).1 q.symm)]
        exact x2 z hz
      · rw [z4 _ h (o1 s hs).2.2.1 (fun r hr q => (hf.2.1.2.2.2.2.2.2.2.2.1 r s hr hs).2.1 q.symm)]
        exact x3 h hh
    · exact pr.cg h8 (fun f r hr h1 h2 => kk _ _ (by omega)) (fun r hr => kk _ _ (by omega)) (fun _ _ _ _ => cpT_f.2.2 _ _ (fun q => q)) (fun r hr => (hL.2 r hr).1) (fun _ _ _ _ => rfl)
    · exact pt.cg (fun r t k _ _ _ => kk _ _ (by have := tsl_lt k; omega)) (fun _ _ => rfl) (fun _ _ _ _ _ _ => rfl)
end CM

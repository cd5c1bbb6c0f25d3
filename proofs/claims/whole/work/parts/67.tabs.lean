/-! ===== the tables of the cells that the class and the reference make ===== -/
def mK : List Nat := [1, 13, 15, 14, 8, 17, 12, 12, 12, 12, 0, 0, 0, 0, 0, 0, 0, 0, 0, 0, 0, 0, 5, 12, 12, 5, 12, 12, 5, 12, 12, 5, 12, 12, 3, 7, 11, 16, 6, 6, 6, 3, 7, 11, 16, 6, 6, 6, 3, 7, 11, 16, 6, 6, 6, 3, 7, 11, 16, 6, 6, 6, 3, 7, 11, 16, 6, 6, 6, 3, 7, 11, 16, 6, 6, 6, 3, 7, 11, 16, 6, 6, 6, 3, 7, 11, 16, 6, 6, 6]
def mL : List Nat := [0, 12, 4, 8, 0, 4, 4, 4, 4, 4, 0, 0, 0, 0, 0, 0, 0, 0, 0, 0, 0, 0, 0, 3, 10, 0, 3, 10, 0, 3, 10, 0, 3, 10, 0, 0, 40, 3, 0, 0, 0, 0, 0, 40, 3, 0, 0, 0, 0, 0, 40, 3, 0, 0, 0, 0, 0, 40, 3, 0, 0, 0, 0, 0, 40, 3, 0, 0, 0, 0, 0, 40, 3, 0, 0, 0, 0, 0, 40, 3, 0, 0, 0, 0, 0, 40, 3, 0, 0, 0]
def mR : List (List Nat) := [[1, 0, 2, 3, 0, 0, 0, 0, 0, 0, 0, 0, 0, 0, 0, 4], [10, 11, 12, 13, 14, 15, 16, 17, 18, 19, 20, 21], [22, 25, 28, 31], [34, 41, 48, 55, 62, 69, 76, 83], [5], [6, 7, 8, 9], [], [], [], [], [], [], [], [], [], [], [], [], [], [], [], [], [0, 0, 0, 0, 0, 0, 0, 0, 23, 24], [], [], [0, 0, 0, 0, 0, 0, 0, 0, 26, 27], [], [], [0, 0, 0, 0, 0, 0, 0, 0, 29, 30], [], [], [0, 0, 0, 0, 0, 0, 0, 0, 32, 33], [], [], [35, 0, 0, 37], [36], [], [38, 39, 40], [], [], [], [42, 0, 0, 44], [43], [], [45, 46, 47], [], [], [], [49, 0, 0, 51], [50], [], [52, 53, 54], [], [], [], [56, 0, 0, 58], [57], [], [59, 60, 61], [], [], [], [63, 0, 0, 65], [64], [], [66, 67, 68], [], [], [], [70, 0, 0, 72], [71], [], [73, 74, 75], [], [], [], [77, 0, 0, 79], [78], [], [80, 81, 82], [], [], [], [84, 0, 0, 86], [85], [], [87, 88, 89], [], [], []]
def eK : List Nat := [2, 12, 12, 12, 12, 12, 7, 11, 7, 11, 4, 3, 7, 11, 16, 6, 6, 6, 10, 12, 12, 12, 12, 12, 12, 12, 12, 12, 12]
def eL : List Nat := [0, 60, 60, 60, 60, 60, 0, 40, 0, 40, 0, 0, 0, 40, 3, 0, 0, 0, 0, 723, 723, 723, 723, 40, 240, 2400, 80, 58, 40]
def eR : List (List Nat) := [[362, 363, 364, 365, 366], [], [], [], [], [], [368], [], [370], [], [367, 372], [373, 0, 0, 375], [374], [], [376, 377, 378], [], [], [], [380, 381, 382, 383, 0, 0, 384, 0, 385, 386, 0, 387, 0, 0, 0, 388, 0, 389], [], [], [], [], [], [], [], [], [], []]
def tK (i : Nat) : Nat := if i = 0 then 9 else if i < 361 then mK.getD ((i - 1) % 90) 0 else eK.getD (i - 361) 0
def tL (i : Nat) : Nat := if i = 0 then 0 else if i < 361 then mL.getD ((i - 1) % 90) 0 else eL.getD (i - 361) 0
def tR (i s : Nat) : Nat := if i = 0 then [1, 91, 181, 271, 361, 367, 369, 371].getD s 0 else if i < 361 then 90 * ((i - 1) / 90) + 1 + (mR.getD ((i - 1) % 90) []).getD s 0 else (eR.getD (i - 361) []).getD s 0
/-- whose a cell is -/
def tO (i : Nat) : Nat := if i = 0 then 0 else if i < 361 then 90 * ((i - 1) / 90) + 1 else if i < 367 then 361 else if i < 369 then 367 else if i < 371 then 369 else if i < 379 then 371 else 379
/-- numbers of fields at the start -/
def tI (f : Nat) : Int32 := if f = 25 then 70 else if f = 62 then 9 else if f = 65 then 1 else if f = 66 then -1 else if f = 101 then 3 else if f = 102 then 5 else if f = 103 then 50 else if f = 104 then 20 else if f = 105 then 300 else if f = 216 then -1 else 0
/-- rows of numbers at the start -/
def tC (i : Nat) : Nat := if i = 380 then 2 else if i < 361 ∧ 22 ≤ (i - 1) % 90 ∧ (i - 1) % 90 < 34 ∧ ((i - 1) % 90 - 22) % 3 = 2 then 1 else 0
def tA (i : Nat) : Nat → Int32 := if tC i = 2 then moO 4 else if tC i = 1 then fun _ => -1 else fun _ => 0
def pP (D : va_G) (cy : Nat → ClassId) (x : Nat) : zSt := (D, cy, (List.range 390).map (fun i => x + i), fun b => tK (b - x), fun f b => x + tR (b - x) (f % 20), fun b => tL (b - x))
def pM (x : Nat) : zM := (fun f _ => tI f, fun b => tA (b - x), fun b i => x + tR (b - x) i)
def pO (x : Nat) (b : Nat) : Nat := x + tO (b - x)
def ceq (e e' : va_E) : Prop := ∀ (D : va_G) (q : Nat) (H : Heap), va_at D vwCl (q, e) H → va_at D vwCl (q, e') H
def cfs (x i k : Nat) : List (Option Nat) → Nat → List Value
  | [], _ => []
  | none :: ts, j => .int (tI (20 * k + j)) :: cfs x i k ts (j + 1)
  | some _ :: ts, j => .ref (x + tR i j) :: cfs x i k ts (j + 1)
/-- what lies at offset i, by the tables -/
def cI (cy : Nat → ClassId) (x i : Nat) : va_E :=
  if tK i ≤ 10 then .inr (tK i, cfs x i (tK i) (zft (tK i)) 0)
  else if tK i ≤ 12 then .inl (cy (tK i), tL i, .inl (tA i))
  else .inl (cy (tK i), tL i, .inr (.inr (.inr (.inr (fun j => some (x + tR i j))))))
def cAll (cy : Nat → ClassId) (x : Nat) : Nat → List va_E → Prop
  | _, [] => True
  | i, e :: es => ceq e (cI cy x i) ∧ cAll cy x (i + 1) es
theorem cAll_app {cy : Nat → ClassId} {x : Nat} : ∀ (as bs : List va_E) (i : Nat), cAll cy x i as → cAll cy x (i + as.length) bs → cAll cy x i (as ++ bs) := by
  intro as
  induction as with
  | nil => intro bs i _ h; exact h
  | cons a as ih =>
    intro bs i h1 h2
    refine ⟨h1.1, ih bs (i + 1) h1.2 ?_⟩
    rw [show i + 1 + as.length = i + (a :: as).length by rw [List.length_cons]; omega]
    exact h2
theorem cAll_get {cy : Nat → ClassId} {x : Nat} : ∀ (ds : List va_E) (i k : Nat) (e : va_E), cAll cy x i ds → ds[k]? = some e → ceq e (cI cy x (i + k)) := by
  intro ds
  induction ds with
  | nil => intro i k e _ h; cases h
  | cons d ds ih =>
    intro i k e h he
    cases k with
    | zero =>
      cases he
      exact h.1
    | succ k =>
      rw [List.getElem?_cons_succ] at he
      have := ih (i + 1) k e h.2 he
      rw [show i + 1 + k = i + (k + 1) by omega] at this
      exact this
theorem ceq.rf {e : va_E} : ceq e e := fun _ _ _ h => h
theorem ceq.r {c : ClassId} {n : Nat} {f g : Nat → Option Nat} (h : ∀ j, j < n → f j = g j) : ceq (.inl (c, n, .inr (.inr (.inr (.inr f))))) (.inl (c, n, .inr (.inr (.inr (.inr g))))) := by
  intro D q H h1
  have e : vp_cell c (n, .inr (.inr (.inr (.inr f)))) = vp_cell c (n, .inr (.inr (.inr (.inr g)))) := by
    rw [vp_cell_q, vp_cell_q]
    exact arr_congr (fun j hj => by rw [h j hj])
  show H[q]? = some (vp_cell c (n, .inr (.inr (.inr (.inr g)))))
  rw [← e]
  exact h1
theorem ceq.i {c : ClassId} {n : Nat} {f g : Nat → Int32} (h : ∀ j, j < n → f j = g j) : ceq (.inl (c, n, .inl f)) (.inl (c, n, .inl g)) := by
  intro D q H h1
  have e : vp_cell c (n, .inl f) = vp_cell c (n, .inl g) := by
    rw [vp_cell_i, vp_cell_i]
    exact arr_congr (fun j hj => by rw [h j hj])
  show H[q]? = some (vp_cell c (n, .inl g))
  rw [← e]
  exact h1

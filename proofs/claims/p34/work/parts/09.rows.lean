/-! a row's content may be told otherwise where nobody looks; tables of marks -/
theorem arrV_ext {cI : ClassId} {N : Nat} {f g : Nat → Value} (h : ∀ j, j < N → f j = g j) : arrV cI N f = arrV cI N g := by
  unfold arrV
  have e : (fun j : Fin N => f j.val) = (fun j : Fin N => g j.val) := funext (fun j => h j.val j.isLt)
  rw [e]
theorem zP_cell {D : va_G} {cl : List vw_C} {ws : va_W} {H : Heap} (hP : va_P D cl ws H) (q0 : Nat) {a : Nat} {cA : ClassId} {x y : vp_A} (ha : ws[q0]? = some (a, .inl (cA, x))) (h : vp_cell cA x = vp_cell cA y) : va_P D cl (ws.set q0 (a, .inl (cA, y))) H := by
  intro k q hk
  by_cases e : k = q0
  · subst e
    have hlt : k < ws.length := (List.getElem?_eq_some_iff.mp ha).1
    rw [List.getElem?_set_self hlt] at hk
    cases hk
    have h2 := hP k _ ha
    show H[a]? = some (vp_cell cA y)
    rw [← h]
    exact h2
  · rw [List.getElem?_set_ne (fun q => e q.symm)] at hk
    exact hP k q hk
theorem zP_rowJ {D : va_G} {cl : List vw_C} {ws : va_W} {H : Heap} (hP : va_P D cl ws H) (q0 : Nat) {a n : Nat} {cA : ClassId} {f : Nat → Int64} (g : Nat → Int64) (ha : ws[q0]? = some (a, .inl (cA, n, .inr (.inl f)))) (h : ∀ j, j < n → f j = g j) : va_P D cl (ws.set q0 (a, .inl (cA, n, .inr (.inl g)))) H :=
  zP_cell hP q0 ha (show arrV cA n (fun j => .long (f j)) = arrV cA n (fun j => .long (g j)) from arrV_ext (fun j hj => congrArg Value.long (h j hj)))
theorem zP_rowI {D : va_G} {cl : List vw_C} {ws : va_W} {H : Heap} (hP : va_P D cl ws H) (q0 : Nat) {a n : Nat} {cA : ClassId} {f : Nat → Int32} (g : Nat → Int32) (ha : ws[q0]? = some (a, .inl (cA, n, .inl f))) (h : ∀ j, j < n → f j = g j) : va_P D cl (ws.set q0 (a, .inl (cA, n, .inl g))) H :=
  zP_cell hP q0 ha (show arrV cA n (fun j => .int (f j)) = arrV cA n (fun j => .int (g j)) from arrV_ext (fun j hj => congrArg Value.int (h j hj)))
theorem zP_rowN {D : va_G} {cl : List vw_C} {ws : va_W} {H : Heap} (hP : va_P D cl ws H) (q0 : Nat) {a n : Nat} {cA : ClassId} {f : Nat → Nat} (g : Nat → Nat) (ha : ws[q0]? = some (a, .inl (cA, n, .inl (nIf f)))) (h : ∀ j, j < n → f j = g j) : va_P D cl (ws.set q0 (a, .inl (cA, n, .inl (nIf g)))) H :=
  zP_rowI hP q0 (nIf g) ha (fun j hj => congrArg nI (h j hj))
theorem zP_rowB {D : va_G} {cl : List vw_C} {ws : va_W} {H : Heap} (hP : va_P D cl ws H) (q0 : Nat) {a n : Nat} {cA : ClassId} {f : Nat → Bool} (g : Nat → Bool) (ha : ws[q0]? = some (a, .inl (cA, n, .inl (nBf f)))) (h : ∀ j, j < n → f j = g j) : va_P D cl (ws.set q0 (a, .inl (cA, n, .inl (nBf g)))) H :=
  zP_rowI hP q0 (nBf g) ha (fun j hj => by show (if f j = true then (1 : Int32) else 0) = if g j = true then 1 else 0; rw [h j hj])
def cpL (f g : Nat → Int64) (i : Nat) : Nat → Int64 := fun j => if j < i then g j else f j
theorem cpL_0 (f g : Nat → Int64) : f = cpL f g 0 := by funext j; unfold cpL; rw [if_neg (by omega)]
theorem cpL_s (f g : Nat → Int64) (i : Nat) : vp_updL (cpL f g i) i (g i) = cpL f g (i + 1) := by
  funext j
  unfold vp_updL cpL
  by_cases h : j = i
  · subst h; rw [if_pos rfl, if_pos (by omega)]
  · rw [if_neg h]
    by_cases h2 : j < i
    · rw [if_pos h2, if_pos (by omega)]
    · rw [if_neg h2, if_neg (by omega)]
theorem cpL_e {f g : Nat → Int64} {i j : Nat} (h : j < i) : cpL f g i j = g j := if_pos h
def rmL (f : Nat → Int64) (m i : Nat) : Nat → Int64 := fun j => if m ≤ j ∧ j < i then f (j + 1) else f j
theorem rmL_0 (f : Nat → Int64) (m : Nat) : f = rmL f m m := by funext j; unfold rmL; rw [if_neg (by omega)]
theorem rmL_n (f : Nat → Int64) (m i : Nat) : rmL f m i (i + 1) = f (i + 1) := if_neg (by omega)
theorem rmL_s (f : Nat → Int64) {m i : Nat} (hm : m ≤ i) : vp_updL (rmL f m i) i (f (i + 1)) = rmL f m (i + 1) := by
  funext j
  unfold vp_updL rmL
  by_cases h : j = i
  · subst h; rw [if_pos rfl, if_pos ⟨hm, by omega⟩]
  · rw [if_neg h]
    by_cases h2 : m ≤ j ∧ j < i
    · rw [if_pos h2, if_pos (by omega)]
    · rw [if_neg h2, if_neg (by omega)]
/-- the lowest mark that is x, or NONE -/
def lowM (mk : Nat → Int64) (k : Nat) (x : Int64) : Int32 := if fa_first (fun i => mk i == x) k < k then nI (fa_first (fun i => mk i == x) k) else (-6)
theorem lowM_yes {mk : Nat → Int64} {k i : Nat} {x : Int64} (hi : i < k) (h : mk i = x) (hl : ∀ j, j < i → mk j ≠ x) : nI i = lowM mk k x := by
  unfold lowM
  rw [fa_first_of (p := fun i => mk i == x) hi (by simp [h]) (fun j hj => by simp [hl j hj]), if_pos hi]
theorem lowM_no {mk : Nat → Int64} {k : Nat} {x : Int64} (hl : ∀ j, j < k → mk j ≠ x) : (-6 : Int32) = lowM mk k x := by
  unfold lowM
  rw [fa_first_end (p := fun i => mk i == x) (n := k) (fun j hj => by simp [hl j hj]), if_neg (by omega)]

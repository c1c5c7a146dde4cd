/-! what a change makes of the table alone; one act of the law, and one trick -/
abbrev ZT : Type := (Nat → TV) × (Nat → Bool) × Nat × Nat
def apM (m : MT) : Option TV → MT
  | none => m
  | some t => putM m t
/-- the answer, and the table that comes (or none: nothing is different), out of the table alone -/
def Acts (f : MT → Int32 × MT) (t : TV) : Prop := ∃ (r : Int32) (q : Option TV), (∀ z : ZT, f (t, z) = (r, apM (t, z) q)) ∧ (r.toInt < 0 ↔ q = none)
theorem ac_no {f : MT → Int32 × MT} {t : TV} {r : Int32} (hr : r.toInt < 0) (h : ∀ z : ZT, f (t, z) = (r, (t, z))) : Acts f t := ⟨r, none, h, ⟨fun _ => rfl, fun _ => hr⟩⟩
theorem ac_yes {f : MT → Int32 × MT} {t t2 : TV} {k : Nat} (hk : k < 2 ^ 31) (h : ∀ z : ZT, f (t, z) = (nI k, putM (t, z) t2)) : Acts f t := ⟨nI k, some t2, h, ⟨fun q => absurd q (by rw [nI_toInt hk]; omega), fun q => (by cases q)⟩⟩
theorem ac_come {f : MT → Int32 × MT} {t : TV} (ht : TVok t) (x : Int64) (h : ∀ z : ZT, f (t, z) = comeM (t, z) x) : Acts f t := by
  by_cases c : t.2.2.2.1 < 6
  · exact ac_yes (t2 := (t.1, t.2.1, t.2.2.1, t.2.2.2.1 + 1, vp_updL t.2.2.2.2 t.2.2.2.1 x)) (k := t.2.2.2.1) (by omega) (fun z => by rw [h z]; exact if_pos c)
  · exact ac_no (r := -4) (by decide) (fun z => by rw [h z]; exact if_neg c)
theorem ac_move {f : MT → Int32 × MT} {t : TV} (x : Int64) (h : ∀ z : ZT, f (t, z) = moveM (t, z) x) : Acts f t := by
  obtain ⟨P, hP⟩ : ∃ y, y = thenL t.2.1 x := ⟨_, rfl⟩
  obtain ⟨T, hT⟩ : ∃ y, y = thenL t.2.2.1 x := ⟨_, rfl⟩
  have hf := fr_lt P 0
  refine ac_yes (t2 := (t.1, P, T, t.2.2.2.1, t.2.2.2.2)) (k := fr P 0) (by omega) (fun z => ?_)
  rw [h z]
  show (nI (fr (thenL t.2.1 x) 0), putM (t, z) (t.1, thenL t.2.1 x, thenL t.2.2.1 x, t.2.2.2.1, t.2.2.2.2)) = _
  rw [← hP, ← hT]
abbrev z0 (t : TV) : ZT := (fun _ => t, fun _ => false, 0, 0)
theorem ac_set (v : Int32) {t : TV} (ht : TVok t) : Acts (fun m => opSet m v) t := by
  by_cases c : 2 ≤ v.toInt ∧ v.toInt ≤ 16
  · exact ac_yes (t2 := (ix v, stayL, stayL, 0, t.2.2.2.2)) (k := t.1) (by have := ht.2.1; omega) (fun z => if_pos c)
  · exact ac_no (r := -2) (by decide) (fun z => if_neg c)
theorem ac_product (a b : Int32) {t : TV} (ht : TVok t) : Acts (fun m => opProduct m a b) t := by
  by_cases c : bM (t, z0 t) a = true ∧ bM (t, z0 t) b = true
  · obtain ⟨x, hx⟩ : ∃ y, y = thenL (t.2.2.2.2 (ix a)) (t.2.2.2.2 (ix b)) := ⟨_, rfl⟩
    refine ac_come ht x (fun z => ?_)
    rw [hx]
    exact if_pos c
  · exact ac_no (r := -1) (by decide) (fun z => if_neg c)
theorem ac_power (a k : Int32) {t : TV} (ht : TVok t) : Acts (fun m => opPower m a k) t := by
  by_cases c : bM (t, z0 t) a = true
  · by_cases c2 : bZ k = true
    · obtain ⟨x, hx⟩ : ∃ y, y = timesL (t.2.2.2.2 (ix a)) k.toInt := ⟨_, rfl⟩
      refine ac_come ht x (fun z => ?_)
      rw [hx]
      exact (if_pos c).trans (if_pos c2)
    · exact ac_no (r := -2) (by decide) (fun z => (if_pos c).trans (if_neg c2))
  · exact ac_no (r := -1) (by decide) (fun z => if_neg c)
theorem ac_trick {t : TV} (ht : TVok t) : Acts opTrick t := ac_come ht t.2.2.1 (fun _ => rfl)
theorem ac_drop (a : Int32) {t : TV} (ht : TVok t) : Acts (fun m => opDrop m a) t := by
  by_cases c : bM (t, z0 t) a = true
  · exact ac_yes (t2 := (t.1, t.2.1, t.2.2.1, t.2.2.2.1 - 1, rmL t.2.2.2.2 (ix a) 5)) (k := t.2.2.2.1 - 1) (by have := ht.2.2.1; omega) (fun z => if_pos c)
  · exact ac_no (r := -1) (by decide) (fun z => if_neg c)
theorem ac_play (a : Int32) {t : TV} : Acts (fun m => opPlay m a) t := by
  by_cases c : bM (t, z0 t) a = true
  · exact ac_move (t.2.2.2.2 (ix a)) (fun z => if_pos c)
  · exact ac_no (r := -1) (by decide) (fun z => if_neg c)
theorem ac_cut (a : Int32) {t : TV} : Acts (fun m => opCut m a) t := by
  by_cases c : bP (t, z0 t) a = true
  · obtain ⟨x, hx⟩ : ∃ y, y = perL (cutF (ix a) t.1) t.1 := ⟨_, rfl⟩
    refine ac_move x (fun z => ?_)
    rw [hx]
    exact if_pos c
  · exact ac_no (r := -2) (by decide) (fun z => if_neg c)
theorem ac_riffle (a : Int32) {t : TV} : Acts (fun m => opRiffle m a) t := by
  by_cases c : a.toInt = 0 ∨ a.toInt = 1
  · obtain ⟨x, hx⟩ : ∃ y, y = perL (stepF (if a.toInt = 1 then 2 else 1) t.1) t.1 := ⟨_, rfl⟩
    refine ac_move x (fun z => ?_)
    rw [hx]
    exact if_pos c
  · exact ac_no (r := -2) (by decide) (fun z => if_neg c)
theorem ac_turn {t : TV} : Acts opTurn t := by
  obtain ⟨x, hx⟩ : ∃ y, y = perL (stepF 3 t.1) t.1 := ⟨_, rfl⟩
  refine ac_move x (fun z => ?_)
  rw [hx]
  rfl
def mvT (t : TV) : Nat := t.1 - popN (fixM t.2.2.1 t.1)
theorem ac_restart {t : TV} (ht : TVok t) : Acts opRestart t := by
  have h1 := ht.2.1
  have h2 : mvT t ≤ t.1 := Nat.sub_le _ _
  exact ac_yes (t2 := (t.1, t.2.1, stayL, t.2.2.2.1, t.2.2.2.2)) (k := mvT t) (by omega) (fun z => rfl)
/-- what the slots hold -/
def SlK (s : SL) : Prop := s.2 0 = true ∧ TVok (s.1 0)
theorem ac_restore {s : SL} (hs : SlK s) (t : TV) : Acts (fun m => opRestore m s (nI 0)) t := by
  have h6 := hs.2.2.2.1
  refine ac_yes (t2 := s.1 0) (k := (s.1 0).2.2.2.1) (by omega) (fun z => ?_)
  exact (if_pos (show (0 : Int) ≤ (nI 0).toInt ∧ (nI 0).toInt < 2 by decide)).trans (if_pos hs.1)
/-- one act of the law -/
def actM (m : MT) (s : SL) (v w : Int32) : Int32 × MT :=
  if a15 v = 0 then (if a3 w ≤ 0 then opSet m (nI (loN (w >>> (nI 2 &&& 31)) 17)) else opRestart m)
  else if a15 v = 1 then opProduct m (nI (loN w (mC m + 1))) (nI (loN (w >>> (nI 4 &&& 31)) (mC m + 1)))
  else if a15 v = 2 then opPower m (nI (loN w (mC m + 1))) (nI (loN (w >>> (nI 4 &&& 31)) 2003) - nI 1001)
  else if a15 v < 6 then opTrick m
  else if a15 v = 6 then opDrop m (nI (loN w (mC m + 1)))
  else if a15 v < 9 then opPlay m (nI (loN w (mC m + 1)))
  else if a15 v < 12 then opCut m (nI (loN w (mN m + 1)))
  else if a15 v < 14 then opRiffle m (nI (loN w 3))
  else if a15 v = 14 ∧ a3 w = 0 then opRestore m s (nI 0)
  else opTurn m
theorem ac_act {s : SL} (hs : SlK s) (v w : Int32) {t : TV} (ht : TVok t) : Acts (fun m => actM m s v w) t := by
  have key : ∀ {g : MT → Int32 × MT}, Acts g t → (∀ z : ZT, actM (t, z) s v w = g (t, z)) → Acts (fun m => actM m s v w) t := fun h e => by
    obtain ⟨r, q, h1, h2⟩ := h
    exact ⟨r, q, fun z => (e z).trans (h1 z), h2⟩
  by_cases c0 : a15 v = 0
  · by_cases d : a3 w ≤ 0
    · exact key (ac_set (nI (loN (w >>> (nI 2 &&& 31)) 17)) ht) (fun z => (if_pos c0).trans (if_pos d))
    · exact key (ac_restart ht) (fun z => (if_pos c0).trans (if_neg d))
  by_cases c1 : a15 v = 1
  · exact key (ac_product (nI (loN w (t.2.2.2.1 + 1))) (nI (loN (w >>> (nI 4 &&& 31)) (t.2.2.2.1 + 1))) ht) (fun z => (if_neg c0).trans (if_pos c1))
  by_cases c2 : a15 v = 2
  · exact key (ac_power (nI (loN w (t.2.2.2.1 + 1))) (nI (loN (w >>> (nI 4 &&& 31)) 2003) - nI 1001) ht) (fun z => (if_neg c0).trans ((if_neg c1).trans (if_pos c2)))
  by_cases c3 : a15 v < 6
  · exact key (ac_trick ht) (fun z => (if_neg c0).trans ((if_neg c1).trans ((if_neg c2).trans (if_pos c3))))
  by_cases c6 : a15 v = 6
  · exact key (ac_drop (nI (loN w (t.2.2.2.1 + 1))) ht) (fun z => (if_neg c0).trans ((if_neg c1).trans ((if_neg c2).trans ((if_neg c3).trans (if_pos c6)))))
  by_cases c7 : a15 v < 9
  · exact key (ac_play (nI (loN w (t.2.2.2.1 + 1)))) (fun z => (if_neg c0).trans ((if_neg c1).trans ((if_neg c2).trans ((if_neg c3).trans ((if_neg c6).trans (if_pos c7))))))
  by_cases c9 : a15 v < 12
  · exact key (ac_cut (nI (loN w (t.1 + 1)))) (fun z => (if_neg c0).trans ((if_neg c1).trans ((if_neg c2).trans ((if_neg c3).trans ((if_neg c6).trans ((if_neg c7).trans (if_pos c9)))))))
  by_cases c12 : a15 v < 14
  · exact key (ac_riffle (nI (loN w 3))) (fun z => (if_neg c0).trans ((if_neg c1).trans ((if_neg c2).trans ((if_neg c3).trans ((if_neg c6).trans ((if_neg c7).trans ((if_neg c9).trans (if_pos c12))))))))
  by_cases c14 : a15 v = 14 ∧ a3 w = 0
  · exact key (ac_restore hs t) (fun z => (if_neg c0).trans ((if_neg c1).trans ((if_neg c2).trans ((if_neg c3).trans ((if_neg c6).trans ((if_neg c7).trans ((if_neg c9).trans ((if_neg c12).trans (if_pos c14)))))))))
  · exact key ac_turn (fun z => (if_neg c0).trans ((if_neg c1).trans ((if_neg c2).trans ((if_neg c3).trans ((if_neg c6).trans ((if_neg c7).trans ((if_neg c9).trans ((if_neg c12).trans (if_neg c14)))))))))
theorem ok_restoreK {m : MT} (h : Ok3 m) {s : SL} (hs : SlK s) : Ok3 (opRestore m s (nI 0)).2 := by
  have e : opRestore m s (nI 0) = (nI (s.1 0).2.2.2.1, putM m (s.1 0)) := (if_pos (show (0 : Int) ≤ (nI 0).toInt ∧ (nI 0).toInt < 2 by decide)).trans (if_pos hs.1)
  rw [e]
  exact ok_put h hs.2
theorem ok_act {m : MT} (h : Ok3 m) {s : SL} (hs : SlK s) (v w : Int32) : Ok3 (actM m s v w).2 := by
  unfold actM
  by_cases c0 : a15 v = 0
  · rw [if_pos c0]
    by_cases d : a3 w ≤ 0
    · rw [if_pos d]; exact ok_set h _
    · rw [if_neg d]; exact ok_restart h
  rw [if_neg c0]
  by_cases c1 : a15 v = 1
  · rw [if_pos c1]; exact ok_product h _ _
  rw [if_neg c1]
  by_cases c2 : a15 v = 2
  · rw [if_pos c2]; exact ok_power h _ _
  rw [if_neg c2]
  by_cases c3 : a15 v < 6
  · rw [if_pos c3]; exact ok_trick h
  rw [if_neg c3]
  by_cases c6 : a15 v = 6
  · rw [if_pos c6]; exact ok_drop h _
  rw [if_neg c6]
  by_cases c7 : a15 v < 9
  · rw [if_pos c7]; exact ok_play h _
  rw [if_neg c7]
  by_cases c9 : a15 v < 12
  · rw [if_pos c9]; exact ok_cut h _
  rw [if_neg c9]
  by_cases c12 : a15 v < 14
  · rw [if_pos c12]; exact ok_riffle h _
  rw [if_neg c12]
  by_cases c14 : a15 v = 14 ∧ a3 w = 0
  · rw [if_pos c14]; exact ok_restoreK h hs
  rw [if_neg c14]
  exact ok_turn h
/-! what a call tells of the object: of the table alone -/
def tdC (m : MT) (pl : Nat) : Nat → Int64
  | 0 => 3
  | i + 1 => 31 * tdC m pl i + (qCount m pl (nI i)).toInt64
def tdK (m : MT) (p : Nat) (h : Int64) : Nat → Int64
  | 0 => h
  | k + 1 => 31 * tdK m p h k + (qImage m (nI k) (nI 1) (nI p)).toInt64
def tdH (m : MT) (p : Nat) (h : Int64) : Int64 := 31 * (31 * h + (qAt m (nI p)).toInt64) + (qImage m (-6) (nI 1) (nI p)).toInt64
def tdP (m : MT) (pl : Nat) : Nat → Int64
  | 0 => tdC m pl 5
  | p + 1 => tdK m p (tdH m p (tdP m pl p)) (mC m)
def tdA (m : MT) (pl : Nat) : Int64 := 31 * (31 * tdP m pl (mN m) + (qShare m).toInt64) + qSpread m
theorem tdC_same (t : TV) (z y : ZT) (pl : Nat) : ∀ i : Nat, i ≤ 5 → tdC (t, z) pl i = tdC (t, y) pl i
  | 0, _ => rfl
  | i + 1, h => by
    show 31 * tdC (t, z) pl i + (qCount (t, z) pl (nI i)).toInt64 = 31 * tdC (t, y) pl i + (qCount (t, y) pl (nI i)).toInt64
    rw [tdC_same t z y pl i (by omega)]
    rcases (show i = 0 ∨ i = 1 ∨ i = 2 ∨ i = 3 ∨ i = 4 by omega) with rfl | rfl | rfl | rfl | rfl
    · rw [qC0, qC0]
    · rw [qC1, qC1]
    · rw [qC2, qC2]
    · rw [qC3, qC3]
    · rw [qC4, qC4]
      rfl
theorem qIm_same (t : TV) (z y : ZT) (a k p : Int32) : qImage (t, z) a k p = qImage (t, y) a k p := rfl
theorem qAt_same (t : TV) (z y : ZT) (p : Int32) : qAt (t, z) p = qAt (t, y) p := rfl
theorem tdK_same (t : TV) (z y : ZT) (p : Nat) (h : Int64) : ∀ k : Nat, tdK (t, z) p h k = tdK (t, y) p h k
  | 0 => rfl
  | k + 1 => by
    show 31 * tdK (t, z) p h k + (qImage (t, z) (nI k) (nI 1) (nI p)).toInt64 = 31 * tdK (t, y) p h k + (qImage (t, y) (nI k) (nI 1) (nI p)).toInt64
    rw [tdK_same t z y p h k, qIm_same t z y]
theorem tdH_same (t : TV) (z y : ZT) (p : Nat) (h : Int64) : tdH (t, z) p h = tdH (t, y) p h := rfl
theorem tdP_same (t : TV) (z y : ZT) (pl : Nat) : ∀ k : Nat, tdP (t, z) pl k = tdP (t, y) pl k
  | 0 => tdC_same t z y pl 5 (Nat.le_refl _)
  | p + 1 => by
    show tdK (t, z) p (tdH (t, z) p (tdP (t, z) pl p)) t.2.2.2.1 = tdK (t, y) p (tdH (t, y) p (tdP (t, y) pl p)) t.2.2.2.1
    rw [tdP_same t z y pl p, tdH_same t z y, tdK_same t z y]
theorem tdA_same {m m2 : MT} (h : m.1 = m2.1) (pl : Nat) : tdA m pl = tdA m2 pl := by
  obtain ⟨t, z⟩ := m
  obtain ⟨t2, y⟩ := m2
  have h : t = t2 := h
  subst h
  show 31 * (31 * tdP (t, z) pl t.1 + (qShare (t, z)).toInt64) + qSpread (t, z) = 31 * (31 * tdP (t, y) pl t.1 + (qShare (t, y)).toInt64) + qSpread (t, y)
  rw [tdP_same t z y]
  rfl
/-! undo behind a change -/
theorem undo_put {m : MT} (h : Ok3 m) (t : TV) : (opUndo (putM m t)).1 = nI (upD (mU m) - 1) ∧ (opUndo (putM m t)).2.1 = m.1 ∧ Ok3 (opUndo (putM m t)).2 := by
  have hX := h.2.1
  have hU := h.2.2
  have e1 : mU (putM m t) = upD (mU m) := rfl
  have e2 : mX (putM m t) = nxK (mX m) := rfl
  have e3 : upD (mU m) ≠ 0 := by rw [upD_E hU]; omega
  have e4 : pvK (nxK (mX m)) = mX m := by rw [nxK_E hX, pvK_E (Nat.mod_lt _ (by decide))]; omega
  have e5 : mV (putM m t) (mX m) = m.1 := if_pos rfl
  have e6 : opUndo (putM m t) = (nI (upD (mU m) - 1), (m.1, mV (putM m t), mF (putM m t), upD (mU m) - 1, mX m)) := by
    unfold opUndo
    rw [e1, if_neg e3, e2, e4, e5]
  rw [e6]
  exact ⟨rfl, rfl, h.1, hX, by show upD (mU m) - 1 ≤ 6; rw [upD_E hU]; omega⟩

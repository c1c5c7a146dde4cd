/-! a trick from a deck in order: the deck and the trick are one mark -/
theorem mkT_6 (m : MT) : mkT m (-6) = mT m := if_pos (show (-6 : Int32).toInt = -6 from rfl)
theorem qImage_6 {m : MT} (hn : mN m ≤ 16) {p : Nat} (hp : p < mN m) : qImage m (-6) (nI 1) (nI p) = nI (nb (mT m) p) := by rw [qImage_1 hn (bMT_6 m) hp, mkT_6]
def Tk (m m1 : MT) : Prop := Ok3 m1 ∧ mN m1 = mN m ∧ mC m1 = 0 ∧ mP m1 = mT m1
theorem tk_set {m : MT} (h : Ok3 m) : Tk m (opSet m (nI (mN m))).2 ∧ movedN (opSet m (nI (mN m))).2 = 0 := by
  have h2 := ok_2 h.1
  have hn := ok_n h.1
  have hk := ok_set h (nI (mN m))
  have e : opSet m (nI (mN m)) = (nI (mN m), putM m (mN m, stayL, stayL, 0, mM m)) := by
    unfold opSet
    rw [if_pos (by rw [nI_toInt (by omega)]; omega), ix_nI (by omega)]
  rw [e] at hk ⊢
  refine ⟨⟨hk, rfl, rfl, rfl⟩, ?_⟩
  show mN m - popN (fixM stayL (mN m)) = 0
  have e2 : fb_ct (fun q => nb stayL q == q) (mN m) = mN m := fb_ct_all.mpr (fun k hk => by
    show (nb stayL k == k) = true
    rw [nb_stay (by omega)]
    simp)
  rw [pop_fix stayL hn, e2, Nat.sub_self]
theorem tk_move {m m1 : MT} (h : Tk m m1) {x : Int64} (hx : WF (mN m1) x) : Tk m (moveM m1 x).2 ∧ (moveM m1 x).1 = qAt (moveM m1 x).2 (nI 0) := by
  have hk := ok_moveM h.1 hx
  obtain ⟨P, hP⟩ : ∃ z, z = thenL (mP m1) x := ⟨_, rfl⟩
  have e : moveM m1 x = (nI (fr P 0), putM m1 (mN m1, P, P, mC m1, mM m1)) := by
    unfold moveM
    rw [← hP, ← h.2.2.2, ← hP]
  rw [e] at hk ⊢
  refine ⟨⟨hk, h.2.1, h.2.2.1, rfl⟩, ?_⟩
  exact (qAt_v (m := putM m1 (mN m1, P, P, mC m1, mM m1)) (ok_n hk.1) (Nat.lt_of_lt_of_le (by decide) (ok_2 hk.1))).symm
theorem tk_cut {m m1 : MT} (h : Tk m m1) {k : Nat} (hk : k < mN m1) : Tk m (opCut m1 (nI k)).2 ∧ (opCut m1 (nI k)).1 = qAt (opCut m1 (nI k)).2 (nI 0) := by
  have hn := ok_n h.1.1
  have e : opCut m1 (nI k) = moveM m1 (perL (cutF k (mN m1)) (mN m1)) := by
    unfold opCut
    rw [if_pos (bP_n hn hk), ix_nI (by omega)]
  rw [e]
  exact tk_move h (cut_WF hn hk)
theorem tk_riffle {m m1 : MT} (h : Tk m m1) {k : Nat} (hk : k ≤ 1) : Tk m (opRiffle m1 (nI k)).2 ∧ (opRiffle m1 (nI k)).1 = qAt (opRiffle m1 (nI k)).2 (nI 0) := by
  have hn := ok_n h.1.1
  have e : opRiffle m1 (nI k) = moveM m1 (perL (stepF (if (nI k).toInt = 1 then 2 else 1) (mN m1)) (mN m1)) := if_pos (by rw [nI_toInt (by omega)]; omega)
  rw [e]
  exact tk_move h (step_WF hn)
theorem tk_turn {m m1 : MT} (h : Tk m m1) : Tk m (opTurn m1).2 ∧ (opTurn m1).1 = qAt (opTurn m1).2 (nI 0) := tk_move h (step_WF (ok_n h.1.1))
theorem tk_at {m m1 : MT} (h : Tk m m1) {p : Nat} (hp : p < mN m1) : qAt m1 (nI (nb (mT m1) p)) = nI p := by
  have hn := ok_n h.1.1
  have hT := ok_T h.1.1
  rw [qAt_v hn (hT.lt hp hn), h.2.2.2, fr_nb hT.1 (by omega)]
theorem tk_where {m m1 : MT} (h : Tk m m1) {p : Nat} (hp : p < mN m1) : qWhere m1 (nI p) = nI (nb (mT m1) p) := by rw [qWhere_v (ok_n h.1.1) hp, h.2.2.2]
theorem tk_trick {m m1 : MT} (h : Tk m m1) : (opTrick m1).1 = nI 0 ∧ Ok3 (opTrick m1).2 ∧ qCommute (opTrick m1).2 (nI 0) (-6) = nI 1 := by
  have hk := ok_trick h.1
  have hc := h.2.2.1
  have e : opTrick m1 = (nI 0, putM m1 (mN m1, mP m1, mT m1, 1, vp_updL (mM m1) 0 (mT m1))) := by
    show comeM m1 (mT m1) = _
    unfold comeM
    rw [hc]
    rfl
  rw [e] at hk ⊢
  refine ⟨rfl, hk, ?_⟩
  obtain ⟨T, hT⟩ : ∃ z, z = mT m1 := ⟨_, rfl⟩
  rw [← hT] at hk ⊢
  unfold qCommute
  have e1 : mkT (putM m1 (mN m1, mP m1, T, 1, vp_updL (mM m1) 0 T)) (nI 0) = T := rfl
  have e2 : mkT (putM m1 (mN m1, mP m1, T, 1, vp_updL (mM m1) 0 T)) (-6) = T := rfl
  rw [if_pos ⟨bMT_M (bM_n (ok_C hk.1) (show 0 < 1 by decide)), bMT_6 _⟩, e1, e2, if_pos rfl]
  rfl
/-- what a save in slot 1 makes of the slots -/
def SvP (m : MT) (s s1 : SL) : Prop := s1.2 1 = true ∧ s1.1 1 = m.1 ∧ s1.2 0 = s.2 0 ∧ s1.1 0 = s.1 0
theorem sv_save (m : MT) (s : SL) : SvP m s (opSave m s (nI 1)).2 := by
  have e : opSave m s (nI 1) = (nI (mC m), (upT s.1 1 m.1, uB1 s.2 1 true)) := if_pos (show (0 : Int) ≤ (nI 1).toInt ∧ (nI 1).toInt < 2 by decide)
  rw [e]
  exact ⟨rfl, rfl, rfl, rfl⟩
theorem sv_K {m : MT} {s s1 : SL} (h : SvP m s s1) (hs : SlK s) : SlK s1 := ⟨h.2.2.1.trans hs.1, by rw [h.2.2.2]; exact hs.2⟩
theorem sv_restore {m m1 : MT} {s s1 : SL} (h : SvP m s s1) (hw : TVok m.1) (h1 : Ok3 m1) : (opRestore m1 s1 (nI 1)).2.1 = m.1 ∧ Ok3 (opRestore m1 s1 (nI 1)).2 := by
  have e : opRestore m1 s1 (nI 1) = (nI (s1.1 1).2.2.2.1, putM m1 (s1.1 1)) := (if_pos (show (0 : Int) ≤ (nI 1).toInt ∧ (nI 1).toInt < 2 by decide)).trans (if_pos h.1)
  rw [e, h.2.1]
  exact ⟨rfl, ok_put h1 hw⟩
/-! numbers of the law's loops -/
def kI (j : Nat) : Int32 := Int32.ofInt ((j : Int) - 1)
theorem kI_t {j : Nat} (h : j < 2 ^ 30) : (kI j).toInt = (j : Int) - 1 := fb_ofI (by omega) (by omega)
theorem kI_s {j : Nat} (h : j < 2 ^ 29) : kI j + Int32.ofInt 1 = kI (j + 1) := by
  apply Int32.toInt_inj.mp
  have e1 : (Int32.ofInt 1).toInt = 1 := rfl
  rw [fb_addI (by rw [kI_t (by omega), e1]; omega) (by rw [kI_t (by omega), e1]; omega), kI_t (by omega), kI_t (by omega), e1]
  omega
theorem kI_M {m : MT} (hC : mC m ≤ 6) {j : Nat} (h0 : 0 < j) (hj : j ≤ mC m) : bM m (kI j) = true := bM_iff.mpr (by rw [kI_t (by omega)]; omega)
theorem by_rng {w b : Int32} (h : b = nI (loN w 41) - nI 20) : -20 ≤ b.toInt ∧ b.toInt ≤ 20 := by
  have h1 := loN_lt w (show 0 < 41 by decide)
  rw [h, pk_sub_toInt (by omega) (by omega)]
  omega
theorem by_neg {b : Int32} (h : -20 ≤ b.toInt ∧ b.toInt ≤ 20) : (-b).toInt = -b.toInt := fb_negI (by omega)
theorem by_add {b : Int32} {o : Nat} (h : -20 ≤ b.toInt ∧ b.toInt ≤ 20) (ho : o ≤ 140) : (b + nI o).toInt = b.toInt + (o : Int) := by
  have e : (nI o).toInt = (o : Int) := nI_toInt (by omega)
  rw [fb_addI (by rw [e]; omega) (by rw [e]; omega), e]
theorem and_b0 {u : Nat} (h : u.testBit 0 = true) : nI u &&& nI 1 = nI 1 := by
  have e := zz_tb u 0
  rw [show u / 2 ^ 0 = u by simp, if_pos h] at e
  exact e
section
variable {p : Program} {l : Launch} {e : Env} {R rm : Room} {s : State} {m : MethodId} {args : Array Value} {below : List Frame} {meth : Method} {c : Code} {H H0 : Heap} {locs : List Loc} {cells slots pc : Nat} {ls : Array Slot} {rest st0 As : List Value} {Q : State → Prop} {cc : ByteArray} {A0 : Nat → Prop}
theorem zc_lt (hx : p.tables.exec = Jvm.exec) (hb : c.code = cc) {x y : Int64} {off : Int} {tgt : Nat} (hdg : decode cc pc = .ok (.ifCond .lt off, 3)) (ht : (pc : Int) + off = (tgt : Int)) (kt : x < y → W p l e R s m args below meth c H locs cells slots Q (F0 m tgt ls rest)) (kf : ¬ x < y → W p l e R s m args below meth c H locs cells slots Q (F0 m (pc + 3) ls rest)) : W p l e R s m args below meth c H locs cells slots Q (F0 m pc ls (.int (lg_cmp x y) :: rest)) :=
  lv_if_lt hx hb hdg ht (fun h => kt ((lg_cmp_lt x y).mp h)) (fun h => kf (fun q => h ((lg_cmp_lt x y).mpr q)))
end

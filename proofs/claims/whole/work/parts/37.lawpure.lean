/-! what every change keeps: the table is well made, the ring of the history -/
def Ok3 (m : MT) : Prop := TVok m.1 ∧ mX m < 6 ∧ mU m ≤ 6
theorem ok_put {m : MT} (h : Ok3 m) {t : TV} (ht : TVok t) : Ok3 (putM m t) := by
  refine ⟨ht, ?_, ?_⟩
  · show nxK (mX m) < 6
    rw [nxK_E h.2.1]
    omega
  · show upD (mU m) ≤ 6
    have := h.2.2
    unfold upD
    split <;> omega
theorem ok_come {m : MT} (h : Ok3 m) {x : Int64} (hx : WF (mN m) x) : Ok3 (comeM m x).2 := by
  unfold comeM
  by_cases q : mC m < 6
  · rw [if_pos q]
    obtain ⟨h2, h16, h6, hP, hT, hM⟩ := h.1
    refine ok_put h ⟨h2, h16, show mC m + 1 ≤ 6 by omega, hP, hT, fun i hi => ?_⟩
    have hi : i < mC m + 1 := hi
    show WF (mN m) (vp_updL (mM m) (mC m) x i)
    unfold vp_updL
    by_cases e : i = mC m
    · rw [if_pos e]; exact hx
    · rw [if_neg e]; exact hM i (show i < mC m by omega)
  · rw [if_neg q]
    exact h
theorem ok_moved {m : MT} (h : Ok3 m) {P T : Int64} (hP : WF (mN m) P) (hT : WF (mN m) T) : Ok3 (putM m (mN m, P, T, mC m, mM m)) := by
  obtain ⟨h2, h16, h6, _, _, hM⟩ := h.1
  exact ok_put h ⟨h2, h16, h6, hP, hT, hM⟩
theorem ok_moveM {m : MT} (h : Ok3 m) {x : Int64} (hx : WF (mN m) x) : Ok3 (moveM m x).2 := by
  obtain ⟨P, hP⟩ : ∃ z, z = thenL (mP m) x := ⟨_, rfl⟩
  obtain ⟨T, hT⟩ : ∃ z, z = thenL (mT m) x := ⟨_, rfl⟩
  have wP : WF (mN m) P := by rw [hP]; exact then_WF (ok_P h.1) hx
  have wT : WF (mN m) T := by rw [hT]; exact then_WF (ok_T h.1) hx
  unfold moveM
  rw [← hP, ← hT]
  exact ok_moved h wP wT
theorem ok_ix {m : MT} (h : Ok3 m) {a : Int32} (ha : bM m a = true) : WF (mN m) (mM m (ix a)) := ok_M h.1 (by have := bM_iff.mp ha; unfold ix; omega)
theorem ok_set {m : MT} (h : Ok3 m) (v : Int32) : Ok3 (opSet m v).2 := by
  unfold opSet
  by_cases q : 2 ≤ v.toInt ∧ v.toInt ≤ 16
  · rw [if_pos q]
    exact ok_put h ⟨show 2 ≤ ix v by unfold ix; omega, show ix v ≤ 16 by unfold ix; omega, Nat.zero_le _, stay_WF _, stay_WF _, fun i hi => absurd hi (Nat.not_lt_zero _)⟩
  · rw [if_neg q]
    exact h
theorem ok_product {m : MT} (h : Ok3 m) (a b : Int32) : Ok3 (opProduct m a b).2 := by
  unfold opProduct
  by_cases q : bM m a = true ∧ bM m b = true
  · rw [if_pos q]
    exact ok_come h (then_WF (ok_ix h q.1) (ok_ix h q.2))
  · rw [if_neg q]
    exact h
theorem ok_power {m : MT} (h : Ok3 m) (a z : Int32) : Ok3 (opPower m a z).2 := by
  unfold opPower
  by_cases q : bM m a = true
  · rw [if_pos q]
    by_cases q2 : bZ z = true
    · rw [if_pos q2]
      exact ok_come h (times_WF (ok_ix h q))
    · rw [if_neg q2]
      exact h
  · rw [if_neg q]
    exact h
theorem ok_trick {m : MT} (h : Ok3 m) : Ok3 (opTrick m).2 := ok_come h (ok_T h.1)
theorem ok_drop {m : MT} (h : Ok3 m) (a : Int32) : Ok3 (opDrop m a).2 := by
  unfold opDrop
  by_cases q : bM m a = true
  · rw [if_pos q]
    obtain ⟨h2, h16, h6, hP, hT, hM⟩ := h.1
    have hm := bM_iff.mp q
    refine ok_put h ⟨h2, h16, show mC m - 1 ≤ 6 from Nat.le_trans (Nat.sub_le _ _) h6, hP, hT, fun i hi => ?_⟩
    have hi : i < mC m - 1 := hi
    show WF (mN m) (rmL (mM m) (ix a) 5 i)
    unfold rmL
    by_cases e : ix a ≤ i ∧ i < 5
    · rw [if_pos e]; exact hM (i + 1) (show i + 1 < mC m by omega)
    · rw [if_neg e]; exact hM i (show i < mC m by omega)
  · rw [if_neg q]
    exact h
theorem ok_play {m : MT} (h : Ok3 m) (a : Int32) : Ok3 (opPlay m a).2 := by
  unfold opPlay
  by_cases q : bM m a = true
  · rw [if_pos q]
    exact ok_moveM h (ok_ix h q)
  · rw [if_neg q]
    exact h
theorem ok_cut {m : MT} (h : Ok3 m) (a : Int32) : Ok3 (opCut m a).2 := by
  unfold opCut
  by_cases q : bP m a = true
  · rw [if_pos q]
    exact ok_moveM h (cut_WF (ok_n h.1) (by have := bP_iff.mp q; unfold ix; omega))
  · rw [if_neg q]
    exact h
theorem ok_riffle {m : MT} (h : Ok3 m) (a : Int32) : Ok3 (opRiffle m a).2 := by
  unfold opRiffle
  by_cases q : a.toInt = 0 ∨ a.toInt = 1
  · rw [if_pos q]
    exact ok_moveM h (step_WF (ok_n h.1))
  · rw [if_neg q]
    exact h
theorem ok_turn {m : MT} (h : Ok3 m) : Ok3 (opTurn m).2 := ok_moveM h (step_WF (ok_n h.1))
theorem ok_restart {m : MT} (h : Ok3 m) : Ok3 (opRestart m).2 := by
  obtain ⟨h2, h16, h6, hP, hT, hM⟩ := h.1
  exact ok_put h ⟨h2, h16, h6, hP, stay_WF _, hM⟩
theorem ok_undo {m : MT} (h : Ok3 m) {f u : Nat → Nat} (hM : MR m f u) : Ok3 (opUndo m).2 := by
  unfold opUndo
  by_cases q : mU m = 0
  · rw [if_pos q]
    exact h
  · rw [if_neg q]
    have h6 := h.2.2
    refine ⟨(top_back (w := fun z => u (130 * (mU m - 1) + z)) h.2.1 h.2.2 q hM.2 (fun z _ => rfl)).1, ?_, show mU m - 1 ≤ 6 by omega⟩
    show pvK (mX m) < 6
    rw [pvK_E h.2.1]
    omega
theorem ok_restore {m : MT} (h : Ok3 m) {s : SL} {l : Nat → Nat} (hS : SlR s l) (a : Int32) : Ok3 (opRestore m s a).2 := by
  unfold opRestore
  by_cases q : 0 ≤ a.toInt ∧ a.toInt < 2
  · rw [if_pos q]
    by_cases q2 : s.2 (ix a) = true
    · rw [if_pos q2]
      exact ok_put h (hS (ix a) (by unfold ix; omega) q2).1
    · rw [if_neg q2]
      exact h
  · rw [if_neg q]
    exact h
/-! what is read is a mark -/
def PIn (n us : Nat) (mv : Int64) : Prop := P16 (nb mv) ∧ Hi n (nb mv) ∧ ∀ p, p < 16 → us.testBit p = false → nb mv p = p
theorem PIn.mono {n us us2 : Nat} {mv : Int64} (h : PIn n us mv) (hu : ∀ p, p < 16 → us2.testBit p = false → us.testBit p = false) : PIn n us2 mv := ⟨h.1, h.2.1, fun p hp e => h.2.2 p hp (hu p hp e)⟩
theorem bit_or {us d p : Nat} (h : (us ||| 2 ^ d).testBit p = false) : us.testBit p = false ∧ p ≠ d := by
  rw [fb_bit_set] at h
  simpa using h
theorem PIn_ins {n us la fi dg : Nat} {mv : Int64} (hn : n ≤ 16) (h : PIn n us (wN mv la fi)) (hla : la < n) (hl : us.testBit la = true) (hfi : fi < n) (hdg : dg < n) (hd : us.testBit dg = false) : PIn n (us ||| 2 ^ dg) (wN (wN mv la dg) dg fi) := by
  obtain ⟨⟨_, hinj⟩, hHi, hfix⟩ := h
  have g : ∀ q, q < 16 → nb (wN mv la fi) q = if q = la then fi else nb mv q := fun q hq => nb_wN mv hq (by omega)
  have r : ∀ q, q < 16 → nb (wN (wN mv la dg) dg fi) q = if q = dg then fi else if q = la then dg else nb mv q := fun q hq => by
    rw [nb_wN _ hq (by omega), nb_wN _ hq (by omega)]
  have hne : dg ≠ la := fun e => by rw [e, hl] at hd; cases hd
  have gd : nb (wN mv la fi) dg = dg := hfix dg (by omega) hd
  have gl : nb (wN mv la fi) la = fi := by rw [g la (by omega), if_pos rfl]
  have go : ∀ q, q < 16 → q ≠ la → nb mv q = nb (wN mv la fi) q := fun q hq e => by rw [g q hq, if_neg e]
  refine ⟨⟨fun q _ => nb_lt _ q, fun p q hp hq e => ?_⟩, fun p h1 h2 => ?_, fun p hp e => ?_⟩
  · rw [r p hp, r q hq] at e
    by_cases p1 : p = dg
    · rw [if_pos p1] at e
      by_cases q1 : q = dg
      · rw [p1, q1]
      · rw [if_neg q1] at e
        by_cases q2 : q = la
        · rw [if_pos q2] at e
          exact absurd (hinj la dg (by omega) (by omega) (gl.trans (e.trans gd.symm))) (fun w => hne w.symm)
        · rw [if_neg q2, go q hq q2] at e
          exact absurd (hinj la q (by omega) hq (gl.trans e)) (fun w => q2 w.symm)
    · rw [if_neg p1] at e
      by_cases q1 : q = dg
      · rw [if_pos q1] at e
        by_cases p2 : p = la
        · rw [if_pos p2] at e
          exact absurd (hinj la dg (by omega) (by omega) (gl.trans (e.symm.trans gd.symm))) (fun w => hne w.symm)
        · rw [if_neg p2, go p hp p2] at e
          exact absurd (hinj p la hp (by omega) (e.trans gl.symm)) p2
      · rw [if_neg q1] at e
        by_cases p2 : p = la
        · rw [if_pos p2] at e
          by_cases q2 : q = la
          · rw [p2, q2]
          · rw [if_neg q2, go q hq q2] at e
            exact absurd (hinj dg q (by omega) hq (gd.trans e)) (fun w => q1 w.symm)
        · rw [if_neg p2, go p hp p2] at e
          by_cases q2 : q = la
          · rw [if_pos q2] at e
            exact absurd (hinj p dg hp (by omega) (e.trans gd.symm)) p1
          · rw [if_neg q2, go q hq q2] at e
            exact hinj p q hp hq e
  · rw [r p h2, if_neg (by omega), if_neg (by omega), go p h2 (by omega)]
    exact hHi p h1 h2
  · obtain ⟨e1, e2⟩ := bit_or e
    have e3 : p ≠ la := fun w => by rw [w, hl] at e1; cases e1
    rw [r p hp, if_neg e2, if_neg e3, go p hp e3]
    exact hfix p hp e1
theorem PIn_one {n us dg : Nat} {mv : Int64} (hn : n ≤ 16) (h : PIn n us mv) (hdg : dg < n) (hd : us.testBit dg = false) : PIn n (us ||| 2 ^ dg) (wN mv dg dg) := by
  have e : wN mv dg dg = mv := nb_ext (fun q hq => by
    rw [nb_wN mv hq (by omega)]
    by_cases w : q = dg
    · rw [if_pos w, w]
      exact (h.2.2 dg (by omega) hd).symm
    · rw [if_neg w])
  rw [e]
  exact h.mono (fun p _ w => (bit_or w).1)
def AIn (n : Nat) (s : RS) : Prop := ((s.1 = 0 ∨ s.1 = 1 ∨ s.1 = 4) → PIn n s.2.2.1 s.2.1) ∧ ((s.1 = 2 ∨ s.1 = 3) → (s.2.2.2.2.1 = 0 → PIn n s.2.2.1 s.2.1) ∧ (0 < s.2.2.2.2.1 → s.2.2.2.2.2.2 < n ∧ s.2.2.1.testBit s.2.2.2.2.2.2 = true ∧ s.2.2.2.2.2.1 < n ∧ PIn n s.2.2.1 (wN s.2.1 s.2.2.2.2.2.2 s.2.2.2.2.2.1)))
theorem frE_use {n us d : Nat} (h : frE n us d = true) : d < n ∧ us.testBit d = false := by
  unfold frE at h
  simpa using h
theorem tb_self (us d : Nat) : (us ||| 2 ^ d).testBit d = true := by
  rw [fb_bit_set]
  simp
theorem dig_in {n st : Nat} {mv : Int64} {us dg ic fi la ch ah : Nat} (e : (digR n st mv us dg ic fi la ch ah).1 = true) : ∃ v, (digR n st mv us dg ic fi la ch ah).2 = (3, mv, us, v, ic, fi, la) := by
  unfold digR at e ⊢
  split
  · exact ⟨_, rfl⟩
  · next w => rw [if_neg w] at e; cases e
theorem AIn_step {n : Nat} {s : RS} {ch : Nat} (hn : n ≤ 16) (h : AIn n s) (e : (stp n s ch).1 = true) : AIn n (stp n s ch).2 := by
  obtain ⟨st, mv, us, dg, ic, fi, la⟩ := s
  obtain ⟨ha, hb⟩ := h
  have ha : (st = 0 ∨ st = 1 ∨ st = 4) → PIn n us mv := ha
  have hb : (st = 2 ∨ st = 3) → (ic = 0 → PIn n us mv) ∧ (0 < ic → la < n ∧ us.testBit la = true ∧ fi < n ∧ PIn n us (wN mv la fi)) := hb
  have key3 : ∀ v : Nat, ((st = 2 ∨ st = 3)) → AIn n (3, mv, us, v, ic, fi, la) := fun v w => ⟨fun q => (by rcases q with q | q | q <;> cases q), fun _ => hb w⟩
  have key2 : PIn n us mv → AIn n (2, mv, us, dg, 0, fi, la) := fun w => ⟨fun q => (by rcases q with q | q | q <;> cases q), fun _ => ⟨fun _ => w, fun q => absurd q (Nat.lt_irrefl 0)⟩⟩
  unfold stp at e ⊢
  dsimp only at e ⊢
  unfold stepR at e ⊢
  by_cases s0 : st = 0
  · rw [if_pos s0] at e ⊢
    by_cases c : ch = 101
    · rw [if_pos c]
      exact ⟨fun _ => ha (Or.inl s0), fun q => (by rcases q with q | q <;> cases q)⟩
    · rw [if_neg c] at e ⊢
      unfold opnR at e ⊢
      by_cases c2 : ch = 40
      · rw [if_pos c2]
        exact key2 (ha (Or.inl s0))
      · rw [if_neg c2] at e
        cases e
  · rw [if_neg s0] at e ⊢
    by_cases s2 : st = 2
    · rw [if_pos s2] at e ⊢
      obtain ⟨v, hv⟩ := dig_in e
      rw [hv]
      exact key3 v (Or.inl s2)
    · rw [if_neg s2] at e ⊢
      by_cases s3 : st = 3
      · rw [if_pos s3] at e ⊢
        have hbb := hb (Or.inr s3)
        have core : frE n us dg = true → dg < n ∧ endI ic fi dg < n ∧ PIn n (us ||| 2 ^ dg) (wN (endM mv ic la dg) dg (endI ic fi dg)) := by
          intro w
          obtain ⟨w1, w2⟩ := frE_use w
          rcases Nat.eq_zero_or_pos ic with z | z
          · have e1 : endM mv ic la dg = mv := if_pos z
            have e2 : endI ic fi dg = dg := if_pos z
            rw [e1, e2]
            exact ⟨w1, w1, PIn_one hn (hbb.1 z) w1 w2⟩
          · have e1 : endM mv ic la dg = wN mv la dg := if_neg (by omega)
            have e2 : endI ic fi dg = fi := if_neg (by omega)
            obtain ⟨b1, b2, b3, b4⟩ := hbb.2 z
            rw [e1, e2]
            exact ⟨w1, b3, PIn_ins hn b4 b1 b2 b3 w1 w2⟩
        unfold inpR at e ⊢
        by_cases c1 : ch = 44
        · rw [if_pos c1] at e ⊢
          unfold endR at e ⊢
          by_cases c2 : frE n us dg = true
          · rw [if_pos c2]
            obtain ⟨w1, w2, w3⟩ := core c2
            exact ⟨fun q => (by rcases q with q | q | q <;> cases q), fun _ => ⟨fun q => absurd q (Nat.succ_ne_zero _), fun _ => ⟨w1, tb_self us dg, w2, w3⟩⟩⟩
          · rw [if_neg c2] at e
            cases e
        · rw [if_neg c1] at e ⊢
          by_cases c2 : ch = 41
          · rw [if_pos c2] at e ⊢
            by_cases c3 : 0 < ic ∧ frE n us dg = true
            · rw [if_pos c3]
              exact ⟨fun _ => (core c3.2).2.2, fun q => (by rcases q with q | q <;> cases q)⟩
            · rw [if_neg c3] at e
              cases e
          · rw [if_neg c2] at e ⊢
            by_cases c3 : 0 < dg
            · rw [if_pos c3] at e ⊢
              obtain ⟨v, hv⟩ := dig_in e
              rw [hv]
              exact key3 v (Or.inr s3)
            · rw [if_neg c3] at e
              cases e
      · rw [if_neg s3] at e ⊢
        by_cases s4 : st = 4
        · rw [if_pos s4] at e ⊢
          unfold opnR at e ⊢
          by_cases c2 : ch = 40
          · rw [if_pos c2]
            exact key2 (ha (Or.inr (Or.inr s4)))
          · rw [if_neg c2] at e
            cases e
        · rw [if_neg s4] at e
          cases e
theorem AIn_at {n : Nat} {pd : Nat → Nat} {z0 : RS} (hn : n ≤ 16) (hz : z0.1 = 0 ∧ z0.2.1 = stayL ∧ z0.2.2.1 = 0) : ∀ i : Nat, (∀ j, j < i → okA n pd z0 j = true) → AIn n (rsAt n pd z0 i)
  | 0, _ => by
    have hp : PIn n z0.2.2.1 z0.2.1 := by
      rw [hz.2.1]
      exact ⟨(stay_WF n).1, (stay_WF n).2, fun p hp _ => nb_stay hp⟩
    exact ⟨fun _ => hp, fun q => by
      have q : z0.1 = 2 ∨ z0.1 = 3 := q
      rw [hz.1] at q
      rcases q with q | q <;> cases q⟩
  | i + 1, h => AIn_step hn (AIn_at hn hz i (fun j hj => h j (by omega))) (h i (by omega))
theorem parse_WF {n : Nat} {pd : Nat → Nat} {z0 : RS} {ln : Nat} (hn : n ≤ 16) (hln : ln ≤ 80) (hz : z0.1 = 0 ∧ z0.2.1 = stayL ∧ z0.2.2.1 = 0) (h : fltI n pd z0 ln = -6) : WF n (rsAt n pd z0 ln).2.1 := by
  have nn : ∀ k : Nat, k ≤ 80 → nI k ≠ -6 := fun k hk e => by
    have e2 := congrArg Int32.toInt e
    rw [nI_toInt (by omega)] at e2
    have e3 : (k : Int) = -6 := e2
    omega
  unfold fltI at h
  by_cases q : fltN n pd z0 ln < ln
  · rw [if_pos q] at h
    exact absurd h (nn _ (by omega))
  · rw [if_neg q] at h
    by_cases q2 : (rsAt n pd z0 ln).1 = 1 ∨ (rsAt n pd z0 ln).1 = 4
    · have hall : ∀ j, j < ln → okA n pd z0 j = true := fun j hj => by
        have h1 := fa_first_no (fun i => !okA n pd z0 i) ln j (Nat.lt_of_lt_of_le hj (by
          have := fa_first_le (fun i => !okA n pd z0 i) ln
          unfold fltN at q
          omega))
        simpa using h1
      have h2 := (AIn_at hn hz ln hall).1 (Or.inr q2)
      exact ⟨h2.1, h2.2.1⟩
    · rw [if_neg q2] at h
      exact absurd h (nn _ hln)
theorem ok_mark {m : MT} (h : Ok3 m) {pd : Nat → Nat} {z0 : RS} {ln : Nat} (hln : ln ≤ 80) (hz : z0.1 = 0 ∧ z0.2.1 = stayL ∧ z0.2.2.1 = 0) : Ok3 (opMark m (fltI (mN m) pd z0 ln) (rsAt (mN m) pd z0 ln).2.1).2 := by
  unfold opMark
  by_cases q : fltI (mN m) pd z0 ln = -6
  · rw [if_pos q]
    exact ok_come h (parse_WF (ok_n h.1) hln hz q)
  · rw [if_neg q]
    exact h
def PdOk (pd : Nat → Nat) (pl : Nat) : Prop := pl ≤ 80 ∧ ∀ q, q < pl → 33 ≤ pd q ∧ pd q ≤ 126
theorem pd_mark {m : MT} {f : Int32} {pd : Nat → Nat} {pl : Nat} (h : PdOk pd pl) : PdOk pd (opMarkL m f pl) := by
  unfold opMarkL
  split
  · exact ⟨Nat.zero_le _, fun q hq => absurd hq (Nat.not_lt_zero _)⟩
  · exact h
theorem pd_put {pd : Nat → Nat} {pl : Nat} (h : PdOk pd pl) (x : Int64) : PdOk (opPut (pd, pl) x).2.1 (opPut (pd, pl) x).2.2 := by
  unfold opPut
  by_cases q : chN x = 0
  · rw [if_pos q]
    exact h
  · rw [if_neg q]
    by_cases q2 : 80 < pl + chN x
    · rw [if_pos q2]
      exact h
    · rw [if_neg q2]
      refine ⟨by show pl + chN x ≤ 80; omega, fun j hj => ?_⟩
      have hj : j < pl + chN x := hj
      show 33 ≤ putP pd pl (chN x) x (chN x) j ∧ putP pd pl (chN x) x (chN x) j ≤ 126
      unfold putP
      by_cases w : pl ≤ j ∧ j < pl + chN x
      · rw [if_pos w]
        exact chN_good (by omega)
      · rw [if_neg w]
        exact h.2 j (by omega)
theorem pd_wipe (pd : Nat → Nat) : PdOk pd 0 := ⟨Nat.zero_le _, fun q hq => absurd hq (Nat.not_lt_zero _)⟩
/-- what the reader's numbers keep -/
def RdOk (z : RS) (i : Nat) : Prop := (z.2.2.2.1 < 16 ∧ z.2.2.2.2.2.1 < 16 ∧ z.2.2.2.2.2.2 < 16) ∧ z.2.2.2.2.1 ≤ 20 * i
theorem rd_mono {z : RS} {i j : Nat} (h : RdOk z i) (hij : i ≤ j) : RdOk z j := ⟨h.1, by have := h.2; omega⟩
theorem rd_read {z w : RS} {i : Nat} (h : RdOk z i) (hw : w.2.2.2.1 < 16 ∧ w.2.2.2.2.2.1 < 16 ∧ w.2.2.2.2.2.2 < 16 ∧ w.2.2.2.2.1 ≤ z.2.2.2.2.1 + 80) : RdOk w (i + 4) := ⟨⟨hw.1, hw.2.1, hw.2.2.1⟩, by have := h.2; have := hw.2.2.2; omega⟩
theorem and31 (x : Int32) : ∃ k, k < 32 ∧ x &&& nI 31 = nI k := by
  obtain ⟨n, hn, rfl⟩ := wb_of32 x
  exact ⟨n % 2 ^ 5, Nat.mod_lt _ (by decide), by rw [fa_and, show (31 : Nat) = 2 ^ 5 - 1 from rfl, Nat.and_two_pow_sub_one_eq_mod]⟩
section
variable {p : Program} {l : Launch} {e : Env} {R rm : Room} {s : State} {m : MethodId} {args : Array Value} {below : List Frame} {meth : Method} {c : Code} {H H0 : Heap} {locs : List Loc} {cells slots pc : Nat} {ls : Array Slot} {rest : List Value} {Q : State → Prop} {cc : ByteArray} {A0 : Nat → Prop}
theorem zi_sld (hx : p.tables.exec = Jvm.exec) (hb : c.code = cc) {b L j : Nat} {xs : Nat → Int32} (hX : va_X b L xs s H0) (hbl : b < H0.size) (hbA : ¬ A0 b) (hS : va_S A0 H0 H locs) (hj : j < L) (hL : L < 2 ^ 31) (hdg : decode cc pc = .ok (.iaload, 1)) (kk : W p l e R s m args below meth c H locs cells slots Q (F0 m (pc + 1) ls (.int (xs j) :: rest))) : W p l e R s m args below meth c H locs cells slots Q (F0 m pc ls (.int (nI j) :: .ref b :: rest)) := by
  refine va_sld hx hb hX hbl hbA hS (vp_in_nI hj hL) hdg ?_
  rw [nI_clamp (by omega)]
  exact kk
end

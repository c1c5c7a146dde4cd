/-! the rows that the reference lays, as marks -/
def MR (m : MT) (f u : Nat → Nat) : Prop := RowR m.1 f ∧ UndR m u
theorem mr_put {m : MT} {t : TV} {f u : Nat → Nat} (h : RowR t f) (hu : UndR (keepM m) u) : MR (putM m t) f u := ⟨h, fun i hi => hu i hi⟩
theorem fetch_X {m : MT} {f : Nat → Nat} (h : RowR m.1 f) {a : Int32} (ha : bM m a = true) (old : Nat → Nat) : RowX (f 0) (fil (gTo f a) old (f 0)) (mM m (ix a)) := by
  rw [h.1]
  have h1 := gTo_X h (bMT_iff.mpr (Or.inr (bM_iff.mp ha))) old
  have e : ¬ a.toInt = -6 := by have := bM_iff.mp ha; omega
  have e2 : mkT m a = mM m (ix a) := if_neg e
  rw [e2] at h1
  exact h1
theorem fetch_T {m : MT} {f : Nat → Nat} (h : RowR m.1 f) {a : Int32} (ha : a.toInt = -6) (old : Nat → Nat) : RowX (f 0) (fil (gTo f a) old (f 0)) (mT m) := by
  rw [h.1]
  have h1 := gTo_X h (bMT_iff.mpr (Or.inl ha)) old
  have e2 : mkT m a = mT m := if_pos ha
  rw [e2] at h1
  exact h1
theorem fetch_K {m : MT} {f : Nat → Nat} (h : RowR m.1 f) {a : Int32} (ha : bMT m a = true) (old : Nat → Nat) : RowX (f 0) (fil (gTo f a) old (f 0)) (mkT m a) := by
  rw [h.1]
  exact gTo_X h ha old
theorem prod_X {n : Nat} {fc sc old : Nat → Nat} {x y z : Int64} (hx : RowX n fc x) (hy : RowX n sc y) (hw : WF n x) (hn : n ≤ 16) (e : z = thenL x y) : RowX n (fil (fun q => sc (fc q)) old n) z := by
  intro p hp
  rw [fil_in hp, hx p hp, hy _ (hw.lt hp hn), e, nb_then x y (by omega)]
theorem then_WF {n : Nat} {x y : Int64} (hx : WF n x) (hy : WF n y) : WF n (thenL x y) := by
  refine ⟨⟨fun q _ => nb_lt _ q, fun a b ha hb e => ?_⟩, fun p h1 h2 => ?_⟩
  · rw [nb_then x y ha, nb_then x y hb] at e
    exact hx.inj ha hb (hy.inj (nb_lt _ _) (nb_lt _ _) e)
  · rw [nb_then x y h2, hx.2 p h1 h2, hy.2 p h1 h2]
theorem nb_times {x : Int64} {z : Int} {p : Nat} (hp : p < 16) : nb (timesL x z) p = pw x z p := nb_pk' hp (pw_lt x z hp)
theorem it_hi {g : Nat → Nat} {p : Nat} (h : g p = p) : ∀ k : Nat, it g k p = p
  | 0 => (it_z g p).symm
  | k + 1 => by rw [it_succ, it_hi h k, h]
theorem times_WF {n : Nat} {x : Int64} {z : Int} (hx : WF n x) : WF n (timesL x z) := by
  refine ⟨⟨fun q _ => nb_lt _ q, fun a b ha hb e => ?_⟩, fun p h1 h2 => ?_⟩
  · rw [nb_times ha, nb_times hb] at e
    unfold pw at e
    by_cases q : 0 ≤ z
    · rw [if_pos q, if_pos q] at e
      exact it_inj hx.1 ha hb e
    · rw [if_neg q, if_neg q] at e
      have e2 := congrArg (it (nb x) (-z).toNat) e
      rw [it_forth hx.1 ha, it_forth hx.1 hb] at e2
      exact e2
  · rw [nb_times h2]
    unfold pw
    split
    · exact it_hi (hx.2 p h1 h2) _
    · exact it_hi (hx.frHi p h1 h2) _
theorem pow_X {n : Nat} {old : Nat → Nat} {x y : Int64} {z : Int} (hn : n ≤ 16) (e : y = timesL x z) : RowX n (fil (fun q => pw x z q) old n) y := by
  intro p hp
  rw [fil_in hp, e, nb_times (by omega)]
theorem per_X {n : Nat} {g h old : Nat → Nat} {y : Int64} (hn : n ≤ 16) (hg : ∀ q, q < n → h q < n) (hh : ∀ q, q < n → g q = h q) (e : y = perL h n) : RowX n (fil g old n) y := by
  intro p hp
  rw [fil_in hp, hh p hp, e, nb_perL (by omega) hn hg, if_pos hp]
theorem cutF_inj {k n p q : Nat} (hk : k < n) (hp : p < n) (hq : q < n) (e : cutF k n p = cutF k n q) : p = q := by
  unfold cutF at e
  split at e <;> split at e <;> omega
theorem rifF_inj {b n p q : Nat} (hb : b ≤ 1) (hp : p < n) (hq : q < n) (e : rifF b n p = rifF b n q) : p = q := by
  unfold rifF at e
  split at e <;> split at e <;> omega
theorem stepF_inj {t n p q : Nat} (hp : p < n) (hq : q < n) (e : stepF t n p = stepF t n q) : p = q := by
  unfold stepF at e
  by_cases q0 : t = 0
  · rw [if_pos q0, if_pos q0] at e
    rcases Nat.lt_or_ge 1 n with w | w
    · exact cutF_inj w hp hq e
    · omega
  · rw [if_neg q0, if_neg q0] at e
    by_cases q1 : t = 1
    · rw [if_pos q1, if_pos q1] at e
      exact rifF_inj (by omega) hp hq e
    · rw [if_neg q1, if_neg q1] at e
      by_cases q2 : t = 2
      · rw [if_pos q2, if_pos q2] at e
        exact rifF_inj (by omega) hp hq e
      · rw [if_neg q2, if_neg q2] at e
        omega
theorem cut_WF {k n : Nat} (hn : n ≤ 16) (hk : k < n) : WF n (perL (cutF k n) n) := perL_WF hn (fun q hq => cutF_lt (by omega) hq) (fun p q hp hq e => cutF_inj hk hp hq e)
theorem step_WF {t n : Nat} (hn : n ≤ 16) : WF n (perL (stepF t n) n) := perL_WF hn (fun q hq => stepF_lt hq) (fun p q hp hq e => stepF_inj hp hq e)
theorem row_T {m : MT} {f : Nat → Nat} (hw : TVok m.1) (h : RowR m.1 f) : ∀ z, z < f 0 → f (18 + z) < f 0 := by
  intro z hz
  rw [h.1] at hz ⊢
  rw [h.2.2.2.1 z hz]
  exact hw.2.2.2.2.1.lt hz hw.2.1
/-- behind the records: what the kept ones tell -/
theorem rec_u {m : MT} {f u w : Nat → Nat} (hw : TVok m.1) (hX : mX m < 6) (hU : mU m ≤ 6) (h : MR m f u) (h1 : (∀ z, z < 130 → w (130 * (mU m - mU m / 6) + z) = f z) ∧ ∀ j z, j < mU m - mU m / 6 → z < 130 → w (130 * j + z) = u (130 * (j + mU m / 6) + z)) : UndR (keepM m) w := und_rec hw hX hU h.1 h.2 h1.1 h1.2
theorem does_m {m : MT} {f u w v rc : Nat → Nat} {x P2 T2 : Int64} (eP : P2 = thenL (mP m) x) (eT : T2 = thenL (mT m) x) (hw : TVok m.1) (h : MR m f u) (hu : UndR (keepM m) v) (hx : WF (f 0) x) (hc : RowX (f 0) rc x) (h2 : (∀ z, z < f 0 → w (2 + rc z) = f (2 + z)) ∧ (∀ z, z < f 0 → w (18 + z) = rc (f (18 + z))) ∧ ∀ z, z < 2 ∨ 34 ≤ z → w z = f z) : nI (w 2) = nI (fr P2 0) ∧ MR (putM m (mN m, P2, T2, mC m, mM m)) w v := by
  have e0 : f 0 = m.1.1 := h.1.1
  have hr : RowR (m.1.1, P2, T2, m.1.2.2.2.1, m.1.2.2.2.2) w := row_does eP eT hw (e0 ▸ hx) h.1 (e0 ▸ hc) h2.1 h2.2.1 h2.2.2
  have h2n := hw.1
  exact ⟨congrArg nI (hr.2.2.1 0 (show 0 < m.1.1 by omega)), mr_put hr hu⟩
theorem adds_m {m : MT} {f u w v rc : Nat → Nat} {x : Int64} (hw : TVok m.1) (h : MR m f u) (hu : UndR (keepM m) v) (hc : RowX (f 0) rc x) (h2 : w 1 = f 1 + 1 ∧ (∀ z, z < f 0 → w (34 + 16 * f 1 + z) = rc z) ∧ ∀ z, z ≠ 1 → z < 34 + 16 * f 1 → w z = f z) : nI (f 1) = nI (mC m) ∧ MR (putM m (mN m, mP m, mT m, mC m + 1, vp_updL (mM m) (mC m) x)) w v :=
  ⟨congrArg nI h.1.2.1, mr_put (row_add hw h.1 (h.1.1 ▸ hc) h2.1 h2.2.1 h2.2.2) hu⟩

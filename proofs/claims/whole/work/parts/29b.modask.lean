/-! the reference's answers: rows and marks -/
theorem wf_ext {n : Nat} {x y : Int64} (hx : WF n x) (hy : WF n y) (h : ∀ p, p < n → nb x p = nb y p) : x = y := nb_ext (fun p hp => by
  rcases Nat.lt_or_ge p n with q | q
  · exact h p q
  · rw [hx.2 p q hp, hy.2 p q hp])
theorem fr_fix {n : Nat} {x : Int64} (hw : WF n x) (hn : n ≤ 16) {i : Nat} (hi : i < n) : fr x i = i ↔ nb x i = i := by
  constructor
  · intro e
    have h := nb_fr hw.1 (t := i) (by omega)
    rw [e] at h
    exact h
  · intro e
    exact fr_of hw.1 (by omega) e
theorem alk_iff {n : Nat} {r q : Nat → Nat} {x y : Int64} (hr : RowX n r x) (hq : RowX n q y) (hx : WF n x) (hy : WF n y) : chkA (alkF r q) n = true ↔ x = y := by
  constructor
  · intro h
    refine wf_ext hx hy (fun p hp => ?_)
    have h1 := chkA_of (f := alkF r q) h p hp
    have h2 : r p = q p := by simpa [alkF] using h1
    rw [← hr p hp, ← hq p hp, h2]
  · intro e
    subst e
    exact chkA_mk (fun p hp => by unfold alkF; rw [hr p hp, hq p hp]; simp)
theorem com_iff {n : Nat} {r q : Nat → Nat} {x y : Int64} (hn : n ≤ 16) (hr : RowX n r x) (hq : RowX n q y) (hx : WF n x) (hy : WF n y) : chkA (comF r q) n = true ↔ thenL x y = thenL y x := by
  have key : ∀ p, p < n → (comF r q p = true ↔ nb (thenL y x) p = nb (thenL x y) p) := by
    intro p hp
    unfold comF
    rw [nb_then y x (by omega), nb_then x y (by omega), hq p hp, hr p hp, hr _ (hy.lt hp hn), hq _ (hx.lt hp hn)]
    simp
  constructor
  · intro h
    exact (wf_ext (then_WF hy hx) (then_WF hx hy) (fun p hp => (key p hp).mp (chkA_of (f := comF r q) h p hp))).symm
  · intro e
    exact chkA_mk (fun p hp => (key p hp).mpr (by rw [e]))
theorem bec_iff {n k : Nat} {r q : Nat → Nat} {x : Int64} (hn : n ≤ 16) (hk : k < n) (hr : RowX n r x) (hq : ∀ p, p < n → q p = cutF k n p) (hx : WF n x) : chkA (comF r q) n = true ↔ becL x k n = x := by
  have key : ∀ p, p < n → (comF r q p = true ↔ nb x (cutF k n p) = cutF k n (nb x p)) := by
    intro p hp
    unfold comF
    rw [hq p hp, hr p hp, hr _ (cutF_lt (by omega) hp), hq _ (hx.lt hp hn)]
    simp
  constructor
  · intro h
    refine nb_ext (fun p hp => ?_)
    rw [nb_bec hx hn hk hp]
    by_cases hpn : p < n
    · rw [if_pos hpn]
      have h1 := (key _ (cuI_lt hk hpn)).mp (chkA_of (f := comF r q) h _ (cuI_lt hk hpn))
      rw [cutF_cuI hk hpn] at h1
      exact h1.symm
    · rw [if_neg hpn]
      exact (hx.2 p (by omega) hp).symm
  · intro e
    refine chkA_mk (fun p hp => (key p hp).mpr ?_)
    have h1 := nb_bec hx hn hk (p := cutF k n p) (by have := cutF_lt (k := k) (by omega) hp; omega)
    rw [e, if_pos (cutF_lt (by omega) hp), cuI_cutF hk hp] at h1
    exact h1
theorem ord_fix {n : Nat} {x : Int64} (hw : WF n x) (hn : n ≤ 16) : fixM x n = 2 ^ n - 1 ↔ x = stayL := by
  constructor
  · intro h
    refine wf_ext hw (stay_WF n) (fun p hp => ?_)
    have h1 := bm_bit (fun q => nb x q == q) p n
    rw [show bm (fun q => nb x q == q) n = 2 ^ n - 1 from h, Nat.testBit_two_pow_sub_one] at h1
    rw [decide_eq_true hp] at h1
    have h2 : nb x p = p := by simpa using h1.symm
    rw [h2, nb_stay (by omega)]
  · intro e
    subst e
    refine Nat.eq_of_testBit_eq (fun i => ?_)
    rw [show fixM stayL n = bm (fun q => nb stayL q == q) n from rfl, bm_bit, Nat.testBit_two_pow_sub_one]
    by_cases hi : i < n
    · rw [decide_eq_true hi, nb_stay (by omega)]
      simp
    · rw [decide_eq_false hi]
      rfl
def whF (m : MT) (a : Int32) (i : Nat) : Int32 := if bP m a = true ∧ nb (mP m) (ix a) < i then nI (nb (mP m) (ix a)) else -1
theorem whF_0 (m : MT) (a : Int32) : (-1 : Int32) = whF m a 0 := (if_neg (fun h => absurd h.2 (Nat.not_lt_zero _))).symm
theorem whF_yes {m : MT} (hw : TVok m.1) {a : Int32} {i : Nat} (hi : i < mN m) (h : ((fr (mP m) i : Nat) : Int) = a.toInt) : nI i = whF m a (i + 1) := by
  have hn := ok_n hw
  have h1 := (ok_P hw).frLt hi hn
  have e1 : ix a = fr (mP m) i := by unfold ix; omega
  have e2 : nb (mP m) (ix a) = i := by rw [e1]; exact nb_fr (ok_P hw).1 (by omega)
  unfold whF
  rw [if_pos ⟨bP_iff.mpr (by omega), by omega⟩, e2]
theorem whF_no {m : MT} (hw : TVok m.1) {a : Int32} {i : Nat} (hi : i < mN m) (h : ((fr (mP m) i : Nat) : Int) ≠ a.toInt) : whF m a i = whF m a (i + 1) := by
  have hn := ok_n hw
  unfold whF
  by_cases q : bP m a = true ∧ nb (mP m) (ix a) < i
  · rw [if_pos q, if_pos ⟨q.1, by omega⟩]
  · rw [if_neg q]
    by_cases q2 : bP m a = true ∧ nb (mP m) (ix a) < i + 1
    · exfalso
      have b := bP_iff.mp q2.1
      have e : nb (mP m) (ix a) = i := by
        rcases Nat.lt_or_ge (nb (mP m) (ix a)) i with z | z
        · exact absurd ⟨q2.1, z⟩ q
        · omega
      have e2 : fr (mP m) i = ix a := fr_of (ok_P hw).1 (by unfold ix; omega) e
      rw [e2] at h
      exact h (by unfold ix; omega)
    · rw [if_neg q2]
theorem whF_end {m : MT} (hw : TVok m.1) (a : Int32) : whF m a (mN m) = qWhere m a := by
  have hn := ok_n hw
  unfold whF qWhere
  by_cases q : bP m a = true
  · have b := bP_iff.mp q
    rw [if_pos ⟨q, (ok_P hw).lt (by unfold ix; omega) hn⟩, if_pos q]
  · rw [if_neg q, if_neg (fun h => q h.1)]

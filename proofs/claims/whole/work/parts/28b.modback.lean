/-! moved, undo, the slots, drop: how the reference's rows go on -/
def ctT (x : Int64) (i : Nat) : Nat := fb_ct (fun q => nb x q == q) i
theorem ctT_le (x : Int64) (i : Nat) : ctT x i ≤ i := fb_ct_le _ _
theorem ctT_y {x : Int64} {i : Nat} (h : nb x i = i) : ctT x (i + 1) = ctT x i + 1 := by
  unfold ctT
  rw [fb_ct_succ, h]
  simp
theorem ctT_n {x : Int64} {i : Nat} (h : nb x i ≠ i) : ctT x (i + 1) = ctT x i := by
  unfold ctT
  rw [fb_ct_succ]
  simp [h]
theorem mv_E {m : MT} (hw : TVok m.1) {i : Nat} (e : i = mN m) : i - ctT (mT m) i = movedN m := by
  subst e
  unfold movedN
  rw [pop_fix (mT m) hw.2.1]
  rfl
theorem pvK_E {x : Nat} (h : x < 6) : pvK x = (x + 5) % 6 := by unfold pvK; split <;> omega
theorem und_back {m : MT} {u : Nat → Nat} (hX : mX m < 6) (hU : mU m ≤ 6) (h0 : mU m ≠ 0) (h : UndR m u) (t : TV) : UndR (t, mV m, mF m, mU m - 1, pvK (mX m)) u := by
  intro i hi
  have hi : i < mU m - 1 := hi
  have h1 := h i (by omega)
  have e := pvK_E hX
  show TVok (mV m ((pvK (mX m) + 6 - (mU m - 1) + i) % 6)) ∧ RowR (mV m ((pvK (mX m) + 6 - (mU m - 1) + i) % 6)) _
  rw [e, show ((mX m + 5) % 6 + 6 - (mU m - 1) + i) % 6 = (mX m + 6 - mU m + i) % 6 by omega]
  exact h1
theorem top_back {m : MT} {u w : Nat → Nat} (hX : mX m < 6) (hU : mU m ≤ 6) (h0 : mU m ≠ 0) (h : UndR m u) (hw : ∀ z, z < 130 → w z = u (130 * (mU m - 1) + z)) : TVok (mV m (pvK (mX m))) ∧ RowR (mV m (pvK (mX m))) w := by
  have h1 := h (mU m - 1) (by omega)
  have e := pvK_E hX
  rw [show (mX m + 6 - mU m + (mU m - 1)) % 6 = pvK (mX m) by omega] at h1
  exact ⟨h1.1, RowR.congr h1.1 h1.2 hw⟩
theorem slot_put {s : SL} {l w f : Nat → Nat} {j : Nat} {t : TV} (hj : j < 2) (hw : TVok t) (hR : RowR t f) (h : SlR s l) (h1 : ∀ z, z < 130 → w (130 * j + z) = f z) (h2 : ∀ z, z < 130 * j ∨ 130 * j + 130 ≤ z → w z = l z) : SlR (upT s.1 j t, uB1 s.2 j true) w := by
  intro i hi hs
  show TVok (upT s.1 j t i) ∧ RowR (upT s.1 j t i) _
  by_cases q : i = j
  · have e : upT s.1 j t i = t := if_pos q
    rw [e]
    subst q
    exact ⟨hw, RowR.congr hw hR h1⟩
  · have e : upT s.1 j t i = s.1 i := if_neg q
    rw [e]
    have e2 : s.2 i = true := by
      have hs : uB1 s.2 j true i = true := hs
      rw [uB1_n _ q] at hs
      exact hs
    have h3 := h i hi e2
    exact ⟨h3.1, RowR.congr h3.1 h3.2 (fun z hz => h2 _ (by omega))⟩

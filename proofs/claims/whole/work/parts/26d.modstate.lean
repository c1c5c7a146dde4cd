/-! what the reference's rows become, told by the component's state -/
theorem RowR.congr {t : TV} {f g : Nat → Nat} (ht : TVok t) (h : RowR t f) (e : ∀ q, q < 130 → g q = f q) : RowR t g := by
  obtain ⟨h0, h1, h2, h3, h4⟩ := h
  have hn := ht.2.1
  have hc := ht.2.2.1
  exact ⟨(e 0 (by omega)).trans h0, (e 1 (by omega)).trans h1, fun p hp => (e _ (by omega)).trans (h2 p hp), fun p hp => (e _ (by omega)).trans (h3 p hp), fun i hi p hp => (e _ (by omega)).trans (h4 i hi p hp)⟩
/-- the records: the i-th oldest kept table is told by the i-th row of 130 -/
def UndR (m : MT) (u : Nat → Nat) : Prop := ∀ i, i < mU m → TVok (mV m ((mX m + 6 - mU m + i) % 6)) ∧ RowR (mV m ((mX m + 6 - mU m + i) % 6)) (fun q => u (130 * i + q))
theorem upD_E {u : Nat} (h : u ≤ 6) : upD u = u - u / 6 + 1 := by unfold upD; split <;> omega
theorem nxK_E {x : Nat} (h : x < 6) : nxK x = (x + 1) % 6 := by unfold nxK; split <;> omega
theorem und_rec {m : MT} {f u w : Nat → Nat} (hw : TVok m.1) (hX : mX m < 6) (hU : mU m ≤ 6) (hR : RowR m.1 f) (hu : UndR m u) (h1 : ∀ z, z < 130 → w (130 * (mU m - mU m / 6) + z) = f z) (h2 : ∀ j z, j < mU m - mU m / 6 → z < 130 → w (130 * j + z) = u (130 * (j + mU m / 6) + z)) : UndR (keepM m) w := by
  intro i hi
  have e1 : mU (keepM m) = mU m - mU m / 6 + 1 := upD_E hU
  have e2 : mX (keepM m) = (mX m + 1) % 6 := nxK_E hX
  have e3 : mV (keepM m) = upT (mV m) (mX m) m.1 := rfl
  rw [e1] at hi
  rw [e1, e2, e3]
  rcases Nat.lt_or_ge i (mU m - mU m / 6) with q | q
  · have a1 := hu (i + mU m / 6) (by omega)
    have a2 : (mX m + 6 - mU m + (i + mU m / 6)) % 6 = ((mX m + 1) % 6 + 6 - (mU m - mU m / 6 + 1) + i) % 6 := by omega
    rw [a2] at a1
    have a3 : ¬ ((mX m + 1) % 6 + 6 - (mU m - mU m / 6 + 1) + i) % 6 = mX m := by omega
    have a4 : upT (mV m) (mX m) m.1 (((mX m + 1) % 6 + 6 - (mU m - mU m / 6 + 1) + i) % 6) = mV m (((mX m + 1) % 6 + 6 - (mU m - mU m / 6 + 1) + i) % 6) := if_neg a3
    rw [a4]
    exact ⟨a1.1, RowR.congr a1.1 a1.2 (fun z hz => h2 i z q hz)⟩
  · have a3 : ((mX m + 1) % 6 + 6 - (mU m - mU m / 6 + 1) + i) % 6 = mX m := by omega
    rw [a3]
    have a4 : upT (mV m) (mX m) m.1 (mX m) = m.1 := if_pos rfl
    rw [a4]
    exact ⟨hw, RowR.congr hw hR (fun z hz => by rw [show i = mU m - mU m / 6 by omega]; exact h1 z hz)⟩
theorem row_add {t : TV} {f w rc : Nat → Nat} {x : Int64} (hw : TVok t) (hR : RowR t f) (hc : RowX t.1 rc x) (h1 : w 1 = f 1 + 1) (hn : ∀ z, z < f 0 → w (34 + 16 * f 1 + z) = rc z) (ho : ∀ z, z ≠ 1 → z < 34 + 16 * f 1 → w z = f z) : RowR (t.1, t.2.1, t.2.2.1, t.2.2.2.1 + 1, vp_updL t.2.2.2.2 t.2.2.2.1 x) w := by
  obtain ⟨r0, r1, r2, r3, r4⟩ := hR
  have hn16 := hw.2.1
  rw [r0] at hn
  rw [r1] at h1 hn ho
  refine ⟨(ho 0 (by omega) (by omega)).trans r0, h1, fun p hp => (ho _ (by omega) (by omega)).trans (r2 p hp), fun p hp => (ho _ (by omega) (by omega)).trans (r3 p hp), fun i hi p hp => ?_⟩
  show w (34 + 16 * i + p) = nb (vp_updL t.2.2.2.2 t.2.2.2.1 x i) p
  have hp : p < t.1 := hp
  have hi : i < t.2.2.2.1 + 1 := hi
  unfold vp_updL
  rcases Nat.lt_or_ge i t.2.2.2.1 with q | q
  · rw [if_neg (by omega)]
    exact (ho _ (by omega) (by omega)).trans (r4 i q p hp)
  · have e : i = t.2.2.2.1 := by omega
    rw [if_pos e, e]
    exact (hn p hp).trans (hc p hp)
theorem fr_then {n : Nat} {x y : Int64} (hx : WF n x) (hy : WF n y) (hn : n ≤ 16) {p : Nat} (hp : p < n) : fr (thenL x y) p = fr x (fr y p) := by
  have h1 := hy.frLt hp hn
  have h2 := hx.frLt h1 hn
  have hP : P16 (nb (thenL x y)) := ⟨fun q _ => nb_lt _ q, fun a b ha hb e => by
    rw [nb_then x y ha, nb_then x y hb] at e
    exact hx.inj ha hb (hy.inj (nb_lt _ _) (nb_lt _ _) e)⟩
  exact fr_of hP (by omega) (by rw [nb_then x y (by omega), nb_fr hx.1 (by omega), nb_fr hy.1 (by omega)])
theorem row_does {t : TV} {f w rc : Nat → Nat} {x P2 T2 : Int64} (eP : P2 = thenL t.2.1 x) (eT : T2 = thenL t.2.2.1 x) (hw : TVok t) (hx : WF t.1 x) (hR : RowR t f) (hc : RowX t.1 rc x) (h1 : ∀ z, z < f 0 → w (2 + rc z) = f (2 + z)) (h2 : ∀ z, z < f 0 → w (18 + z) = rc (f (18 + z))) (h3 : ∀ z, z < 2 ∨ 34 ≤ z → w z = f z) : RowR (t.1, P2, T2, t.2.2.2.1, t.2.2.2.2) w := by
  obtain ⟨r0, r1, r2, r3, r4⟩ := hR
  have hn16 := hw.2.1
  rw [r0] at h1 h2
  refine ⟨(h3 0 (by omega)).trans r0, (h3 1 (by omega)).trans r1, fun p hp => ?_, fun p hp => ?_, fun i hi p hp => (h3 _ (by omega)).trans (r4 i hi p hp)⟩
  · have hp : p < t.1 := hp
    have a1 := hx.frLt hp hn16
    have a2 := h1 (fr x p) a1
    rw [hc _ a1, nb_fr hx.1 (by omega)] at a2
    show w (2 + p) = fr P2 p
    rw [a2, r2 _ a1, eP]
    exact (fr_then hw.2.2.2.1 hx hn16 hp).symm
  · have hp : p < t.1 := hp
    show w (18 + p) = nb T2 p
    rw [eT, h2 p hp, r3 p hp, hc _ (hw.2.2.2.2.1.lt hp hn16), nb_then _ _ (by omega)]
theorem row_drop {t : TV} {f w : Nat → Nat} {j : Nat} (hj : j < t.2.2.2.1) (hw : TVok t) (hR : RowR t f) (h1 : w 1 = f 1 - 1) (h2 : ∀ i p, i < f 1 - 1 → p < f 0 → w (34 + 16 * i + p) = f (34 + 16 * (if j ≤ i then i + 1 else i) + p)) (h3 : ∀ z, z < 34 → z ≠ 1 → w z = f z) : RowR (t.1, t.2.1, t.2.2.1, t.2.2.2.1 - 1, rmL t.2.2.2.2 j 5) w := by
  obtain ⟨r0, r1, r2, r3, r4⟩ := hR
  have hn16 := hw.2.1
  have hc6 := hw.2.2.1
  rw [r0] at h2
  rw [r1] at h1 h2
  refine ⟨(h3 0 (by omega) (by omega)).trans r0, h1, fun p hp => ?_, fun p hp => ?_, fun i hi p hp => ?_⟩
  · have hp : p < t.1 := hp
    exact (h3 _ (by omega) (by omega)).trans (r2 p hp)
  · have hp : p < t.1 := hp
    exact (h3 _ (by omega) (by omega)).trans (r3 p hp)
  · have hp : p < t.1 := hp
    have hi : i < t.2.2.2.1 - 1 := hi
    show w (34 + 16 * i + p) = nb (rmL t.2.2.2.2 j 5 i) p
    rw [h2 i p hi hp]
    unfold rmL
    by_cases q : j ≤ i
    · rw [if_pos q, if_pos (by omega)]
      exact r4 (i + 1) (by omega) p hp
    · rw [if_neg q, if_neg (by omega)]
      exact r4 i (by omega) p hp
theorem row_set {n : Nat} {w : Nat → Nat} {M : Nat → Int64} (hn : n ≤ 16) (h : w 0 = n ∧ w 1 = 0 ∧ (∀ z, z < n → w (2 + z) = z) ∧ ∀ z, z < n → w (18 + z) = z) : RowR (n, stayL, stayL, 0, M) w := by
  refine ⟨h.1, h.2.1, fun p hp => ?_, fun p hp => ?_, fun i hi => absurd hi (Nat.not_lt_zero _)⟩
  · have hp : p < n := hp
    rw [h.2.2.1 p hp]
    exact (fr_of (stay_WF n).1 (by omega) (nb_stay (by omega))).symm
  · have hp : p < n := hp
    rw [h.2.2.2 p hp]
    exact (nb_stay (by omega)).symm
theorem row_restart {t : TV} {f w : Nat → Nat} (hw : TVok t) (hR : RowR t f) (h1 : ∀ z, z < f 0 → w (18 + z) = z) (h2 : ∀ z, z < 18 ∨ 34 ≤ z → w z = f z) : RowR (t.1, t.2.1, stayL, t.2.2.2.1, t.2.2.2.2) w := by
  obtain ⟨r0, r1, r2, r3, r4⟩ := hR
  have hn16 := hw.2.1
  rw [r0] at h1
  refine ⟨(h2 0 (by omega)).trans r0, (h2 1 (by omega)).trans r1, fun p hp => ?_, fun p hp => ?_, fun i hi p hp => (h2 _ (by omega)).trans (r4 i hi p hp)⟩
  · have hp : p < t.1 := hp
    exact (h2 _ (by omega)).trans (r2 p hp)
  · have hp : p < t.1 := hp
    exact (h1 p hp).trans (nb_stay (by omega)).symm
/-- the two slots -/
def SlR (s : SL) (l : Nat → Nat) : Prop := ∀ j, j < 2 → s.2 j = true → TVok (s.1 j) ∧ RowR (s.1 j) (fun q => l (130 * j + q))

/-! what the asking calls answer -/
def TVok (t : TV) : Prop := 2 ≤ t.1 ∧ t.1 ≤ 16 ∧ t.2.2.2.1 ≤ 6 ∧ WF t.1 t.2.1 ∧ WF t.1 t.2.2.1 ∧ ∀ i, i < t.2.2.2.1 → WF t.1 (t.2.2.2.2 i)
theorem ok_2 {m : MT} (h : TVok m.1) : 2 ≤ mN m := h.1
theorem ok_n {m : MT} (h : TVok m.1) : mN m ≤ 16 := h.2.1
theorem ok_C {m : MT} (h : TVok m.1) : mC m ≤ 6 := h.2.2.1
theorem ok_P {m : MT} (h : TVok m.1) : WF (mN m) (mP m) := h.2.2.2.1
theorem ok_T {m : MT} (h : TVok m.1) : WF (mN m) (mT m) := h.2.2.2.2.1
theorem ok_M {m : MT} (h : TVok m.1) {i : Nat} (hi : i < mC m) : WF (mN m) (mM m i) := h.2.2.2.2.2 i hi
theorem mkT_WF {m : MT} (h : TVok m.1) {a : Int32} (ha : bMT m a = true) : WF (mN m) (mkT m a) := by
  unfold mkT
  by_cases q : a.toInt = -6
  · rw [if_pos q]; exact ok_T h
  · rw [if_neg q]
    rcases bMT_iff.mp ha with w | w
    · exact absurd w q
    · exact ok_M h (by unfold ix; omega)
theorem zz_eqI {x : Int32} {k : Nat} (hk : k < 2 ^ 31) (h : x.toInt = (k : Int)) : x = nI k := by
  apply Int32.toInt_inj.mp
  rw [nI_toInt hk, h]
def qAt (m : MT) (k : Int32) : Int32 := if bP m k = true then nI (fr (mP m) (ix k)) else -1
def qWhere (m : MT) (k : Int32) : Int32 := if bP m k = true then nI (nb (mP m) (ix k)) else -1
def qImage (m : MT) (a z p : Int32) : Int32 := if bMT m a = true ∧ bP m p = true then (if bZ z = true then nI (pw (mkT m a) z.toInt (ix p)) else -2) else -1
def qCommute (m : MT) (a b : Int32) : Int32 := if bMT m a = true ∧ bMT m b = true then (if thenL (mkT m a) (mkT m b) = thenL (mkT m b) (mkT m a) then 1 else 0) else -1
def qCount (m : MT) (pl : Nat) (w : Int32) : Int32 := if w.toInt = 0 then nI (mN m) else if w.toInt = 1 then nI (mC m) else if w.toInt = 2 then nI (fixM (mP m) (mN m)) else if w.toInt = 3 then (if mP m = stayL then nI 1 else nI 0) else if w.toInt = 4 then nI (movedN m) else if w.toInt = 5 then nI pl else if w.toInt = 6 then nI (mU m) else -2
def qByCut (m : MT) (a k p : Int32) : Int32 := if bM m a = true ∧ bP m p = true then (if bP m k = true then nI (nb (becL (mM m (ix a)) (ix k) (mN m)) (ix p)) else -2) else -1
def qBecomes (m : MT) (a k : Int32) : Int32 := if bM m a = true then (if bP m k = true then lowM (mM m) (mC m) (becL (mM m (ix a)) (ix k) (mN m)) else -2) else -1
/-- the steps of a way, and where they bring a place -/
def wayS (s w i : Nat) : Nat := w / 4 ^ (s - 1 - i) % 4
def rnS (n s w : Nat) : Nat → Nat → Nat
  | 0, p => p
  | i + 1, p => stepF (wayS s w i) n (rnS n s w i p)
def ordW (x : Int64) (n s w : Nat) : Bool := chkA (fun c => rnS n s w s (nb x c) == c) n
def lowWN (x : Int64) (n s : Nat) : Nat := fa_first (ordW x n s) (4 ^ s)
def lowW (x : Int64) (n s : Nat) : Int32 := if lowWN x n s < 4 ^ s then nI (lowWN x n s) else -6
def fewN (x : Int64) (n : Nat) : Nat := fa_first (fun s => decide (lowWN x n s < 4 ^ s)) 6
def fewS (x : Int64) (n : Nat) : Int32 := if fewN x n < 6 then nI (fewN x n) else -6
def firS (x : Int64) (n : Nat) : Int32 := if 0 < fewN x n ∧ fewN x n < 6 then nI (wayS (fewN x n) (lowWN x n (fewN x n)) 0) else -6
theorem rnS_lt {n s w : Nat} : ∀ {i p : Nat}, p < n → rnS n s w i p < n
  | 0, _, h => h
  | i + 1, p, h => stepF_lt (rnS_lt (i := i) h)
theorem wayS_lt (s w i : Nat) : wayS s w i < 4 := Nat.mod_lt _ (by decide)
theorem pow4 (k : Nat) : 2 ^ (2 * k) = 4 ^ k := by rw [Nat.pow_mul]
theorem way_step {w k : Nat} (hw : w < 2 ^ 31) (hk : 2 * k < 32) : nI w >>> (nI (2 * k) &&& 31) &&& nI 3 = nI (w / 4 ^ k % 4) := by
  rw [zz_shr hw hk, fa_and, show (3 : Nat) = 2 ^ 2 - 1 from rfl, Nat.and_two_pow_sub_one_eq_mod, pow4]
theorem ordW_yes {x : Int64} {n s w : Nat} (h : ∀ c, c < n → rnS n s w s (nb x c) = c) : ordW x n s w = true := chkA_mk (fun c hc => by show (_ == _) = true; rw [h c hc]; simp)
theorem ordW_at {x : Int64} {n s w c : Nat} (h : ordW x n s w = true) (hc : c < n) : rnS n s w s (nb x c) = c := by
  have h1 := chkA_of (f := fun c => rnS n s w s (nb x c) == c) h c hc
  exact of_decide_eq_true (by simpa using h1)
theorem ordW_no {x : Int64} {n s w c : Nat} (hc : c < n) (h : rnS n s w s (nb x c) ≠ c) : ¬ ordW x n s w = true := fun q => h (ordW_at q hc)
theorem pow4_le {s : Nat} (h : s ≤ 5) : 4 ^ s ≤ 1024 := Nat.pow_le_pow_right (n := 4) (by decide) h
/-- the cuts by which a mark stays -/
def cutM (x : Int64) (n i : Nat) : Nat := bm (fun k => decide (becL x k n = x)) i
theorem cutM_yes {x : Int64} {n i : Nat} (h : becL x i n = x) : nI (cutM x n i) ||| nI (2 ^ i) = nI (cutM x n (i + 1)) := by
  rw [fa_or]
  exact congrArg nI (bm_yes (by simp [h]))
theorem cutM_no {x : Int64} {n i : Nat} (h : becL x i n ≠ x) : nI (cutM x n i) = nI (cutM x n (i + 1)) := congrArg nI (bm_no (by simp [h]))
def qOf (m : MT) (a w : Int32) : Int32 := if bMT m a = true then (if w.toInt = 0 then nI (ordF (cnt (mkT m a) (mN m)) 17) else if w.toInt = 1 then nI (howN (mkT m a) (mN m)) else if w.toInt = 2 then nI (fixM (mkT m a) (mN m)) else if w.toInt = 3 then nI (lgst (cnt (mkT m a) (mN m)) 17) else if w.toInt = 4 then (if (mN m - howN (mkT m a) (mN m)) % 2 = 0 then nI 2 else nI 0) else if w.toInt = 5 then nI (cutM (mkT m a) (mN m) (mN m)) else if w.toInt = 6 then lowM (mM m) (mC m) (invL (mkT m a)) else -2) else -1
def qCommuting (m : MT) (a : Int32) : Int64 := if bMT m a = true then coutL (cnt (mkT m a) (mN m)) 17 else -1
def itL (P x : Int64) : Nat → Int64
  | 0 => P
  | i + 1 => thenL (itL P x i) x
def ordI (P x : Int64) (o : Nat) : Int32 := if fa_first (fun t => itL P x t == stayL) o < o then nI (fa_first (fun t => itL P x t == stayL) o) else -6
def qOrdersIn (m : MT) (a : Int32) : Int32 := if bM m a = true then ordI (mP m) (mM m (ix a)) (ordF (cnt (mM m (ix a)) (mN m)) 17) else -1
theorem ordI_yes {P x : Int64} {o i : Nat} (hi : i < o) (h : itL P x i = stayL) (hl : ∀ j, j < i → itL P x j ≠ stayL) : nI i = ordI P x o := by
  unfold ordI
  rw [fa_first_of (p := fun t => itL P x t == stayL) hi (by simp [h]) (fun j hj => by simp [hl j hj]), if_pos hi]
theorem ordI_no {P x : Int64} {o : Nat} (hl : ∀ j, j < o → itL P x j ≠ stayL) : (-6 : Int32) = ordI P x o := by
  unfold ordI
  rw [fa_first_end (p := fun t => itL P x t == stayL) (n := o) (fun j hj => by simp [hl j hj]), if_neg (by omega)]
/-- how far the deck is spread -/
def dif (a b : Nat) : Nat := if a < b then b - a else a - b
def spN (P : Int64) (i : Nat) : Nat := fb_sm (fun p => dif (fr P p) p) i
theorem spN_s (P : Int64) (i : Nat) : spN P i + dif (fr P i) i = spN P (i + 1) := rfl
def qSpread (m : MT) : Int64 := (FP.ddiv (FP.i2d (nI (spN (mP m) (mN m)))) (FP.i2d (nI (mN m)))).toInt64
def qShare (m : MT) : Int32 := (FP.fdiv (FP.i2f (nI (popN (fixM (mP m) (mN m))))) (FP.i2f (nI (mN m)))).toInt32
theorem spN_le {P : Int64} {n : Nat} (hw : WF n P) (hn : n ≤ 16) : ∀ i, i ≤ n → spN P i ≤ i * (n - 1)
  | 0, _ => by simp [spN, fb_sm]
  | i + 1, h => by
    have ih := spN_le hw hn i (by omega)
    have h1 := hw.frLt (show i < n by omega) hn
    rw [← spN_s, Nat.succ_mul]
    have h2 : dif (fr P i) i ≤ n - 1 := by unfold dif; split <;> omega
    omega
theorem lowW_yes {x : Int64} {n s w : Nat} (hw : w < 4 ^ s) (h : ordW x n s w = true) (hl : ∀ j, j < w → ¬ ordW x n s j = true) : lowWN x n s = w := fa_first_of hw h (fun j hj => Bool.eq_false_iff.mpr (hl j hj))
theorem lowW_no {x : Int64} {n s : Nat} (hl : ∀ j, j < 4 ^ s → ¬ ordW x n s j = true) : lowWN x n s = 4 ^ s := fa_first_end (fun j hj => Bool.eq_false_iff.mpr (hl j hj))
theorem lowW_6 {x : Int64} {n s : Nat} (hs : s ≤ 5) : (lowW x n s).toInt = -6 ↔ ¬ lowWN x n s < 4 ^ s := by
  unfold lowW
  have hp := pow4_le hs
  by_cases h : lowWN x n s < 4 ^ s
  · rw [if_pos h, nI_toInt (by omega)]
    constructor
    · intro q; omega
    · intro q; exact absurd h q
  · rw [if_neg h]
    exact ⟨fun _ => h, fun _ => rfl⟩

/-! the state of the deck, as numbers: a table (size, places, trick, how many marks, marks), the history, what each change makes of it -/
abbrev TV : Type := Nat × Int64 × Int64 × Nat × (Nat → Int64)
abbrev MT : Type := TV × (Nat → TV) × (Nat → Bool) × Nat × Nat
abbrev mN (m : MT) : Nat := m.1.1
abbrev mP (m : MT) : Int64 := m.1.2.1
abbrev mT (m : MT) : Int64 := m.1.2.2.1
abbrev mC (m : MT) : Nat := m.1.2.2.2.1
abbrev mM (m : MT) : Nat → Int64 := m.1.2.2.2.2
abbrev mV (m : MT) : Nat → TV := m.2.1
abbrev mF (m : MT) : Nat → Bool := m.2.2.1
abbrev mU (m : MT) : Nat := m.2.2.2.1
abbrev mX (m : MT) : Nat := m.2.2.2.2
def shA (ad : Nat → Nat) (b : Nat) : Nat → Option Nat := fun j => some (ad (b + 2 * j))
def upT (h : Nat → TV) (j : Nat) (t : TV) : Nat → TV := fun i => if i = j then t else h i
def nxK (j : Nat) : Nat := if j + 1 = 6 then 0 else j + 1
def pvK (j : Nat) : Nat := if j = 0 then 5 else j - 1
def upD (u : Nat) : Nat := if u < 6 then u + 1 else u
def keepM (m : MT) : MT := (m.1, upT (mV m) (mX m) m.1, uB1 (mF m) (mX m) true, upD (mU m), nxK (mX m))
/-- the table is another one, behind a change -/
def putM (m : MT) (t : TV) : MT := (t, (keepM m).2)
def comeM (m : MT) (x : Int64) : Int32 × MT := if mC m < 6 then (nI (mC m), putM m (mN m, mP m, mT m, mC m + 1, vp_updL (mM m) (mC m) x)) else (-4, m)
def moveM (m : MT) (x : Int64) : Int32 × MT := (nI (fr (thenL (mP m) x) 0), putM m (mN m, thenL (mP m) x, thenL (mT m) x, mC m, mM m))
def isM (m : MT) (a : Int32) : Prop := 0 ≤ a.toInt ∧ a.toInt < (mC m : Int)
def isP (m : MT) (a : Int32) : Prop := 0 ≤ a.toInt ∧ a.toInt < (mN m : Int)
def isZ (z : Int32) : Prop := -999 ≤ z.toInt ∧ z.toInt ≤ 999
def ix (a : Int32) : Nat := a.toInt.toNat
theorem ix_nI {j : Nat} (h : j < 2 ^ 31) : ix (nI j) = j := by unfold ix; rw [nI_toInt h]; rfl
theorem isM_ix {m : MT} {a : Int32} (h : isM m a) (hk : mC m ≤ 6) : ∃ j, j < mC m ∧ a = nI j := zz_rng h
theorem isP_ix {m : MT} {a : Int32} (h : isP m a) (hk : mN m ≤ 16) : ∃ j, j < mN m ∧ a = nI j := zz_rng h
def opSet (m : MT) (v : Int32) : Int32 × MT := if 2 ≤ v.toInt ∧ v.toInt ≤ 16 then (nI (mN m), putM m (ix v, stayL, stayL, 0, mM m)) else (-2, m)
def bM (m : MT) (a : Int32) : Bool := decide (0 ≤ a.toInt) && decide (a.toInt < (mC m : Int))
def bP (m : MT) (a : Int32) : Bool := decide (0 ≤ a.toInt) && decide (a.toInt < (mN m : Int))
def bZ (z : Int32) : Bool := decide (-999 ≤ z.toInt) && decide (z.toInt ≤ 999)
/-- a mark, or NONE for the trick -/
def bMT (m : MT) (a : Int32) : Bool := decide (a.toInt = -6) || bM m a
def mkT (m : MT) (a : Int32) : Int64 := if a.toInt = -6 then mT m else mM m (ix a)
theorem bM_iff {m : MT} {a : Int32} : bM m a = true ↔ 0 ≤ a.toInt ∧ a.toInt < (mC m : Int) := by unfold bM; simp
theorem bP_iff {m : MT} {a : Int32} : bP m a = true ↔ 0 ≤ a.toInt ∧ a.toInt < (mN m : Int) := by unfold bP; simp
theorem bZ_iff {a : Int32} : bZ a = true ↔ -999 ≤ a.toInt ∧ a.toInt ≤ 999 := by unfold bZ; simp
theorem bMT_iff {m : MT} {a : Int32} : bMT m a = true ↔ a.toInt = -6 ∨ (0 ≤ a.toInt ∧ a.toInt < (mC m : Int)) := by unfold bMT; rw [Bool.or_eq_true, bM_iff, decide_eq_true_eq]
def opProduct (m : MT) (a b : Int32) : Int32 × MT := if bM m a = true ∧ bM m b = true then comeM m (thenL (mM m (ix a)) (mM m (ix b))) else (-1, m)
def opPower (m : MT) (a z : Int32) : Int32 × MT := if bM m a = true then (if bZ z = true then comeM m (timesL (mM m (ix a)) z.toInt) else (-2, m)) else (-1, m)
def opTrick (m : MT) : Int32 × MT := comeM m (mT m)
def opDrop (m : MT) (a : Int32) : Int32 × MT := if bM m a = true then (nI (mC m - 1), putM m (mN m, mP m, mT m, mC m - 1, rmL (mM m) (ix a) 5)) else (-1, m)
def opPlay (m : MT) (a : Int32) : Int32 × MT := if bM m a = true then moveM m (mM m (ix a)) else (-1, m)
def opCut (m : MT) (k : Int32) : Int32 × MT := if bP m k = true then moveM m (perL (cutF (ix k) (mN m)) (mN m)) else (-2, m)
def opRiffle (m : MT) (k : Int32) : Int32 × MT := if k.toInt = 0 ∨ k.toInt = 1 then moveM m (perL (stepF (if k.toInt = 1 then 2 else 1) (mN m)) (mN m)) else (-2, m)
def opTurn (m : MT) : Int32 × MT := moveM m (perL (stepF 3 (mN m)) (mN m))
def movedN (m : MT) : Nat := mN m - popN (fixM (mT m) (mN m))
def opRestart (m : MT) : Int32 × MT := (nI (movedN m), putM m (mN m, mP m, stayL, mC m, mM m))
def opUndo (m : MT) : Int32 × MT := if mU m = 0 then (-5, m) else (nI (mU m - 1), (mV m (pvK (mX m)), mV m, mF m, mU m - 1, pvK (mX m)))
abbrev SL : Type := (Nat → TV) × (Nat → Bool)
def opSave (m : MT) (s : SL) (j : Int32) : Int32 × SL := if 0 ≤ j.toInt ∧ j.toInt < 2 then (nI (mC m), (upT s.1 (ix j) m.1, uB1 s.2 (ix j) true)) else (-2, s)
def opRestore (m : MT) (s : SL) (j : Int32) : Int32 × MT := if 0 ≤ j.toInt ∧ j.toInt < 2 then (if s.2 (ix j) = true then (nI (s.1 (ix j)).2.2.2.1, putM m (s.1 (ix j))) else (-5, m)) else (-2, m)
/-- how many places a mask of fixed places holds -/
theorem pop_fix (x : Int64) {n : Nat} (hn : n ≤ 16) : popN (fixM x n) = fb_ct (fun q => nb x q == q) n := by
  rw [pop_ct (fixM_lt x hn)]
  unfold fixM
  have e : fb_ct (fun i => (bm (fun q => nb x q == q) n).testBit i) 16 = fb_ct (fun i => decide (i < n) && (nb x i == i)) 16 := fb_ct_cong (fun k _ => bm_bit _ k n)
  rw [e]
  have e2 := fb_ct_split (fun i => decide (i < n) && (nb x i == i)) n (16 - n)
  rw [show n + (16 - n) = 16 by omega] at e2
  rw [e2, fb_ct_cong (p := fun i => decide (i < n) && (nb x i == i)) (q := fun q => nb x q == q) (fun k hk => by simp [hk])]
  have e3 : fb_ct (fun k => decide (n + k < n) && (nb x (n + k) == n + k)) (16 - n) = 0 := fb_ct_zero.mpr (fun k _ => by show (decide (n + k < n) && _) = false; rw [decide_eq_false (by omega)]; rfl)
  rw [e3]
  rfl
theorem pop_fix_le (x : Int64) {n : Nat} (hn : n ≤ 16) : popN (fixM x n) ≤ n := by rw [pop_fix x hn]; exact fb_ct_le _ _

/-! the pad: characters of a number, what is put, what is read -/
def bt8 (x : Int64) (i : Nat) : Nat := x.toBitVec.toNat / 256 ^ i % 256
theorem bt8_lt (x : Int64) (i : Nat) : bt8 x i < 256 := Nat.mod_lt _ (by decide)
theorem pow256 (p : Nat) : 2 ^ (8 * p) = 256 ^ p := by rw [Nat.pow_mul]
theorem bt8_at (x : Int64) {i : Nat} (hi : i < 8) : (x.toUInt64 >>> ((nI (8 * i)).toInt64.toUInt64 &&& Int64.toUInt64 63)).toInt64.toInt32 &&& nI 255 = nI (bt8 x i) := by
  obtain ⟨n, hn, rfl⟩ := wb_of x
  rw [wb_shr hn (by omega), lN_i, fa_and, show (255 : Nat) = 2 ^ 8 - 1 from rfl, Nat.and_two_pow_sub_one_eq_mod]
  unfold bt8
  rw [wb_tn hn, pow256]
theorem shr_0 (x : Int64) {i : Nat} (hi : i < 8) : (x.toUInt64 >>> ((nI (8 * i)).toInt64.toUInt64 &&& Int64.toUInt64 63)).toInt64 = lN 0 ↔ x.toBitVec.toNat / 256 ^ i = 0 := by
  obtain ⟨n, hn, rfl⟩ := wb_of x
  rw [wb_shr hn (by omega), wb_tn hn, pow256]
  have h1 : n / 256 ^ i < 2 ^ 64 := Nat.lt_of_le_of_lt (Nat.div_le_self _ _) hn
  constructor
  · intro h
    have := congrArg (fun z : Int64 => z.toBitVec.toNat) h
    simp only [wb_tn h1, wb_tn (show 0 < 2 ^ 64 by decide)] at this
    exact this
  · intro h
    rw [h]
def goodC (x : Int64) (i : Nat) : Bool := decide (33 ≤ bt8 x i) && decide (bt8 x i ≤ 126)
def fstZ (x : Int64) : Nat := fa_first (fun i => bt8 x i == 0) 8
def chN (x : Int64) : Nat := if chkA (goodC x) (fstZ x) = true ∧ (fstZ x = 8 ∨ x.toBitVec.toNat / 256 ^ fstZ x = 0) then fstZ x else 0
theorem fstZ_le (x : Int64) : fstZ x ≤ 8 := fa_first_le _ _
theorem chN_le (x : Int64) : chN x ≤ 8 := by
  unfold chN
  have := fstZ_le x
  split <;> omega
theorem goodC_iff {x : Int64} {i : Nat} : goodC x i = true ↔ 33 ≤ bt8 x i ∧ bt8 x i ≤ 126 := by unfold goodC; simp
theorem chN_bad {x : Int64} {i : Nat} (hi : i < 8) (hg : ¬ goodC x i = true) (hl : ∀ j, j < i → bt8 x j ≠ 0) (h0 : bt8 x i ≠ 0) : chN x = 0 := by
  unfold chN
  have h1 : i < fstZ x := by
    rcases Nat.lt_or_ge i (fstZ x) with q | q
    · exact q
    · have h2 := fa_first_yes (fun i => bt8 x i == 0) 8 (show fstZ x < 8 by omega)
      have h4 : bt8 x (fa_first (fun i => bt8 x i == 0) 8) = 0 := by simpa using h2
      have h3 : bt8 x (fstZ x) = 0 := h4
      rcases Nat.lt_or_ge (fstZ x) i with w | w
      · exact absurd h3 (hl _ w)
      · rw [show fstZ x = i by omega] at h3
        exact absurd h3 h0
  rw [if_neg (fun q => hg (chkA_of q.1 i h1))]
theorem fstZ_is {x : Int64} {i : Nat} (hi : i ≤ 8) (hl : ∀ j, j < i → bt8 x j ≠ 0) (h : i = 8 ∨ bt8 x i = 0) : fstZ x = i := by
  rcases Nat.lt_or_ge i 8 with q | q
  · exact fa_first_of q (by rcases h with h | h; omega; simp [h]) (fun j hj => by simp [hl j hj])
  · have e : i = 8 := by omega
    subst e
    exact fa_first_end (fun j hj => by simp [hl j hj])
theorem chN_end {x : Int64} {i : Nat} (hi : i ≤ 8) (hl : ∀ j, j < i → goodC x j = true) (h : i = 8 ∨ bt8 x i = 0) : chN x = if i = 8 ∨ x.toBitVec.toNat / 256 ^ i = 0 then i else 0 := by
  have e := fstZ_is hi (fun j hj => by have := goodC_iff.mp (hl j hj); omega) h
  unfold chN
  rw [e]
  by_cases q : i = 8 ∨ x.toBitVec.toNat / 256 ^ i = 0
  · rw [if_pos ⟨chkA_mk hl, q⟩, if_pos q]
  · rw [if_neg (fun w => q w.2), if_neg q]
theorem chN_good {x : Int64} {i : Nat} (hi : i < chN x) : 33 ≤ bt8 x i ∧ bt8 x i ≤ 126 := by
  unfold chN at hi
  split at hi
  · next h => exact goodC_iff.mp (chkA_of h.1 i hi)
  · omega
/-- the pad, t characters of n put behind pl -/
def putP (pd : Nat → Nat) (pl n : Nat) (x : Int64) (t : Nat) : Nat → Nat := fun j => if pl ≤ j ∧ j < pl + t then bt8 x (n - 1 - (j - pl)) else pd j
theorem putP_0 (pd : Nat → Nat) (pl n : Nat) (x : Int64) : pd = putP pd pl n x 0 := by funext j; unfold putP; rw [if_neg (by omega)]
theorem putP_s (pd : Nat → Nat) (pl n : Nat) (x : Int64) (t : Nat) : uN1 (putP pd pl n x t) (pl + t) (bt8 x (n - t - 1)) = putP pd pl n x (t + 1) := by
  funext j
  unfold uN1 putP
  by_cases h : j = pl + t
  · subst h
    rw [if_pos rfl, if_pos (by omega), show n - 1 - (pl + t - pl) = n - t - 1 by omega]
  · rw [if_neg h]
    by_cases h2 : pl ≤ j ∧ j < pl + t
    · rw [if_pos h2, if_pos (by omega)]
    · rw [if_neg h2, if_neg (by omega)]
abbrev PD : Type := (Nat → Nat) × Nat
def opPut (p : PD) (x : Int64) : Int32 × PD := if chN x = 0 then (-2, p) else if 80 < p.2 + chN x then (-4, p) else (nI (p.2 + chN x), (putP p.1 p.2 (chN x) x (chN x), p.2 + chN x))
theorem m1_sub (n : Nat) : nI n - nI 1 = nI n + Int32.ofInt (-1) := by
  rw [Int32.sub_eq_add_neg]
  rfl
theorem m1_int {n : Nat} (h : n < 2 ^ 31) : (nI n + Int32.ofInt (-1)).toInt = (n : Int) - 1 := by
  have e : (Int32.ofInt (-1)).toInt = -1 := rfl
  have e2 : (nI n).toInt = (n : Int) := nI_toInt h
  have e3 := fb_addI (x := nI n) (y := Int32.ofInt (-1)) (by rw [e, e2]; omega) (by rw [e, e2]; omega)
  rw [e3, e, e2]
  omega
theorem i2c_n {c : Nat} (h : c < 65536) : ((nI c).toUInt32 % 65536).toInt32 = nI c := by rw [pk_char, pk_tn (by omega), Nat.mod_eq_of_lt h]
/-- the reader's runs -/
def stp (n : Nat) (s : RS) (ch : Nat) : Bool × RS := stepR n s.1 s.2.1 s.2.2.1 s.2.2.2.1 s.2.2.2.2.1 s.2.2.2.2.2.1 s.2.2.2.2.2.2 ch
def rsAt (n : Nat) (pd : Nat → Nat) (s0 : RS) : Nat → RS
  | 0 => s0
  | i + 1 => (stp n (rsAt n pd s0 i) (pd i)).2
def okA (n : Nat) (pd : Nat → Nat) (s0 : RS) (i : Nat) : Bool := (stp n (rsAt n pd s0 i) (pd i)).1
def fltN (n : Nat) (pd : Nat → Nat) (s0 : RS) (len : Nat) : Nat := fa_first (fun i => !okA n pd s0 i) len
def fltI (n : Nat) (pd : Nat → Nat) (s0 : RS) (len : Nat) : Int32 := if fltN n pd s0 len < len then nI (fltN n pd s0 len) else if (rsAt n pd s0 len).1 = 1 ∨ (rsAt n pd s0 len).1 = 4 then -6 else nI len
theorem flt_at {n : Nat} {pd : Nat → Nat} {s0 : RS} {len i : Nat} (hi : i < len) (h : ¬ okA n pd s0 i = true) (hl : ∀ j, j < i → okA n pd s0 j = true) : fltI n pd s0 len = nI i := by
  have e : fltN n pd s0 len = i := fa_first_of hi (by rw [Bool.eq_false_iff.mpr h]; rfl) (fun j hj => by rw [hl j hj]; rfl)
  unfold fltI
  rw [e, if_pos hi]
theorem flt_end {n : Nat} {pd : Nat → Nat} {s0 : RS} {len : Nat} (hl : ∀ j, j < len → okA n pd s0 j = true) : fltI n pd s0 len = if (rsAt n pd s0 len).1 = 1 ∨ (rsAt n pd s0 len).1 = 4 then -6 else nI len := by
  have e : fltN n pd s0 len = len := fa_first_end (fun j hj => by rw [hl j hj]; rfl)
  unfold fltI
  rw [e, if_neg (by omega)]
def opMark (m : MT) (f : Int32) (mv : Int64) : Int32 × MT := if f = -6 then comeM m mv else (-3, m)
def opMarkL (m : MT) (f : Int32) (pl : Nat) : Nat := if f = -6 ∧ mC m < 6 then 0 else pl
/-- differences, without signs -/
theorem difA {a b : Nat} (h : a < b) (hb : b < 2 ^ 30) : -(nI a - nI b) = nI (dif a b) := by
  have e : (nI a - nI b).toInt = (a : Int) - b := pk_sub_toInt (by omega) hb
  apply Int32.toInt_inj.mp
  unfold dif
  rw [if_pos h, fb_negI (by rw [e]; omega), e, nI_toInt (by omega)]
  omega
theorem difB {a b : Nat} (h : b ≤ a) : nI a - nI b = nI (dif a b) := by
  unfold dif
  rw [if_neg (by omega)]
  exact pk_sub h
theorem dif_lt {a b : Nat} (ha : a < 16) (hb : b < 16) : dif a b < 16 := by unfold dif; split <;> omega
theorem spN_lt {P : Int64} {n i : Nat} (hw : WF n P) (hn : n ≤ 16) (hi : i < n) : spN P i < 241 := by
  have h1 := spN_le hw hn i (by omega)
  have h2 : i * (n - 1) ≤ 15 * 15 := Nat.mul_le_mul (by omega) (by omega)
  omega
section
variable {p : Program} {l : Launch} {e : Env} {R rm : Room} {s : State} {m : MethodId} {args : Array Value} {below : List Frame} {meth : Method} {c : Code} {H : Heap} {locs : List Loc} {cells slots pc : Nat} {ls : Array Slot} {rest : List Value} {Q : State → Prop}
theorem zd_top {x v : UInt64} (h : x = v) (k : W p l e R s m args below meth c H locs cells slots Q (F0 m pc ls (.double v :: rest))) : W p l e R s m args below meth c H locs cells slots Q (F0 m pc ls (.double x :: rest)) := by
  subst h
  exact k
theorem zf_top {x v : UInt32} (h : x = v) (k : W p l e R s m args below meth c H locs cells slots Q (F0 m pc ls (.float v :: rest))) : W p l e R s m args below meth c H locs cells slots Q (F0 m pc ls (.float x :: rest)) := by
  subst h
  exact k
end

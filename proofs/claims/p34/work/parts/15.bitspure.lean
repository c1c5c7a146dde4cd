/-! the bits of a double and of a float, as the code finds them; and what they are for the numbers that come -/
def nk64 (r : UInt64) : Bool := decide (r &&& 0x7fffffffffffffff ≤ 0x7ff0000000000000)
theorem nk64_v {r : UInt64} (h : nk64 r = true) : vf_n64 r := of_decide_eq_true (p := r &&& 0x7fffffffffffffff ≤ 0x7ff0000000000000) h
def nk32 (r : UInt32) : Bool := decide (r &&& 0x7fffffff ≤ 0x7f800000)
theorem nk32_v {r : UInt32} (h : nk32 r = true) : vf_n32 r := of_decide_eq_true (p := r &&& 0x7fffffff ≤ 0x7f800000) h
def l1D : Nat → UInt64 → Int32 → Option (UInt64 × Int32)
  | 0, _, _ => none
  | f + 1, p, e => if (Op.cmpValue (FP.dcmp p (4611686018427387904 : UInt64)) CmpOp.l).toInt < 0 then some (p, e) else if e.toInt < 1023 ∧ nk64 (FP.ddiv p (4611686018427387904 : UInt64)) = true then l1D f (FP.ddiv p (4611686018427387904 : UInt64)) (e + Int32.ofInt (1)) else none
def l2D : Nat → UInt64 → Int32 → Option (UInt64 × Int32)
  | 0, _, _ => none
  | f + 1, p, e => if 0 ≤ (Op.cmpValue (FP.dcmp p FP.dconst1) CmpOp.g).toInt then some (p, e) else if -1022 < e.toInt ∧ nk64 (FP.dmul p (4611686018427387904 : UInt64)) = true then l2D f (FP.dmul p (4611686018427387904 : UInt64)) (e + Int32.ofInt (-1)) else none
def digD (p : UInt64) : UInt64 := FP.dmul (FP.dsub p FP.dconst1) (4841369599423283200 : UInt64)
def ofDP (v : UInt64) : Option Int64 :=
  if (Op.cmpValue (FP.dcmp v FP.dconst0) CmpOp.l).toInt ≤ 0 then some (lN 0)
  else (l1D 20 v (nI 0)).bind (fun r => (l2D 20 r.1 r.2).bind (fun w => if nk64 (FP.dsub w.1 FP.dconst1) = true ∧ nk64 (digD w.1) = true then some (((w.2 + nI 1023).toInt64 <<< ((nI 52).toInt64 &&& 63)) ||| FP.d2l (digD w.1)) else none))
theorem l1_exit {f : Nat} {p q : UInt64} {e x : Int32} (h : l1D f p e = some (q, x)) (c : (Op.cmpValue (FP.dcmp p (4611686018427387904 : UInt64)) CmpOp.l).toInt < 0) : p = q ∧ e = x := by
  cases f with
  | zero => cases h
  | succ f => unfold l1D at h; rw [if_pos c] at h; cases h; exact ⟨rfl, rfl⟩
theorem l1_go {f : Nat} {p q : UInt64} {e x : Int32} (h : l1D f p e = some (q, x)) (c : 0 ≤ (Op.cmpValue (FP.dcmp p (4611686018427387904 : UInt64)) CmpOp.l).toInt) : ∃ g, f = g + 1 ∧ e.toInt < 1023 ∧ vf_n64 (FP.ddiv p (4611686018427387904 : UInt64)) ∧ l1D g (FP.ddiv p (4611686018427387904 : UInt64)) (e + Int32.ofInt (1)) = some (q, x) := by
  cases f with
  | zero => cases h
  | succ f =>
    unfold l1D at h
    rw [if_neg (by omega)] at h
    split at h
    · next w => exact ⟨f, rfl, w.1, nk64_v w.2, h⟩
    · cases h
theorem l2_exit {f : Nat} {p q : UInt64} {e x : Int32} (h : l2D f p e = some (q, x)) (c : 0 ≤ (Op.cmpValue (FP.dcmp p FP.dconst1) CmpOp.g).toInt) : p = q ∧ e = x := by
  cases f with
  | zero => cases h
  | succ f => unfold l2D at h; rw [if_pos c] at h; cases h; exact ⟨rfl, rfl⟩
theorem l2_go {f : Nat} {p q : UInt64} {e x : Int32} (h : l2D f p e = some (q, x)) (c : (Op.cmpValue (FP.dcmp p FP.dconst1) CmpOp.g).toInt < 0) : ∃ g, f = g + 1 ∧ -1022 < e.toInt ∧ vf_n64 (FP.dmul p (4611686018427387904 : UInt64)) ∧ l2D g (FP.dmul p (4611686018427387904 : UInt64)) (e + Int32.ofInt (-1)) = some (q, x) := by
  cases f with
  | zero => cases h
  | succ f =>
    unfold l2D at h
    rw [if_neg (by omega)] at h
    split at h
    · next w => exact ⟨f, rfl, w.1, nk64_v w.2, h⟩
    · cases h
theorem ofDP_0 {v : UInt64} {r : Int64} (c : (Op.cmpValue (FP.dcmp v FP.dconst0) CmpOp.l).toInt ≤ 0) (h : ofDP v = some r) : lN 0 = r := by
  unfold ofDP at h
  rw [if_pos c] at h
  exact Option.some.inj h
theorem ofDP_1 {v : UInt64} {r : Int64} (c : 0 < (Op.cmpValue (FP.dcmp v FP.dconst0) CmpOp.l).toInt) (h : ofDP v = some r) : ∃ q x y z, l1D 20 v (nI 0) = some (q, x) ∧ l2D 20 q x = some (y, z) ∧ vf_n64 (FP.dsub y FP.dconst1) ∧ vf_n64 (digD y) ∧ ((z + nI 1023).toInt64 <<< ((nI 52).toInt64 &&& 63)) ||| FP.d2l (digD y) = r := by
  unfold ofDP at h
  rw [if_neg (by omega)] at h
  obtain ⟨⟨q, x⟩, h1, h2⟩ := Option.bind_eq_some_iff.mp h
  obtain ⟨⟨y, z⟩, h3, h4⟩ := Option.bind_eq_some_iff.mp h2
  simp only at h3 h4
  split at h4
  · next w => exact ⟨q, x, y, z, h1, h3, nk64_v w.1, nk64_v w.2, Option.some.inj h4⟩
  · cases h4
def tabD (n S : Nat) : Bool := nk64 (FP.ddiv (FP.i2d (nI S)) (FP.i2d (nI n))) && decide ((Op.cmpValue (FP.dcmp (FP.ddiv (FP.i2d (nI S)) (FP.i2d (nI n))) (FP.ddiv (FP.i2d (nI S)) (FP.i2d (nI n)))) CmpOp.l).toInt = 0) && decide (ofDP (FP.ddiv (FP.i2d (nI S)) (FP.i2d (nI n))) = some (FP.ddiv (FP.i2d (nI S)) (FP.i2d (nI n))).toInt64)
theorem tabD_2 : chkA (tabD 2) 3 = true := by decide +kernel
theorem tabD_3 : chkA (tabD 3) 7 = true := by decide +kernel
theorem tabD_4 : chkA (tabD 4) 13 = true := by decide +kernel
theorem tabD_5 : chkA (tabD 5) 21 = true := by decide +kernel
theorem tabD_6 : chkA (tabD 6) 31 = true := by decide +kernel
theorem tabD_7 : chkA (tabD 7) 43 = true := by decide +kernel
theorem tabD_8 : chkA (tabD 8) 57 = true := by decide +kernel
theorem tabD_9 : chkA (tabD 9) 73 = true := by decide +kernel
theorem tabD_10 : chkA (tabD 10) 91 = true := by decide +kernel
theorem tabD_11 : chkA (tabD 11) 111 = true := by decide +kernel
theorem tabD_12 : chkA (tabD 12) 133 = true := by decide +kernel
theorem tabD_13 : chkA (tabD 13) 157 = true := by decide +kernel
theorem tabD_14 : chkA (tabD 14) 183 = true := by decide +kernel
theorem tabD_15 : chkA (tabD 15) 211 = true := by decide +kernel
theorem tabD_16 : chkA (tabD 16) 241 = true := by decide +kernel
theorem tabD_all {n S : Nat} (h2 : 2 ≤ n) (hn : n ≤ 16) (hS : S ≤ n * (n - 1)) : tabD n S = true := by
  have key : ∀ m, chkA (tabD m) (m * (m - 1) + 1) = true → S ≤ m * (m - 1) → tabD m S = true := fun m h hs => chkA_of h S (by omega)
  rcases (show n = 2 ∨ n = 3 ∨ n = 4 ∨ n = 5 ∨ n = 6 ∨ n = 7 ∨ n = 8 ∨ n = 9 ∨ n = 10 ∨ n = 11 ∨ n = 12 ∨ n = 13 ∨ n = 14 ∨ n = 15 ∨ n = 16 by omega) with rfl | rfl | rfl | rfl | rfl | rfl | rfl | rfl | rfl | rfl | rfl | rfl | rfl | rfl | rfl
  · exact key _ tabD_2 hS
  · exact key _ tabD_3 hS
  · exact key _ tabD_4 hS
  · exact key _ tabD_5 hS
  · exact key _ tabD_6 hS
  · exact key _ tabD_7 hS
  · exact key _ tabD_8 hS
  · exact key _ tabD_9 hS
  · exact key _ tabD_10 hS
  · exact key _ tabD_11 hS
  · exact key _ tabD_12 hS
  · exact key _ tabD_13 hS
  · exact key _ tabD_14 hS
  · exact key _ tabD_15 hS
  · exact key _ tabD_16 hS
theorem tabD_v {n S : Nat} (h2 : 2 ≤ n) (hn : n ≤ 16) (hS : S ≤ n * (n - 1)) : vf_n64 (FP.ddiv (FP.i2d (nI S)) (FP.i2d (nI n))) ∧ (Op.cmpValue (FP.dcmp (FP.ddiv (FP.i2d (nI S)) (FP.i2d (nI n))) (FP.ddiv (FP.i2d (nI S)) (FP.i2d (nI n)))) CmpOp.l).toInt = 0 ∧ ofDP (FP.ddiv (FP.i2d (nI S)) (FP.i2d (nI n))) = some (FP.ddiv (FP.i2d (nI S)) (FP.i2d (nI n))).toInt64 := by
  have h := tabD_all h2 hn hS
  unfold tabD at h
  simp only [Bool.and_eq_true, decide_eq_true_eq] at h
  exact ⟨nk64_v h.1.1, h.1.2, h.2⟩
def sumT (b a : Nat) : Bool := nk64 (FP.dadd (FP.i2d (nI a)) (FP.i2d (nI b))) && decide (FP.dadd (FP.i2d (nI a)) (FP.i2d (nI b)) = FP.i2d (nI (a + b)))
theorem sumT_0 : chkA (sumT 0) 241 = true := by decide +kernel
theorem sumT_1 : chkA (sumT 1) 241 = true := by decide +kernel
theorem sumT_2 : chkA (sumT 2) 241 = true := by decide +kernel
theorem sumT_3 : chkA (sumT 3) 241 = true := by decide +kernel
theorem sumT_4 : chkA (sumT 4) 241 = true := by decide +kernel
theorem sumT_5 : chkA (sumT 5) 241 = true := by decide +kernel
theorem sumT_6 : chkA (sumT 6) 241 = true := by decide +kernel
theorem sumT_7 : chkA (sumT 7) 241 = true := by decide +kernel
theorem sumT_8 : chkA (sumT 8) 241 = true := by decide +kernel
theorem sumT_9 : chkA (sumT 9) 241 = true := by decide +kernel
theorem sumT_10 : chkA (sumT 10) 241 = true := by decide +kernel
theorem sumT_11 : chkA (sumT 11) 241 = true := by decide +kernel
theorem sumT_12 : chkA (sumT 12) 241 = true := by decide +kernel
theorem sumT_13 : chkA (sumT 13) 241 = true := by decide +kernel
theorem sumT_14 : chkA (sumT 14) 241 = true := by decide +kernel
theorem sumT_15 : chkA (sumT 15) 241 = true := by decide +kernel
theorem sumT_v {a b : Nat} (ha : a < 241) (hb : b < 16) : vf_n64 (FP.dadd (FP.i2d (nI a)) (FP.i2d (nI b))) ∧ FP.dadd (FP.i2d (nI a)) (FP.i2d (nI b)) = FP.i2d (nI (a + b)) := by
  have key : ∀ m, chkA (sumT m) 241 = true → vf_n64 (FP.dadd (FP.i2d (nI a)) (FP.i2d (nI m))) ∧ FP.dadd (FP.i2d (nI a)) (FP.i2d (nI m)) = FP.i2d (nI (a + m)) := by
    intro m h
    have h1 := chkA_of h a ha
    unfold sumT at h1
    simp only [Bool.and_eq_true, decide_eq_true_eq] at h1
    exact ⟨nk64_v h1.1, h1.2⟩
  rcases (show b = 0 ∨ b = 1 ∨ b = 2 ∨ b = 3 ∨ b = 4 ∨ b = 5 ∨ b = 6 ∨ b = 7 ∨ b = 8 ∨ b = 9 ∨ b = 10 ∨ b = 11 ∨ b = 12 ∨ b = 13 ∨ b = 14 ∨ b = 15 by omega) with rfl | rfl | rfl | rfl | rfl | rfl | rfl | rfl | rfl | rfl | rfl | rfl | rfl | rfl | rfl | rfl
  · exact key _ sumT_0
  · exact key _ sumT_1
  · exact key _ sumT_2
  · exact key _ sumT_3
  · exact key _ sumT_4
  · exact key _ sumT_5
  · exact key _ sumT_6
  · exact key _ sumT_7
  · exact key _ sumT_8
  · exact key _ sumT_9
  · exact key _ sumT_10
  · exact key _ sumT_11
  · exact key _ sumT_12
  · exact key _ sumT_13
  · exact key _ sumT_14
  · exact key _ sumT_15
theorem i2d_0 : FP.dconst0 = FP.i2d (nI 0) := by decide +kernel
def m1F : Nat → UInt32 → Int32 → Option (UInt32 × Int32)
  | 0, _, _ => none
  | f + 1, p, e => if 0 ≤ (Op.cmpValue (FP.fcmp p FP.fconst1) CmpOp.g).toInt then some (p, e) else if -126 < e.toInt ∧ nk32 (FP.fmul p FP.fconst2) = true then m1F f (FP.fmul p FP.fconst2) (e + Int32.ofInt (-1)) else none
def digF (p : UInt32) : UInt32 := FP.fmul (FP.fsub p FP.fconst1) (1258291200 : UInt32)
def ofSH (v : UInt32) : Option Int32 :=
  if (Op.cmpValue (FP.fcmp v FP.fconst0) CmpOp.l).toInt ≤ 0 then some (nI 0)
  else (m1F 20 v (nI 0)).bind (fun r => if nk32 (FP.fsub r.1 FP.fconst1) = true ∧ nk32 (digF r.1) = true then some (((r.2 + nI 127) <<< (nI 23 &&& 31)) ||| FP.f2i (digF r.1)) else none)
theorem m1_exit {f : Nat} {p q : UInt32} {e x : Int32} (h : m1F f p e = some (q, x)) (c : 0 ≤ (Op.cmpValue (FP.fcmp p FP.fconst1) CmpOp.g).toInt) : p = q ∧ e = x := by
  cases f with
  | zero => cases h
  | succ f => unfold m1F at h; rw [if_pos c] at h; cases h; exact ⟨rfl, rfl⟩
theorem m1_go {f : Nat} {p q : UInt32} {e x : Int32} (h : m1F f p e = some (q, x)) (c : (Op.cmpValue (FP.fcmp p FP.fconst1) CmpOp.g).toInt < 0) : ∃ g, f = g + 1 ∧ -126 < e.toInt ∧ vf_n32 (FP.fmul p FP.fconst2) ∧ m1F g (FP.fmul p FP.fconst2) (e + Int32.ofInt (-1)) = some (q, x) := by
  cases f with
  | zero => cases h
  | succ f =>
    unfold m1F at h
    rw [if_neg (by omega)] at h
    split at h
    · next w => exact ⟨f, rfl, w.1, nk32_v w.2, h⟩
    · cases h
theorem ofSH_0 {v : UInt32} {r : Int32} (c : (Op.cmpValue (FP.fcmp v FP.fconst0) CmpOp.l).toInt ≤ 0) (h : ofSH v = some r) : nI 0 = r := by
  unfold ofSH at h
  rw [if_pos c] at h
  exact Option.some.inj h
theorem ofSH_1 {v : UInt32} {r : Int32} (c : 0 < (Op.cmpValue (FP.fcmp v FP.fconst0) CmpOp.l).toInt) (h : ofSH v = some r) : ∃ y z, m1F 20 v (nI 0) = some (y, z) ∧ vf_n32 (FP.fsub y FP.fconst1) ∧ vf_n32 (digF y) ∧ ((z + nI 127) <<< (nI 23 &&& 31)) ||| FP.f2i (digF y) = r := by
  unfold ofSH at h
  rw [if_neg (by omega)] at h
  obtain ⟨⟨y, z⟩, h3, h4⟩ := Option.bind_eq_some_iff.mp h
  simp only at h3 h4
  split at h4
  · next w => exact ⟨y, z, h3, nk32_v w.1, nk32_v w.2, Option.some.inj h4⟩
  · cases h4
def tabF (n m : Nat) : Bool := nk32 (FP.fdiv (FP.i2f (nI m)) (FP.i2f (nI n))) && decide ((Op.cmpValue (FP.fcmp (FP.fdiv (FP.i2f (nI m)) (FP.i2f (nI n))) (FP.fdiv (FP.i2f (nI m)) (FP.i2f (nI n)))) CmpOp.l).toInt = 0) && decide (ofSH (FP.fdiv (FP.i2f (nI m)) (FP.i2f (nI n))) = some (FP.fdiv (FP.i2f (nI m)) (FP.i2f (nI n))).toInt32)
theorem tabF_all : chkA (fun n => chkA (fun m => decide (n < 2) || decide (n < m) || tabF n m) 17) 17 = true := by decide +kernel
theorem tabF_v {n m : Nat} (h2 : 2 ≤ n) (hn : n ≤ 16) (hm : m ≤ n) : vf_n32 (FP.fdiv (FP.i2f (nI m)) (FP.i2f (nI n))) ∧ (Op.cmpValue (FP.fcmp (FP.fdiv (FP.i2f (nI m)) (FP.i2f (nI n))) (FP.fdiv (FP.i2f (nI m)) (FP.i2f (nI n)))) CmpOp.l).toInt = 0 ∧ ofSH (FP.fdiv (FP.i2f (nI m)) (FP.i2f (nI n))) = some (FP.fdiv (FP.i2f (nI m)) (FP.i2f (nI n))).toInt32 := by
  have h := chkA_of (chkA_of tabF_all n (by omega)) m (by omega)
  rw [decide_eq_false (by omega), decide_eq_false (by omega)] at h
  have h : tabF n m = true := by simpa using h
  unfold tabF at h
  simp only [Bool.and_eq_true, decide_eq_true_eq] at h
  exact ⟨nk32_v h.1.1, h.1.2, h.2⟩

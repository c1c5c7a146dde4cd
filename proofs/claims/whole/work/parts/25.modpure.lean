/-! the reference's rows: how they are laid, and what table a row tells -/
def fil (g old : Nat → Nat) (i : Nat) : Nat → Nat := fun p => if p < i then g p else old p
theorem fil_0 (g old : Nat → Nat) : old = fil g old 0 := by funext p; unfold fil; rw [if_neg (by omega)]
theorem fil_s (g old : Nat → Nat) (i : Nat) : uN1 (fil g old i) i (g i) = fil g old (i + 1) := by
  funext p
  unfold uN1 fil
  by_cases h : p = i
  · subst h; rw [if_pos rfl, if_pos (by omega)]
  · rw [if_neg h]
    by_cases h2 : p < i
    · rw [if_pos h2, if_pos (by omega)]
    · rw [if_neg h2, if_neg (by omega)]
theorem fil_in {g old : Nat → Nat} {i p : Nat} (h : p < i) : fil g old i p = g p := if_pos h
theorem fil_out {g old : Nat → Nat} {i p : Nat} (h : i ≤ p) : fil g old i p = old p := if_neg (by omega)
def gTo (f : Nat → Nat) (x : Int32) (p : Nat) : Nat := if x.toInt = -6 then f (18 + p) else f (34 + 16 * ix x + p)
def turF (n p : Nat) : Nat := n - 1 - p
theorem zz_ifc {P R : Prop} [Decidable P] [Decidable R] (h : P ↔ R) : (if P then 1 else 0 : Int32) = if R then 1 else 0 := by
  by_cases q : P
  · rw [if_pos q, if_pos (h.mp q)]
  · rw [if_neg q, if_neg (fun w => q (h.mpr w))]
def alkF (a b : Nat → Nat) (z : Nat) : Bool := a z == b z
def comF (a b : Nat → Nat) (z : Nat) : Bool := a (b z) == b (a z)
theorem chkA_1 {f : Nat → Bool} {i : Nat} (h : chkA f i = true) (h2 : f i = true) : nI 1 = if chkA f (i + 1) = true then 1 else 0 := by
  rw [if_pos (by show (f i && chkA f i) = true; rw [h, h2]; rfl)]
  rfl
theorem chkA_0a {f : Nat → Bool} {i : Nat} (h : ¬ chkA f i = true) : nI 0 = if chkA f (i + 1) = true then 1 else 0 := by
  rw [if_neg (by show ¬ (f i && chkA f i) = true; rw [Bool.eq_false_iff.mpr h]; simp)]
  rfl
theorem chkA_0b {f : Nat → Bool} {i : Nat} (h : ¬ f i = true) : nI 0 = if chkA f (i + 1) = true then 1 else 0 := by
  rw [if_neg (by show ¬ (f i && chkA f i) = true; rw [Bool.eq_false_iff.mpr h]; simp)]
  rfl
def RowX (n : Nat) (r : Nat → Nat) (x : Int64) : Prop := ∀ p, p < n → r p = nb x p
theorem RowX.lt {n : Nat} {r : Nat → Nat} {x : Int64} (h : RowX n r x) (hw : WF n x) (hn : n ≤ 16) {p : Nat} (hp : p < n) : r p < n := by rw [h p hp]; exact hw.lt hp hn
theorem ofI_dec {k : Nat} (h : k < 2 ^ 30) : Int32.ofInt (-((k : Nat) : Int)) + Int32.ofInt (-1) = Int32.ofInt (-((k + 1 : Nat) : Int)) := by
  apply Int32.toInt_inj.mp
  have e1 : (Int32.ofInt (-((k : Nat) : Int))).toInt = -((k : Nat) : Int) := fb_ofI (by omega) (by omega)
  have e2 : (Int32.ofInt (-1)).toInt = -1 := rfl
  rw [fb_addI (by rw [e1, e2]; omega) (by rw [e1, e2]; omega), e1, e2, fb_ofI (by omega) (by omega)]
  omega
theorem itn_lt {n : Nat} {x : Int64} (hw : WF n x) (hn : n ≤ 16) {k p : Nat} (hp : p < n) : it (nb x) k p < n := it_lt (fun q hq => hw.lt hq hn) hp
theorem itf_lt {n : Nat} {x : Int64} (hw : WF n x) (hn : n ≤ 16) {k p : Nat} (hp : p < n) : it (fr x) k p < n := it_lt (fun q hq => hw.frLt hq hn) hp
theorem row_fr {n : Nat} {r : Nat → Nat} {x : Int64} (h : RowX n r x) (hw : WF n x) (hn : n ≤ 16) {g p : Nat} (hp : p < n) (hg : g ≤ fr x p) (e : r g = p) : g = fr x p := by
  have h1 := hw.frLt hp hn
  rw [h g (by omega)] at e
  rw [fr_of hw.1 (by omega) e]
theorem row_nf {n : Nat} {r : Nat → Nat} {x : Int64} (h : RowX n r x) (hw : WF n x) (hn : n ≤ 16) {g p : Nat} (hp : p < n) (hg : g ≤ fr x p) (e : r g ≠ p) : g < fr x p := by
  have h1 := hw.frLt hp hn
  rcases Nat.lt_or_ge g (fr x p) with q | q
  · exact q
  · have e2 : g = fr x p := by omega
    rw [h g (by omega), e2, nb_fr hw.1 (by omega)] at e
    exact absurd rfl e
/-- the table that a row of 130 tells -/
def RowR (t : TV) (f : Nat → Nat) : Prop := f 0 = t.1 ∧ f 1 = t.2.2.2.1 ∧ (∀ p, p < t.1 → f (2 + p) = fr t.2.1 p) ∧ (∀ p, p < t.1 → f (18 + p) = nb t.2.2.1 p) ∧ ∀ i, i < t.2.2.2.1 → ∀ p, p < t.1 → f (34 + 16 * i + p) = nb (t.2.2.2.2 i) p
theorem gTo_X {m : MT} {f : Nat → Nat} (h : RowR m.1 f) {a : Int32} (ha : bMT m a = true) (old : Nat → Nat) : RowX (mN m) (fil (gTo f a) old (mN m)) (mkT m a) := by
  intro p hp
  rw [fil_in hp]
  unfold gTo mkT
  by_cases q : a.toInt = -6
  · rw [if_pos q, if_pos q]; exact h.2.2.2.1 p hp
  · rw [if_neg q, if_neg q]
    rcases bMT_iff.mp ha with w | w
    · exact absurd w q
    · exact h.2.2.2.2 (ix a) (show ix a < mC m by unfold ix; omega) p hp

theorem it_z (g : Nat → Nat) (p : Nat) : p = it g 0 p := rfl
theorem powE {x : Int64} {z : Int} {k p : Nat} (h : ¬ k < (-z).toNat ∧ k ≤ (-z).toNat) : it (fr x) k (it (nb x) z.toNat p) = pw x z p := by
  unfold pw
  have e : k = (-z).toNat := by omega
  by_cases q : 0 ≤ z
  · rw [if_pos q, e, show (-z).toNat = 0 by omega]
    exact (it_z _ _).symm
  · rw [if_neg q, e, show z.toNat = 0 by omega]
    exact congrArg (it (fr x) (-z).toNat) (it_z _ _).symm

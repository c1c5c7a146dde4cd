/-! what two methods of the library come to: floorMod by a number above 0, bitCount of sixteen bits -/
theorem zz_tdm {z : Int} {L : Nat} : ∃ a : Nat, (z = a ∧ z.tdiv L = ((a / L : Nat) : Int) ∧ z.tmod L = ((a % L : Nat) : Int)) ∨ (z = -(a : Int) ∧ z.tdiv L = -((a / L : Nat) : Int) ∧ z.tmod L = -((a % L : Nat) : Int)) := by
  refine ⟨z.natAbs, ?_⟩
  rcases Int.natAbs_eq z with h | h
  · left
    refine ⟨h, ?_, ?_⟩
    · rw [h, Int.natAbs_natCast]; exact Int.ofNat_tdiv _ _
    · rw [h, Int.natAbs_natCast]; exact Int.ofNat_tmod _ _
  · right
    refine ⟨h, ?_, ?_⟩
    · rw [h, Int.natAbs_neg, Int.natAbs_natCast, Int.neg_tdiv]; exact congrArg Neg.neg (Int.ofNat_tdiv _ _)
    · rw [h, Int.natAbs_neg, Int.natAbs_natCast, Int.neg_tmod]; exact congrArg Neg.neg (Int.ofNat_tmod _ _)
theorem zz_remI {x : Int32} {L : Nat} (h0 : 0 < L) (hL : L < 2 ^ 31) : (x - x / nI L * nI L).toInt = x.toInt.tmod L := by
  have hx := fb_rng x
  have hy : (nI L).toInt = (L : Int) := nI_toInt hL
  obtain ⟨a, ha⟩ := zz_tdm (z := x.toInt) (L := L)
  have hdl : a / L ≤ a := Nat.div_le_self a L
  have hml : a / L * L ≤ a := Nat.div_mul_le_self a L
  have hmd : a / L * L + a % L = a := by rw [Nat.mul_comm]; exact Nat.div_add_mod a L
  have hrm : a % L ≤ a := Nat.mod_le a L
  have hb : a ≤ 2147483648 := by rcases ha with ⟨h1, _⟩ | ⟨h1, _⟩ <;> omega
  generalize a / L = dq at ha hdl hml hmd
  generalize a % L = dr at ha hmd hrm
  have hd : (x / nI L).toInt = x.toInt.tdiv L := by
    rw [Int32.toInt_div, hy]
    rcases ha with ⟨h1, h2, h3⟩ | ⟨h1, h2, h3⟩
    · rw [h2]; apply fb_bmod <;> omega
    · rw [h2]; apply fb_bmod <;> omega
  have hm : (x / nI L * nI L).toInt = x.toInt.tdiv L * L := by
    rw [fb_mulI, hd, hy] <;> rw [hd, hy]
    · rcases ha with ⟨h1, h2, h3⟩ | ⟨h1, h2, h3⟩
      · rw [h2]; rw [← Int.natCast_mul]; omega
      · rw [h2, Int.neg_mul, ← Int.natCast_mul]; omega
    · rcases ha with ⟨h1, h2, h3⟩ | ⟨h1, h2, h3⟩
      · rw [h2]; rw [← Int.natCast_mul]; omega
      · rw [h2, Int.neg_mul, ← Int.natCast_mul]; omega
  have e : x.toInt - x.toInt.tdiv L * L = x.toInt.tmod L := by
    rcases ha with ⟨h1, h2, h3⟩ | ⟨h1, h2, h3⟩
    · rw [h2, h3, ← Int.natCast_mul]; omega
    · rw [h2, h3, Int.neg_mul, ← Int.natCast_mul]; omega
  have hr : -2147483648 ≤ x.toInt.tmod L ∧ x.toInt.tmod L < 2147483648 := by
    rcases ha with ⟨h1, h2, h3⟩ | ⟨h1, h2, h3⟩ <;> omega
  rw [fb_subI, hm, e] <;> rw [hm, e] <;> omega
theorem zz_rem {x : Int32} {L : Nat} (h0 : 0 < L) (hL : L < 2 ^ 31) : x - x / nI L * nI L = Int32.ofInt (x.toInt.tmod L) := by
  rw [← zz_remI h0 hL, fb_asI]
theorem zz_xor {x : Int32} {L : Nat} (hL : L < 2 ^ 31) : (x ^^^ nI L).toInt < 0 ↔ x.toInt < 0 := by
  have h1 : ∀ y : Int32, y.toInt < 0 ↔ y.toBitVec.msb = true := by
    intro y
    show y.toBitVec.toInt < 0 ↔ _
    exact BitVec.toInt_neg_iff.trans (by rw [BitVec.msb_eq_decide]; simp; omega)
  rw [h1, h1, Int32.toBitVec_xor, BitVec.msb_xor]
  have h2 : (nI L).toBitVec.msb = false := by
    have h3 : (nI L).toBitVec.toNat = L := pk_tn (by omega)
    rw [BitVec.msb_eq_decide, h3]
    simp
    omega
  rw [h2, Bool.xor_false]
theorem zz_fm1 {x : Int32} {L : Nat} (h0 : 0 < L) (hL : L < 2 ^ 31) (h : 0 ≤ x.toInt ∨ x.toInt.tmod L = 0) : Int32.ofInt (x.toInt.tmod L) = nI (x.toInt % (L : Int)).toNat := by
  have hb : x.toInt % (L : Int) < L := Int.emod_lt_of_pos _ (by omega)
  have hb0 : 0 ≤ x.toInt % (L : Int) := Int.emod_nonneg _ (by omega)
  have e : x.toInt.tmod L = x.toInt % (L : Int) := by
    rcases h with h | h
    · exact Int.tmod_eq_emod_of_nonneg h
    · rw [h]
      exact (Int.emod_eq_zero_of_dvd (Int.dvd_of_tmod_eq_zero h)).symm
  apply Int32.toInt_inj.mp
  rw [e, fb_ofI (by omega) (by omega), nI_toInt (by omega)]
  omega
theorem zz_fm2 {x : Int32} {L : Nat} (h0 : 0 < L) (hL : L < 2 ^ 31) (h : x.toInt < 0) (h2 : x.toInt.tmod L ≠ 0) : Int32.ofInt (x.toInt.tmod L) + nI L = nI (x.toInt % (L : Int)).toNat := by
  have hb : x.toInt % (L : Int) < L := Int.emod_lt_of_pos _ (by omega)
  have hb0 : 0 ≤ x.toInt % (L : Int) := Int.emod_nonneg _ (by omega)
  have hnd : ¬ (0 ≤ x.toInt ∨ (L : Int) ∣ x.toInt) := by
    rintro (q | q)
    · omega
    · exact h2 (Int.tmod_eq_zero_of_dvd q)
  have e : x.toInt.tmod L = x.toInt % (L : Int) - L := by
    rw [Int.tmod_eq_emod, if_neg hnd]
    simp
  apply Int32.toInt_inj.mp
  have e1 : (Int32.ofInt (x.toInt.tmod L)).toInt = x.toInt % (L : Int) - L := by rw [fb_ofI, e] <;> rw [e] <;> omega
  have e2 : (nI L).toInt = (L : Int) := nI_toInt hL
  rw [fb_addI, e1, e2, nI_toInt] <;> first | omega | (rw [e1, e2]; omega)
def popN (m : Nat) : Nat :=
  let a := m - (m / 2 ^ 1 &&& 1431655765)
  let b := (a &&& 858993459) + (a / 2 ^ 2 &&& 858993459)
  let c := (b + b / 2 ^ 4) &&& 252645135
  let d := c + c / 2 ^ 8
  (d + d / 2 ^ 16) &&& 63
def chkA (f : Nat → Bool) : Nat → Bool
  | 0 => true
  | n + 1 => f n && chkA f n
theorem chkA_of {f : Nat → Bool} : ∀ {n : Nat}, chkA f n = true → ∀ k, k < n → f k = true
  | 0, _, k, hk => absurd hk (Nat.not_lt_zero k)
  | n + 1, h, k, hk => by
    simp only [chkA, Bool.and_eq_true] at h
    rcases Nat.lt_or_ge k n with q | q
    · exact chkA_of h.2 k q
    · rw [show k = n by omega]; exact h.1
theorem and256 {a b c d : Nat} (hb : b < 256) (hd : d < 256) : (256 * a + b) &&& (256 * c + d) = 256 * (a &&& c) + (b &&& d) := by
  apply Nat.eq_of_testBit_eq
  intro i
  have e := Nat.testBit_two_pow_mul_add (i := 8) (a &&& c) (b := b &&& d) (Nat.lt_of_le_of_lt Nat.and_le_left hb) i
  have e1 := Nat.testBit_two_pow_mul_add (i := 8) a (b := b) hb i
  have e2 := Nat.testBit_two_pow_mul_add (i := 8) c (b := d) hd i
  rw [show (2 : Nat) ^ 8 = 256 from rfl] at e e1 e2
  rw [Nat.testBit_and, e, e1, e2]
  split <;> rw [Nat.testBit_and]
def popA (x : Nat) : Nat := x - (x / 2 &&& 85)
def popB (x : Nat) : Nat := (x &&& 51) + (x / 4 &&& 51)
def popC (x : Nat) : Nat := (x + x / 16) &&& 15
theorem pop1 : ∀ x, x < 256 → (x / 2 &&& 85) ≤ x ∧ popA x < 256 ∧ x / 2 &&& 5592405 = x / 2 &&& 85 ∧ (128 + x / 2) &&& 85 = x / 2 &&& 85 := fun x hx => of_decide_eq_true (chkA_of (f := fun x => decide ((x / 2 &&& 85) ≤ x ∧ popA x < 256 ∧ x / 2 &&& 5592405 = x / 2 &&& 85 ∧ (128 + x / 2) &&& 85 = x / 2 &&& 85)) (n := 256) (by decide +kernel) x hx)
theorem pop2 : ∀ x, x < 256 → popB x ≤ 102 ∧ x &&& 3355443 = x &&& 51 ∧ x / 4 &&& 3355443 = x / 4 &&& 51 ∧ (64 + x / 4) &&& 51 = x / 4 &&& 51 ∧ (128 + x / 4) &&& 51 = x / 4 &&& 51 ∧ (192 + x / 4) &&& 51 = x / 4 &&& 51 := fun x hx => of_decide_eq_true (chkA_of (f := fun x => decide (popB x ≤ 102 ∧ x &&& 3355443 = x &&& 51 ∧ x / 4 &&& 3355443 = x / 4 &&& 51 ∧ (64 + x / 4) &&& 51 = x / 4 &&& 51 ∧ (128 + x / 4) &&& 51 = x / 4 &&& 51 ∧ (192 + x / 4) &&& 51 = x / 4 &&& 51)) (n := 256) (by decide +kernel) x hx)
theorem pop2b : ∀ x, x < 256 → popB (popA x) ≤ 68 ∧ popB (popA x) % 16 ≤ 4 ∧ popC (popB (popA x)) = fb_ct (fun i => x.testBit i) 8 := fun x hx => of_decide_eq_true (chkA_of (f := fun x => decide (popB (popA x) ≤ 68 ∧ popB (popA x) % 16 ≤ 4 ∧ popC (popB (popA x)) = fb_ct (fun i => x.testBit i) 8)) (n := 256) (by decide +kernel) x hx)
theorem pop3 : ∀ q, q ≤ 68 → ∀ r, r ≤ 4 → (q + q / 16) &&& 986895 = (q + q / 16) &&& 15 ∧ (q + q / 16 + 16 * r) &&& 15 = (q + q / 16) &&& 15 ∧ (q + q / 16) &&& 15 ≤ 15 := fun q hq r hr => of_decide_eq_true (chkA_of (chkA_of (f := fun q => chkA (fun r => decide ((q + q / 16) &&& 986895 = (q + q / 16) &&& 15 ∧ (q + q / 16 + 16 * r) &&& 15 = (q + q / 16) &&& 15 ∧ (q + q / 16) &&& 15 ≤ 15)) 5) (n := 69) (by decide +kernel) q (by omega)) r (by omega))
theorem pop_ct {m : Nat} (h : m < 65536) : popN m = fb_ct (fun i => m.testBit i) 16 := by
  obtain ⟨u, v, hu, hv, rfl⟩ : ∃ u v, u < 256 ∧ v < 256 ∧ m = 256 * u + v := ⟨m / 256, m % 256, by omega, by omega, by omega⟩
  obtain ⟨a1, a2, a3, a4⟩ := pop1 u hu
  obtain ⟨b1, b2, b3, b4⟩ := pop1 v hv
  have e1 : (256 * u + v) / 2 ^ 1 &&& 1431655765 = 256 * (u / 2 &&& 85) + (v / 2 &&& 85) := by
    have : (256 * u + v) / 2 ^ 1 = 256 * (u / 2) + (128 * (u % 2) + v / 2) := by omega
    rw [this, show 1431655765 = 256 * 5592405 + 85 from rfl, and256 (by omega) (by omega), a3]
    rcases (show u % 2 = 0 ∨ u % 2 = 1 by omega) with q | q <;> rw [q]
    · rw [Nat.mul_zero, Nat.zero_add]
    · rw [Nat.mul_one, b4]
  have e2 : 256 * u + v - ((256 * u + v) / 2 ^ 1 &&& 1431655765) = 256 * popA u + popA v := by
    rw [e1]
    unfold popA
    omega
  obtain ⟨c1, c2, c3, c4, c5, c6⟩ := pop2 (popA u) a2
  obtain ⟨d1, d2, d3, d4, d5, d6⟩ := pop2 (popA v) b2
  have e3 : ((256 * popA u + popA v) &&& 858993459) + ((256 * popA u + popA v) / 2 ^ 2 &&& 858993459) = 256 * popB (popA u) + popB (popA v) := by
    have : (256 * popA u + popA v) / 2 ^ 2 = 256 * (popA u / 4) + (64 * (popA u % 4) + popA v / 4) := by omega
    rw [this, show 858993459 = 256 * 3355443 + 51 from rfl, and256 (by omega) (by omega), and256 (by omega) (by omega), c2, c3]
    have e : (64 * (popA u % 4) + popA v / 4) &&& 51 = popA v / 4 &&& 51 := by
      rcases (show popA u % 4 = 0 ∨ popA u % 4 = 1 ∨ popA u % 4 = 2 ∨ popA u % 4 = 3 by omega) with q | q | q | q <;> rw [q]
      · rw [Nat.mul_zero, Nat.zero_add]
      · exact d4
      · exact d5
      · exact d6
    rw [e]
    unfold popB
    omega
  obtain ⟨f1, f2, f3⟩ := pop2b u hu
  obtain ⟨g1, g2, g3⟩ := pop2b v hv
  have e4 : ((256 * popB (popA u) + popB (popA v)) + (256 * popB (popA u) + popB (popA v)) / 2 ^ 4) &&& 252645135 = 256 * popC (popB (popA u)) + popC (popB (popA v)) := by
    have : (256 * popB (popA u) + popB (popA v)) + (256 * popB (popA u) + popB (popA v)) / 2 ^ 4 = 256 * (popB (popA u) + popB (popA u) / 16) + (popB (popA v) + popB (popA v) / 16 + 16 * (popB (popA u) % 16)) := by omega
    rw [this, show 252645135 = 256 * 986895 + 15 from rfl, and256 (by omega) (by omega), (pop3 _ f1 0 (by omega)).1, (pop3 _ g1 _ f2).2.1]
    rfl
  have h5 : popC (popB (popA u)) ≤ 8 := by rw [f3]; exact fb_ct_le _ 8
  have h6 : popC (popB (popA v)) ≤ 8 := by rw [g3]; exact fb_ct_le _ 8
  have e5 : popN (256 * u + v) = popC (popB (popA u)) + popC (popB (popA v)) := by
    unfold popN
    simp only [e2, e3, e4]
    have e6 : 256 * popC (popB (popA u)) + popC (popB (popA v)) + (256 * popC (popB (popA u)) + popC (popB (popA v))) / 2 ^ 8 = 256 * popC (popB (popA u)) + (popC (popB (popA u)) + popC (popB (popA v))) := by omega
    rw [e6]
    have e7 : 256 * popC (popB (popA u)) + (popC (popB (popA u)) + popC (popB (popA v))) + (256 * popC (popB (popA u)) + (popC (popB (popA u)) + popC (popB (popA v)))) / 2 ^ 16 = 256 * popC (popB (popA u)) + (popC (popB (popA u)) + popC (popB (popA v))) := by omega
    rw [e7, show (63 : Nat) = 2 ^ 6 - 1 from rfl, Nat.and_two_pow_sub_one_eq_mod]
    omega
  rw [e5, f3, g3]
  have e8 := fb_ct_split (fun i => (256 * u + v).testBit i) 8 8
  have hb : ∀ i, (256 * u + v).testBit i = if i < 8 then v.testBit i else u.testBit (i - 8) := fun i => Nat.testBit_two_pow_mul_add (i := 8) u (b := v) hv i
  rw [show 8 + 8 = 16 from rfl] at e8
  rw [e8, fb_ct_cong (p := fun i => (256 * u + v).testBit i) (q := fun i => v.testBit i) (fun k hk => by show (256 * u + v).testBit k = _; rw [hb, if_pos hk]), fb_ct_cong (p := fun k => (256 * u + v).testBit (8 + k)) (q := fun i => u.testBit i) (fun k hk => by show (256 * u + v).testBit (8 + k) = _; rw [hb, if_neg (by omega), show 8 + k - 8 = k by omega]), Nat.add_comm]
theorem pop_le (m : Nat) : (m / 2 ^ 1 &&& 1431655765) ≤ m := Nat.le_trans Nat.and_le_left (Nat.div_le_self _ _)
/-- what is below a bit count's steps -/
theorem pop_b1 {m : Nat} (h : m < 65536) : m < 2 ^ 32 := by omega
theorem pop_b2 {m : Nat} (h : m < 65536) : m - (m / 2 ^ 1 &&& 1431655765) < 2 ^ 32 := by omega
theorem pop_b3 {m : Nat} (h : m < 65536) : ((m - (m / 2 ^ 1 &&& 1431655765)) &&& 858993459) + ((m - (m / 2 ^ 1 &&& 1431655765)) / 2 ^ 2 &&& 858993459) < 2 ^ 32 := by
  have h1 : ((m - (m / 2 ^ 1 &&& 1431655765)) &&& 858993459) ≤ 858993459 := Nat.and_le_right
  have h2 : ((m - (m / 2 ^ 1 &&& 1431655765)) / 2 ^ 2 &&& 858993459) ≤ 858993459 := Nat.and_le_right
  omega
theorem pop_b4 (a : Nat) : a &&& 252645135 < 2 ^ 32 := Nat.lt_of_le_of_lt Nat.and_le_right (by decide)
theorem pop_b5 (a : Nat) : (a &&& 252645135) + (a &&& 252645135) / 2 ^ 8 < 2 ^ 32 := by
  have h : a &&& 252645135 ≤ 252645135 := Nat.and_le_right
  omega

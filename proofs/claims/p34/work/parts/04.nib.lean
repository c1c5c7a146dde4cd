/-! nibbles of a long: nb x p, p < 16; pk g: the long of the nibbles g -/
def nb (x : Int64) (p : Nat) : Nat := x.toBitVec.toNat / 16 ^ p % 16
theorem nb_lt (x : Int64) (p : Nat) : nb x p < 16 := Nat.mod_lt _ (by decide)
def pkN (g : Nat → Nat) : Nat → Nat
  | 0 => 0
  | k + 1 => pkN g k + g k % 16 * 16 ^ k
theorem pkN_lt (g : Nat → Nat) : ∀ k : Nat, pkN g k < 16 ^ k
  | 0 => by simp [pkN]
  | k + 1 => by
    have h := pkN_lt g k
    have h2 : g k % 16 < 16 := Nat.mod_lt _ (by decide)
    have h3 : g k % 16 * 16 ^ k ≤ 15 * 16 ^ k := Nat.mul_le_mul_right _ (by omega)
    have e : 16 ^ (k + 1) = 16 ^ k * 16 := Nat.pow_succ _ _
    show pkN g k + g k % 16 * 16 ^ k < 16 ^ (k + 1)
    rw [e]
    generalize g k % 16 * 16 ^ k = a at h3 ⊢
    generalize 16 ^ k = b at h h3 ⊢
    omega
theorem pkN_at (g : Nat → Nat) (p : Nat) : ∀ k : Nat, p < k → pkN g k / 16 ^ p % 16 = g p % 16
  | 0, h => absurd h (Nat.not_lt_zero p)
  | k + 1, h => by
    have hp : 0 < 16 ^ p := Nat.pow_pos (by decide)
    show (pkN g k + g k % 16 * 16 ^ k) / 16 ^ p % 16 = g p % 16
    rcases Nat.lt_or_ge p k with q | q
    · have ih := pkN_at g p k q
      have e1 : 16 ^ k = 16 ^ (k - p - 1) * 16 * 16 ^ p := by
        rw [← Nat.pow_succ, ← Nat.pow_add]
        congr 1
        omega
      have e : g k % 16 * 16 ^ k = (g k % 16 * 16 ^ (k - p - 1) * 16) * 16 ^ p := by
        rw [e1]
        simp only [Nat.mul_assoc]
      rw [e, Nat.add_mul_div_right _ _ hp, Nat.add_mul_mod_self_right, ih]
    · have e : p = k := by omega
      subst e
      rw [Nat.add_mul_div_right _ _ hp, Nat.div_eq_of_lt (pkN_lt g p), Nat.zero_add, Nat.mod_mod]
def pk (g : Nat → Nat) : Int64 := lN (pkN g 16)
theorem pk_toNat (g : Nat → Nat) : (pk g).toBitVec.toNat = pkN g 16 := wb_tn (Nat.lt_of_lt_of_le (pkN_lt g 16) (by decide))
theorem nb_pk (g : Nat → Nat) {p : Nat} (hp : p < 16) : nb (pk g) p = g p % 16 := by
  unfold nb
  rw [pk_toNat]
  exact pkN_at g p 16 hp
theorem nb_pk' {g : Nat → Nat} {p : Nat} (hp : p < 16) (h : g p < 16) : nb (pk g) p = g p := by rw [nb_pk g hp, Nat.mod_eq_of_lt h]
theorem pkN_congr {g h : Nat → Nat} : ∀ k : Nat, (∀ p, p < k → g p % 16 = h p % 16) → pkN g k = pkN h k
  | 0, _ => rfl
  | k + 1, q => by
    show pkN g k + g k % 16 * 16 ^ k = pkN h k + h k % 16 * 16 ^ k
    rw [pkN_congr k (fun p hp => q p (by omega)), q k (by omega)]
theorem pk_congr {g h : Nat → Nat} (q : ∀ p, p < 16 → g p % 16 = h p % 16) : pk g = pk h := congrArg lN (pkN_congr 16 q)
theorem pk_congr' {g h : Nat → Nat} (q : ∀ p, p < 16 → g p = h p) : pk g = pk h := pk_congr (fun p hp => by rw [q p hp])
theorem pkN_nb (x : Int64) : ∀ k : Nat, pkN (nb x) k = x.toBitVec.toNat % 16 ^ k
  | 0 => by simp [pkN, Nat.mod_one]
  | k + 1 => by
    show pkN (nb x) k + nb x k % 16 * 16 ^ k = _
    rw [pkN_nb x k, Nat.mod_eq_of_lt (nb_lt x k), Nat.pow_succ, Nat.mod_mul]
    unfold nb
    rw [Nat.mul_comm (16 ^ k)]
theorem pq_nb (x : Int64) : pk (nb x) = x := wb_inj (BitVec.eq_of_toNat_eq (by
  rw [pk_toNat, pkN_nb]
  exact Nat.mod_eq_of_lt (Nat.lt_of_lt_of_le x.toBitVec.isLt (by decide))))
theorem nb_ext {x y : Int64} (h : ∀ p, p < 16 → nb x p = nb y p) : x = y := (pq_nb x).symm.trans ((pk_congr' h).trans (pq_nb y))
theorem pow16 (p : Nat) : 2 ^ (4 * p) = 16 ^ p := by rw [Nat.pow_mul]
theorem nb_to (x : Int64) {p : Nat} (hp : p < 16) : (x.toUInt64 >>> ((nI (4 * p)).toInt64.toUInt64 &&& Int64.toUInt64 63)).toInt64.toInt32 &&& nI 15 = nI (nb x p) := by
  obtain ⟨n, hn, rfl⟩ := wb_of x
  rw [wb_shr hn (by omega), lN_i, fa_and, show (15 : Nat) = 2 ^ 4 - 1 from rfl, Nat.and_two_pow_sub_one_eq_mod]
  unfold nb
  rw [wb_tn hn, pow16]
theorem nb_bit (x : Int64) (q i : Nat) : (nb x q).testBit i = (decide (i < 4) && x.toBitVec.getLsbD (4 * q + i)) := by
  unfold nb
  rw [show (16 : Nat) ^ q = 2 ^ (4 * q) from (pow16 q).symm, show (16 : Nat) = 2 ^ 4 from rfl, Nat.testBit_mod_two_pow, Nat.testBit_div_two_pow, BitVec.testBit_toNat]
  congr 2
  omega
theorem lN_lsb (n : Nat) {j : Nat} (hj : j < 64) : (lN n).toBitVec.getLsbD j = n.testBit j := by
  rw [wb_tb, BitVec.getLsbD_ofNat]
  simp [hj]
theorem nb_with (x : Int64) {p t : Nat} (hp : p < 16) (ht : t < 16) : (x &&& ((lN 15 <<< ((nI (4 * p)).toInt64 &&& 63)) ^^^ (-1))) ||| ((nI t).toInt64 <<< ((nI (4 * p)).toInt64 &&& 63)) = pk (fun q => if q = p then t else nb x q) := by
  apply nb_ext
  intro q hq
  rw [nb_pk _ hq, wb_shl 15 (by omega), nI_l (by omega), wb_shl t (by omega)]
  have hr : (if q = p then t else nb x q) % 16 = if q = p then t else nb x q := Nat.mod_eq_of_lt (by split; exact ht; exact nb_lt x q)
  rw [hr]
  apply Nat.eq_of_testBit_eq
  intro i
  rw [nb_bit, Int64.toBitVec_or, Int64.toBitVec_and, Int64.toBitVec_xor, BitVec.getLsbD_or, BitVec.getLsbD_and, BitVec.getLsbD_xor]
  rcases Nat.lt_or_ge i 4 with hi | hi
  · have hj : 4 * q + i < 64 := by omega
    have e1 : (-1 : Int64).toBitVec.getLsbD (4 * q + i) = true := by
      rw [show (-1 : Int64).toBitVec = BitVec.allOnes 64 from rfl, BitVec.getLsbD_allOnes]
      simp [hj]
    rw [lN_lsb _ hj, lN_lsb _ hj, e1, ← Nat.shiftLeft_eq, ← Nat.shiftLeft_eq, Nat.testBit_shiftLeft, Nat.testBit_shiftLeft, show (15 : Nat) = 2 ^ 4 - 1 from rfl, Nat.testBit_two_pow_sub_one]
    by_cases hqp : q = p
    · subst hqp
      rw [if_pos rfl, show 4 * q + i - 4 * q = i by omega]
      simp [hi]
    · rw [if_neg hqp, nb_bit]
      rcases Nat.lt_or_ge q p with h | h
      · simp [hi, show ¬ 4 * p ≤ 4 * q + i by omega]
      · have h4 : 4 ≤ 4 * q + i - 4 * p := by omega
        have ht4 : t.testBit (4 * q + i - 4 * p) = false := Nat.testBit_lt_two_pow (Nat.lt_of_lt_of_le ht (show 2 ^ 4 ≤ _ from Nat.pow_le_pow_right (by decide) h4))
        rw [ht4]
        simp [hi, show 4 * p ≤ 4 * q + i by omega, show ¬ 4 * q + i - 4 * p < 4 by omega]
  · have hs : (if q = p then t else nb x q) < 2 ^ i := Nat.lt_of_lt_of_le (show _ < 2 ^ 4 by split; exact ht; exact nb_lt x q) (Nat.pow_le_pow_right (by decide) hi)
    rw [Nat.testBit_lt_two_pow hs]
    simp [Nat.not_lt.mpr hi]
/-- nibble p put to t -/
def wN (x : Int64) (p t : Nat) : Int64 := pk (fun q => if q = p then t else nb x q)
theorem nb_wN (x : Int64) {p t q : Nat} (hq : q < 16) (ht : t < 16) : nb (wN x p t) q = if q = p then t else nb x q := by
  unfold wN
  rw [nb_pk' hq (by split; exact ht; exact nb_lt x q)]
theorem nb_0 (p : Nat) : nb 0 p = 0 := by
  unfold nb
  rw [show (0 : Int64).toBitVec.toNat = 0 from rfl, Nat.zero_div]

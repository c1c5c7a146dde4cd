/-! marks as longs: product, inverse, powers, the mask of fixed places; how the loops lay them -/
def zfl (g : Nat → Nat) (i : Nat) : Nat → Nat := fun q => if q < i then g q else 0
theorem zfl_0 (g : Nat → Nat) : lN 0 = pk (zfl g 0) := by
  apply nb_ext
  intro q hq
  rw [nb_pk _ hq, show lN 0 = 0 from rfl, nb_0]
  rfl
theorem zfl_s {g : Nat → Nat} {i : Nat} (hi : i < 16) (hg : g i < 16) : wN (pk (zfl g i)) i (g i) = pk (zfl g (i + 1)) := by
  apply nb_ext
  intro q hq
  rw [nb_wN _ hq hg, nb_pk _ hq, nb_pk _ hq]
  unfold zfl
  by_cases h : q = i
  · subst h
    rw [if_pos rfl, if_pos (by omega), Nat.mod_eq_of_lt hg]
  · rw [if_neg h]
    by_cases h2 : q < i
    · rw [if_pos h2, if_pos (by omega)]
    · rw [if_neg h2, if_neg (by omega)]
theorem zfl_e (g : Nat → Nat) : pk (zfl g 16) = pk g := pk_congr' (fun q hq => by unfold zfl; rw [if_pos hq])
def thenL (x y : Int64) : Int64 := pk (fun q => nb y (nb x q))
def invL (x : Int64) : Int64 := pk (fr x)
def timesL (x : Int64) (z : Int) : Int64 := pk (pw x z)
def fixM (x : Int64) (n : Nat) : Nat := bm (fun q => nb x q == q) n
theorem nb_then (x y : Int64) {p : Nat} (hp : p < 16) : nb (thenL x y) p = nb y (nb x p) := nb_pk' hp (nb_lt _ _)
theorem nb_inv (x : Int64) {p : Nat} (hp : p < 16) : nb (invL x) p = fr x p := nb_pk' hp (fr_lt _ _)
def zfi (x : Int64) (i : Nat) : Nat → Nat := fun q => if fr x q < i then fr x q else 0
theorem zfi_0 (x : Int64) : lN 0 = pk (zfi x 0) := by
  apply nb_ext
  intro q hq
  rw [nb_pk _ hq, show lN 0 = 0 from rfl, nb_0]
  rfl
theorem zfi_s {x : Int64} (h : P16 (nb x)) {i : Nat} (hi : i < 16) : wN (pk (zfi x i)) (nb x i) i = pk (zfi x (i + 1)) := by
  apply nb_ext
  intro q hq
  rw [nb_wN _ hq hi, nb_pk _ hq, nb_pk _ hq]
  unfold zfi
  have hf := fr_lt x q
  by_cases h1 : q = nb x i
  · subst h1
    rw [if_pos rfl, fr_nb h hi, if_pos (by omega), Nat.mod_eq_of_lt hi]
  · rw [if_neg h1]
    have h3 : fr x q ≠ i := fun e => h1 (by rw [← nb_fr h hq, e])
    by_cases h2 : fr x q < i
    · rw [if_pos h2, if_pos (by omega)]
    · rw [if_neg h2, if_neg (by omega)]
theorem zfi_e (x : Int64) : pk (zfi x 16) = invL x := pk_congr' (fun q hq => by unfold zfi; rw [if_pos (fr_lt x q)])
theorem it_mul {g : Nat → Nat} {p L : Nat} (h : it g L p = p) : ∀ k : Nat, it g (L * k) p = p
  | 0 => rfl
  | k + 1 => by rw [Nat.mul_succ, it_add, it_mul h k, h]
theorem it_mod {g : Nat → Nat} {p L : Nat} (h : it g L p = p) (k : Nat) : it g (k % L) p = it g k p := by
  have e : it g k p = it g (L * (k / L) + k % L) p := by rw [Nat.div_add_mod]
  rw [e, it_add, it_mul h]
theorem it_back {x : Int64} (h : P16 (nb x)) : ∀ {k p : Nat}, p < 16 → it (fr x) k (it (nb x) k p) = p
  | 0, _, _ => rfl
  | k + 1, p, hp => by
    rw [it_succ (nb x), show it (fr x) (k + 1) (nb x (it (nb x) k p)) = it (fr x) k (fr x (nb x (it (nb x) k p))) from rfl, fr_nb h (it_lt (fun q _ => nb_lt x q) hp), it_back h hp]
theorem it_forth {x : Int64} (h : P16 (nb x)) : ∀ {k p : Nat}, p < 16 → it (nb x) k (it (fr x) k p) = p
  | 0, _, _ => rfl
  | k + 1, p, hp => by
    rw [it_succ (fr x), show it (nb x) (k + 1) (fr x (it (fr x) k p)) = it (nb x) k (nb x (fr x (it (fr x) k p))) from rfl, nb_fr h (it_lt (fun q _ => fr_lt x q) hp), it_forth h hp]
theorem pw_mod {x : Int64} (h : P16 (nb x)) {p : Nat} (hp : p < 16) (z : Int) : it (nb x) (z % ((cl (nb x) p : Nat) : Int)).toNat p = pw x z p := by
  have hL := cl_pos (nb x) p
  have hc := cl_it h hp
  unfold pw
  by_cases hz : 0 ≤ z
  · rw [if_pos hz]
    obtain ⟨a, rfl⟩ := Int.eq_ofNat_of_zero_le hz
    rw [← Int.natCast_emod, Int.toNat_natCast, Int.toNat_natCast, it_mod hc]
  · rw [if_neg hz]
    obtain ⟨a, ha⟩ : ∃ a : Nat, z = -(a : Int) := ⟨z.natAbs, by omega⟩
    subst ha
    rw [Int.neg_neg, Int.toNat_natCast]
    generalize cl (nb x) p = L at hL hc
    have h1 : (-(a : Int) % (L : Int)).toNat < L := by
      have := Int.emod_lt_of_pos (-(a : Int)) (show (0 : Int) < L by omega)
      have := Int.emod_nonneg (-(a : Int)) (show (L : Int) ≠ 0 by omega)
      omega
    have h2 : ((-(a : Int) % (L : Int)).toNat + a) % L = 0 := by
      have h3 : (((-(a : Int) % (L : Int)).toNat + a : Nat) : Int) % (L : Int) = 0 := by
        rw [Int.natCast_add, Int.toNat_of_nonneg (Int.emod_nonneg _ (by omega)), Int.emod_add_emod, Int.add_left_neg, Int.zero_emod]
      rw [← Int.natCast_emod] at h3
      exact Int.ofNat_inj.mp h3
    generalize (-(a : Int) % (L : Int)).toNat = k at h1 h2
    have h4 : it (nb x) (k + a) p = p := by rw [← it_mod hc, h2]; rfl
    have h5 : it (fr x) a (it (nb x) a (it (nb x) k p)) = it (nb x) k p := it_back h (it_lt (fun q _ => nb_lt x q) hp)
    rw [← it_add, h4] at h5
    exact h5.symm
theorem pw_lt (x : Int64) (z : Int) {p : Nat} (hp : p < 16) : pw x z p < 16 := by
  unfold pw
  split
  · exact it_lt (fun q _ => nb_lt x q) hp
  · exact it_lt (fun q _ => fr_lt x q) hp
theorem fixM_yes {x : Int64} {i : Nat} (h : nb x i = i) : nI (fixM x i) ||| nI (2 ^ i) = nI (fixM x (i + 1)) := by
  rw [fa_or]
  exact congrArg nI (bm_yes (by simp [h]))
theorem fixM_no {x : Int64} {i : Nat} (h : nb x i ≠ i) : nI (fixM x i) = nI (fixM x (i + 1)) := congrArg nI (bm_no (by simp [h]))
theorem fixM_lt (x : Int64) {n : Nat} (hn : n ≤ 16) : fixM x n < 65536 := Nat.lt_of_lt_of_le (bm_lt _ n) (Nat.pow_le_pow_right (n := 2) (by decide) hn)
theorem zz_and15 {t : Nat} (h : t < 16) : nI t &&& nI 15 = nI t := by
  rw [fa_and, show (15 : Nat) = 2 ^ 4 - 1 from rfl, Nat.and_two_pow_sub_one_eq_mod, Nat.mod_eq_of_lt h]
theorem zz_modlt (z : Int) (x : Int64) (p : Nat) : (z % ((cl (nb x) p : Nat) : Int)).toNat < 17 := by
  have h0 := cl_pos (nb x) p
  have h1 := cl_le (nb x) p
  have := Int.emod_lt_of_pos z (show (0 : Int) < (cl (nb x) p : Nat) by omega)
  have := Int.emod_nonneg z (show ((cl (nb x) p : Nat) : Int) ≠ 0 by omega)
  omega

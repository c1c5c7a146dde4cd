/-! iterates, permutations of the sixteen places, cycle lengths, masks -/
def it (g : Nat → Nat) : Nat → Nat → Nat
  | 0, p => p
  | k + 1, p => it g k (g p)
theorem it_succ (g : Nat → Nat) : ∀ k p : Nat, it g (k + 1) p = g (it g k p)
  | 0, _ => rfl
  | k + 1, p => it_succ g k (g p)
theorem it_add (g : Nat → Nat) (a : Nat) : ∀ b p : Nat, it g (a + b) p = it g b (it g a p)
  | 0, _ => rfl
  | b + 1, p => by rw [← Nat.add_assoc, it_succ, it_add g a b, it_succ]
theorem it_lt {g : Nat → Nat} {n : Nat} (h : ∀ p, p < n → g p < n) : ∀ {k p : Nat}, p < n → it g k p < n
  | 0, _, hp => hp
  | k + 1, p, hp => it_lt h (k := k) (h p hp)
theorem it_congr {g h : Nat → Nat} {n : Nat} (hg : ∀ p, p < n → g p < n) (e : ∀ p, p < n → g p = h p) : ∀ {k p : Nat}, p < n → it g k p = it h k p
  | 0, _, _ => rfl
  | k + 1, p, hp => by
    show it g k (g p) = it h k (h p)
    rw [← e p hp]
    exact it_congr hg e (hg p hp)
def P16 (g : Nat → Nat) : Prop := (∀ p, p < 16 → g p < 16) ∧ ∀ p q, p < 16 → q < 16 → g p = g q → p = q
def Hi (n : Nat) (g : Nat → Nat) : Prop := ∀ p, n ≤ p → p < 16 → g p = p
def WF (n : Nat) (x : Int64) : Prop := P16 (nb x) ∧ Hi n (nb x)
theorem WF.inj {n : Nat} {x : Int64} (h : WF n x) {p q : Nat} (hp : p < 16) (hq : q < 16) (e : nb x p = nb x q) : p = q := h.1.2 p q hp hq e
theorem WF.lt {n : Nat} {x : Int64} (h : WF n x) {p : Nat} (hp : p < n) (hn : n ≤ 16) : nb x p < n := by
  rcases Nat.lt_or_ge (nb x p) n with q | q
  · exact q
  · have e := h.2 (nb x p) q (nb_lt x p)
    have e2 := h.inj (nb_lt x p) (by omega) e
    omega
theorem it_inj {g : Nat → Nat} (h : P16 g) : ∀ {k p q : Nat}, p < 16 → q < 16 → it g k p = it g k q → p = q
  | 0, _, _, _, _, e => e
  | k + 1, p, q, hp, hq, e => h.2 p q hp hq (it_inj h (k := k) (h.1 p hp) (h.1 q hq) e)
/-- the first place that goes to t, as 'from' finds it -/
def fr (x : Int64) (t : Nat) : Nat := if fa_first (fun p => nb x p == t) 16 < 16 then fa_first (fun p => nb x p == t) 16 else 0
theorem fa_first_of {p : Nat → Bool} {n i : Nat} (hi : i < n) (hp : p i = true) (hl : ∀ j, j < i → p j = false) : fa_first p n = i := by
  have h1 := fa_first_le p n
  rcases Nat.lt_trichotomy (fa_first p n) i with q | q | q
  · have := fa_first_yes p n (by omega)
    rw [hl _ q] at this
    cases this
  · exact q
  · have := fa_first_no p n i q
    rw [hp] at this
    cases this
theorem fa_first_end {p : Nat → Bool} {n : Nat} (hl : ∀ j, j < n → p j = false) : fa_first p n = n := by
  have h1 := fa_first_le p n
  rcases Nat.lt_or_ge (fa_first p n) n with q | q
  · have := fa_first_yes p n q
    rw [hl _ q] at this
    cases this
  · omega
theorem fr_found {x : Int64} {t i : Nat} (hi : i < 16) (e : nb x i = t) (hl : ∀ j, j < i → nb x j ≠ t) : fr x t = i := by
  have h := fa_first_of (p := fun p => nb x p == t) hi (by simp [e]) (fun j hj => by simp [hl j hj])
  unfold fr
  rw [h, if_pos hi]
theorem fr_none {x : Int64} {t : Nat} (hl : ∀ j, j < 16 → nb x j ≠ t) : fr x t = 0 := by
  have h := fa_first_end (p := fun p => nb x p == t) (n := 16) (fun j hj => by simp [hl j hj])
  unfold fr
  rw [h, if_neg (by omega)]
theorem fr_lt (x : Int64) (t : Nat) : fr x t < 16 := by
  unfold fr
  split <;> omega
theorem P16.onto {g : Nat → Nat} (h : P16 g) {t : Nat} (ht : t < 16) : ∃ i, i < 16 ∧ g i = t := fb_onto (n := 16) (fun i hi => h.1 i hi) (fun i j hij hj e => by have := h.2 i j (by omega) hj e; omega) ht
theorem nb_fr {x : Int64} (h : P16 (nb x)) {t : Nat} (ht : t < 16) : nb x (fr x t) = t := by
  obtain ⟨i, hi, e⟩ := h.onto ht
  obtain ⟨j, hj, hj2, hj3⟩ := fb_first (p := fun i => nb x i = t) (n := 16) ⟨i, hi, e⟩
  rw [fr_found hj hj2 hj3, hj2]
theorem fr_nb {x : Int64} (h : P16 (nb x)) {p : Nat} (hp : p < 16) : fr x (nb x p) = p := h.2 _ _ (fr_lt x _) hp (nb_fr h (nb_lt x p))
theorem fr_of {x : Int64} (h : P16 (nb x)) {p t : Nat} (hp : p < 16) (e : nb x p = t) : fr x t = p := by rw [← e, fr_nb h hp]
theorem fr_P16 {x : Int64} (h : P16 (nb x)) : P16 (fr x) := ⟨fun p _ => fr_lt x p, fun p q hp hq e => by rw [← nb_fr h hp, ← nb_fr h hq, e]⟩
theorem WF.frHi {n : Nat} {x : Int64} (h : WF n x) : Hi n (fr x) := fun p hp hp2 => fr_of h.1 hp2 (h.2 p hp hp2)
theorem WF.frLt {n : Nat} {x : Int64} (h : WF n x) {p : Nat} (hp : p < n) (hn : n ≤ 16) : fr x p < n := by
  rcases Nat.lt_or_ge (fr x p) n with q | q
  · exact q
  · have e := h.2 _ q (fr_lt x p)
    rw [nb_fr h.1 (by omega)] at e
    omega
/-- the length of the cycle of p, as it is counted: 16 at most -/
def cl (g : Nat → Nat) (p : Nat) : Nat := fa_first (fun j => it g (j + 1) p == p) 15 + 1
theorem cl_pos (g : Nat → Nat) (p : Nat) : 0 < cl g p := Nat.succ_pos _
theorem cl_le (g : Nat → Nat) (p : Nat) : cl g p ≤ 16 := by
  have := fa_first_le (fun j => it g (j + 1) p == p) 15
  unfold cl
  omega
theorem cl_found {g : Nat → Nat} {p i : Nat} (h0 : 0 < i) (hi : i ≤ 16) (e : it g i p = p ∨ i = 16) (hl : ∀ j, 0 < j → j < i → it g j p ≠ p) : cl g p = i := by
  unfold cl
  obtain ⟨i, rfl⟩ : ∃ k, i = k + 1 := ⟨i - 1, by omega⟩
  rcases Nat.lt_or_ge i 15 with q | q
  · have e2 : it g (i + 1) p = p := by rcases e with e | e; exact e; omega
    rw [fa_first_of (p := fun j => it g (j + 1) p == p) q (by simp [e2]) (fun j hj => by simp [hl (j + 1) (by omega) (by omega)])]
  · have e3 : i = 15 := by omega
    subst e3
    rw [fa_first_end (p := fun j => it g (j + 1) p == p) (n := 15) (fun j hj => by simp [hl (j + 1) (by omega) (by omega)])]
theorem cl_least {g : Nat → Nat} {p j : Nat} (h0 : 0 < j) (hj : j < cl g p) : it g j p ≠ p := by
  unfold cl at hj
  have := fa_first_no (fun j => it g (j + 1) p == p) 15 (j - 1) (by omega)
  rw [show j - 1 + 1 = j by omega] at this
  simpa using this
theorem cl_it {g : Nat → Nat} (h : P16 g) {p : Nat} (hp : p < 16) : it g (cl g p) p = p := by
  obtain ⟨i, j, hij, hj, e⟩ := fb_twice (m := 16) (n := 17) (f := fun k => it g k p) (fun k _ => it_lt h.1 hp) (by decide)
  have e2 : it g (j - i) p = p := by
    have e3 : it g i (it g (j - i) p) = it g i p := by rw [← it_add, show j - i + i = j by omega]; exact e.symm
    exact it_inj h (it_lt h.1 hp) hp e3
  rcases Nat.lt_or_ge (fa_first (fun j => it g (j + 1) p == p) 15) 15 with q | q
  · have := fa_first_yes (fun j => it g (j + 1) p == p) 15 q
    simpa [cl] using this
  · have q2 := fa_first_le (fun j => it g (j + 1) p == p) 15
    have q3 : fa_first (fun j => it g (j + 1) p == p) 15 = 15 := by omega
    have q4 : j - i = 16 := by
      rcases Nat.lt_or_ge (j - i - 1) 15 with r | r
      · have := fa_first_no (fun j => it g (j + 1) p == p) 15 (j - i - 1) (by omega)
        rw [show j - i - 1 + 1 = j - i by omega] at this
        simp [e2] at this
      · omega
    unfold cl
    rw [q3]
    rw [q4] at e2
    exact e2
/-- a mask of the places at which P holds -/
def bm (P : Nat → Bool) : Nat → Nat
  | 0 => 0
  | k + 1 => bm P k ||| (if P k then 2 ^ k else 0)
theorem bm_lt (P : Nat → Bool) : ∀ n : Nat, bm P n < 2 ^ n
  | 0 => by simp [bm]
  | n + 1 => by
    have h := bm_lt P n
    have e : 2 ^ (n + 1) = 2 ^ n * 2 := Nat.pow_succ _ _
    refine Nat.or_lt_two_pow (by omega) ?_
    split
    · omega
    · exact Nat.pow_pos (by decide)
theorem bm_bit (P : Nat → Bool) (i : Nat) : ∀ n : Nat, (bm P n).testBit i = (decide (i < n) && P i)
  | 0 => by simp [bm]
  | n + 1 => by
    show (bm P n ||| (if P n then 2 ^ n else 0)).testBit i = _
    rw [Nat.testBit_or, bm_bit P i n]
    rcases Nat.lt_trichotomy i n with q | q | q
    · have : ((if P n then 2 ^ n else 0) : Nat).testBit i = false := by
        split
        · rw [Nat.testBit_two_pow]; simp; omega
        · exact Nat.zero_testBit i
      rw [this]
      simp [q, show i < n + 1 by omega]
    · subst q
      cases hP : P i
      · simp
      · simp [Nat.testBit_two_pow]
    · have : ((if P n then 2 ^ n else 0) : Nat).testBit i = false := by
        split
        · rw [Nat.testBit_two_pow]; simp; omega
        · exact Nat.zero_testBit i
      rw [this]
      simp [show ¬ i < n by omega, show ¬ i < n + 1 by omega]
theorem bm_yes {P : Nat → Bool} {k : Nat} (h : P k = true) : bm P k ||| 2 ^ k = bm P (k + 1) := by show _ = bm P k ||| _; rw [if_pos h]
theorem bm_no {P : Nat → Bool} {k : Nat} (h : P k = false) : bm P k = bm P (k + 1) := by show _ = bm P k ||| _; rw [if_neg (by rw [h]; decide), Nat.or_zero]
theorem bm_congr {P R : Nat → Bool} : ∀ n : Nat, (∀ k, k < n → P k = R k) → bm P n = bm R n
  | 0, _ => rfl
  | n + 1, h => by
    show bm P n ||| (if P n then 2 ^ n else 0) = bm R n ||| (if R n then 2 ^ n else 0)
    rw [bm_congr n (fun k hk => h k (by omega)), h n (by omega)]
/-- the power z of a mark at a place -/
def pw (x : Int64) (z : Int) (p : Nat) : Nat := if 0 ≤ z then it (nb x) z.toNat p else it (fr x) (-z).toNat p

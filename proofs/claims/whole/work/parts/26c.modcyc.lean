/-! the reference's walk of a cycle, and its greatest common divisor -/
theorem cyc_lt {x : Int64} {i j : Nat} {s b : Nat → Bool} (h : P16 (nb x)) (hi : i < 16) (hb : ∀ q, q < 16 → (b q = true ↔ s q = true ∨ ∃ t, t < j ∧ it (nb x) t i = q)) (hn : ¬ b (it (nb x) j i) = true) (hj : j ≤ cl (nb x) i) : j < cl (nb x) i := by
  rcases Nat.lt_or_ge j (cl (nb x) i) with q | q
  · exact q
  · have e : j = cl (nb x) i := by omega
    have hp := cl_pos (nb x) i
    refine absurd ((hb _ (it_lt (fun q _ => nb_lt x q) hi)).mpr (Or.inr ⟨0, by omega, ?_⟩)) hn
    rw [e]
    exact (cl_it h hi).symm
theorem cyc_end {x : Int64} {i j : Nat} {s b : Nat → Bool} (h : P16 (nb x)) (hi : i < 16) (hs : SeenP x i s) (hb : ∀ q, q < 16 → (b q = true ↔ s q = true ∨ ∃ t, t < j ∧ it (nb x) t i = q)) (hy : b (it (nb x) j i) = true) (hj : j ≤ cl (nb x) i) (h0 : 0 < j → ¬ s i = true) : (j = 0 ∧ s i = true ∧ SeenP x (i + 1) b ∧ lead x i = false) ∨ (j = cl (nb x) i ∧ 0 < j ∧ SeenP x (i + 1) b ∧ lead x i = true) := by
  have hlt : it (nb x) j i < 16 := it_lt (fun q _ => nb_lt x q) hi
  rcases Nat.eq_zero_or_pos j with q | q
  · left
    subst q
    have e1 : s i = true := by
      rcases (hb i hi).mp (by rw [it_z (nb x) i]; exact hy) with w | ⟨t, ht, _⟩
      · exact w
      · exact absurd ht (Nat.not_lt_zero _)
    have hs2 := seen_yes h hi hs e1
    refine ⟨rfl, e1, fun q hq => ?_, hs2.2⟩
    rw [hb q hq]
    constructor
    · rintro (w | ⟨t, ht, _⟩)
      · exact (hs2.1 q hq).mp w
      · exact absurd ht (Nat.not_lt_zero _)
    · exact fun w => Or.inl ((hs2.1 q hq).mpr w)
  · right
    have hns := h0 q
    have e : j = cl (nb x) i := by
      rcases (hb _ hlt).mp hy with w | ⟨t, ht, et⟩
      · obtain ⟨p, hp, hc⟩ := (hs _ hlt).mp w
        exact absurd ((hs i hi).mpr ⟨p, hp, inC_trans hc (inC_symm h hi ⟨j, rfl⟩)⟩) hns
      · rcases Nat.lt_or_ge j (cl (nb x) i) with z | z
        · have e2 : it (nb x) (j - t) i = i := by
            have e3 : it (nb x) t (it (nb x) (j - t) i) = it (nb x) t i := by rw [← it_add, show j - t + t = j by omega, et]
            exact it_inj h (it_lt (fun q _ => nb_lt x q) hi) hi e3
          exact absurd e2 (cl_least (by omega) (by omega))
        · omega
    refine ⟨e, q, seen_add hs (fun q hq => ?_), seen_no h hi hs hns⟩
    rw [hb q hq, e, inC_cl h hi]
theorem gcd_s {a b u v : Nat} (h : Nat.gcd u v = Nat.gcd a b) : Nat.gcd v (u % v) = Nat.gcd a b := by
  rw [← h, Nat.gcd_comm u v, Nat.gcd_rec v u, Nat.gcd_comm]
theorem lcm_E (a b : Nat) : a / Nat.gcd a b * b = Nat.lcm a b := by
  obtain ⟨k, hk⟩ := Nat.gcd_dvd_left a b
  unfold Nat.lcm
  rcases Nat.eq_zero_or_pos (Nat.gcd a b) with q | q
  · rw [q, Nat.div_zero, Nat.div_zero, Nat.zero_mul]
  · rw [Nat.mul_comm a b, Nat.mul_div_assoc b (Nat.gcd_dvd_left a b), Nat.mul_comm]
theorem how_le (x : Int64) (n : Nat) : howN x n ≤ n := fb_ct_le _ _
theorem uN1_id (c : Nat → Nat) (k : Nat) : uN1 c k (c k) = c := by
  funext j
  unfold uN1
  split
  · next h => rw [h]
  · rfl
theorem RowX.inj {n : Nat} {r : Nat → Nat} {x : Int64} (h : RowX n r x) (hw : WF n x) (hn : n ≤ 16) {p q : Nat} (hp : p < n) (hq : q < n) (e : r p = r q) : p = q := by
  rw [h p hp, h q hq] at e
  exact hw.1.2 p q (by omega) (by omega) e
theorem cyc_b {x : Int64} {i j q : Nat} {s b : Nat → Bool} (hb : b q = true ↔ s q = true ∨ ∃ t, t < j ∧ it (nb x) t i = q) : uB1 b (it (nb x) j i) true q = true ↔ s q = true ∨ ∃ t, t < j + 1 ∧ it (nb x) t i = q := by
  unfold uB1
  by_cases w : q = it (nb x) j i
  · rw [if_pos w]
    exact ⟨fun _ => Or.inr ⟨j, by omega, w.symm⟩, fun _ => rfl⟩
  · rw [if_neg w, hb]
    constructor
    · rintro (z | ⟨t, ht, e⟩)
      · exact Or.inl z
      · exact Or.inr ⟨t, by omega, e⟩
    · rintro (z | ⟨t, ht, e⟩)
      · exact Or.inl z
      · rcases Nat.lt_or_ge t j with y | y
        · exact Or.inr ⟨t, y, e⟩
        · rw [show t = j by omega] at e
          exact absurd e.symm w
theorem cyc_0 {x : Int64} {i j : Nat} {s b : Nat → Bool} (hi : i < 16) (hb : ∀ q, q < 16 → (b q = true ↔ s q = true ∨ ∃ t, t < j ∧ it (nb x) t i = q)) (h0 : 0 < j → ¬ s i = true) (hn : ¬ b (it (nb x) j i) = true) : ¬ s i = true := by
  rcases Nat.eq_zero_or_pos j with q | q
  · subst q
    intro hs
    exact hn ((hb _ (it_lt (fun q _ => nb_lt x q) hi)).mpr (Or.inl (by rw [← it_z]; exact hs)))
  · exact h0 q

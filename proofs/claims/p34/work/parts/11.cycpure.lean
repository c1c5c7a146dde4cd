/-! cycles of a mark: who leads one, how many of each length -/
def inC (x : Int64) (p q : Nat) : Prop := ∃ j, it (nb x) j p = q
theorem inC_refl (x : Int64) (p : Nat) : inC x p p := ⟨0, rfl⟩
theorem inC_trans {x : Int64} {p q r : Nat} (h1 : inC x p q) (h2 : inC x q r) : inC x p r := by
  obtain ⟨a, rfl⟩ := h1
  obtain ⟨b, rfl⟩ := h2
  exact ⟨a + b, it_add _ _ _ _⟩
theorem inC_lt {x : Int64} {p q : Nat} (hp : p < 16) (h : inC x p q) : q < 16 := by
  obtain ⟨a, rfl⟩ := h
  exact it_lt (fun q _ => nb_lt x q) hp
theorem inC_symm {x : Int64} (h : P16 (nb x)) {p q : Nat} (hp : p < 16) (h1 : inC x p q) : inC x q p := by
  obtain ⟨a, rfl⟩ := h1
  have hL := cl_pos (nb x) p
  have hle : a ≤ cl (nb x) p * a := Nat.le_mul_of_pos_left a hL
  refine ⟨cl (nb x) p * a - a, ?_⟩
  rw [← it_add, show a + (cl (nb x) p * a - a) = cl (nb x) p * a by omega]
  exact it_mul (cl_it h hp) a
theorem inC_cl {x : Int64} (h : P16 (nb x)) {p q : Nat} (hp : p < 16) : (∃ t, t < cl (nb x) p ∧ it (nb x) t p = q) ↔ inC x p q := by
  constructor
  · rintro ⟨t, _, e⟩
    exact ⟨t, e⟩
  · rintro ⟨j, e⟩
    exact ⟨j % cl (nb x) p, Nat.mod_lt _ (cl_pos _ _), by rw [it_mod (cl_it h hp), e]⟩
theorem chkA_mk {f : Nat → Bool} : ∀ {n : Nat}, (∀ k, k < n → f k = true) → chkA f n = true
  | 0, _ => rfl
  | n + 1, h => by
    show (f n && chkA f n) = true
    rw [h n (by omega), chkA_mk (fun k hk => h k (by omega))]
    rfl
def lead (x : Int64) (p : Nat) : Bool := chkA (fun j => decide (p ≤ it (nb x) j p)) 16
theorem lead_all (x : Int64) (p : Nat) : lead x p = true ↔ ∀ j, j < 16 → p ≤ it (nb x) j p :=
  ⟨fun h j hj => of_decide_eq_true (chkA_of (f := fun j => decide (p ≤ it (nb x) j p)) h j hj), fun h => chkA_mk (fun j hj => decide_eq_true (h j hj))⟩
theorem lead_iff {x : Int64} (h : P16 (nb x)) {p : Nat} (hp : p < 16) : lead x p = true ↔ ∀ q, q < p → ¬ inC x q p := by
  rw [lead_all]
  constructor
  · intro h1 q hq h2
    obtain ⟨t, ht, e⟩ := (inC_cl h hp).mpr (inC_symm h (by omega) h2)
    have := h1 t (Nat.lt_of_lt_of_le ht (cl_le _ _))
    omega
  · intro h1 j _
    rcases Nat.lt_or_ge (it (nb x) j p) p with q | q
    · exact absurd (inC_symm h hp ⟨j, rfl⟩) (h1 _ q)
    · exact q
def cnt (x : Int64) (n L : Nat) : Nat := fb_ct (fun p => lead x p && decide (cl (nb x) p = L)) n
def howN (x : Int64) (n : Nat) : Nat := fb_ct (fun p => lead x p) n
theorem cnt_le (x : Int64) (n L : Nat) : cnt x n L ≤ n := fb_ct_le _ _
def SeenP (x : Int64) (i : Nat) (b : Nat → Bool) : Prop := ∀ q, q < 16 → (b q = true ↔ ∃ p, p < i ∧ inC x p q)
def CntI (x : Int64) (i : Nat) (c : Nat → Nat) : Prop := ∀ L, L < 17 → c L = cnt x i L
theorem seen_0 (x : Int64) {b : Nat → Bool} (hb : ∀ q, q < 16 → b q = false) : SeenP x 0 b := fun q hq => by
  rw [hb q hq]
  exact ⟨fun h => absurd h (by decide), fun ⟨p, hp, _⟩ => absurd hp (Nat.not_lt_zero p)⟩
theorem cnt_0 (x : Int64) {c : Nat → Nat} (hc : ∀ q, q < 17 → c q = 0) : CntI x 0 c := fun L hL => hc L hL
theorem seen_yes {x : Int64} {i : Nat} {b : Nat → Bool} (h : P16 (nb x)) (hi : i < 16) (hs : SeenP x i b) (hb : b i = true) : SeenP x (i + 1) b ∧ lead x i = false := by
  obtain ⟨p, hp, hc⟩ := (hs i hi).mp hb
  refine ⟨fun q hq => ?_, ?_⟩
  · rw [hs q hq]
    constructor
    · rintro ⟨r, hr, h1⟩
      exact ⟨r, by omega, h1⟩
    · rintro ⟨r, hr, h1⟩
      rcases Nat.lt_or_ge r i with w | w
      · exact ⟨r, w, h1⟩
      · have e : r = i := by omega
        subst e
        exact ⟨p, hp, inC_trans hc h1⟩
  · rcases hl : lead x i with _ | _
    · rfl
    · exact absurd hc ((lead_iff h hi).mp hl p hp)
theorem seen_no {x : Int64} {i : Nat} {b : Nat → Bool} (h : P16 (nb x)) (hi : i < 16) (hs : SeenP x i b) (hb : ¬ b i = true) : lead x i = true :=
  (lead_iff h hi).mpr (fun q hq hc => hb ((hs i hi).mpr ⟨q, hq, hc⟩))
theorem seen_add {x : Int64} {i : Nat} {b b' : Nat → Bool} (hs : SeenP x i b) (h : ∀ q, q < 16 → (b' q = true ↔ b q = true ∨ inC x i q)) : SeenP x (i + 1) b' := fun q hq => by
  rw [h q hq, hs q hq]
  constructor
  · rintro (⟨p, hp, h1⟩ | h1)
    · exact ⟨p, by omega, h1⟩
    · exact ⟨i, by omega, h1⟩
  · rintro ⟨p, hp, h1⟩
    rcases Nat.lt_or_ge p i with w | w
    · exact Or.inl ⟨p, w, h1⟩
    · exact Or.inr (by rw [show i = p by omega]; exact h1)
theorem cnt_yes {x : Int64} {i : Nat} {c : Nat → Nat} (hl : lead x i = false) (hc : CntI x i c) : CntI x (i + 1) c := fun L hL => by
  rw [hc L hL]
  unfold cnt
  rw [fb_ct_succ, hl]
  rfl
theorem cnt_no {x : Int64} {i : Nat} {c : Nat → Nat} (hl : lead x i = true) (hc : CntI x i c) : CntI x (i + 1) (uN1 c (cl (nb x) i) (c (cl (nb x) i) + 1)) := fun L hL => by
  unfold cnt
  rw [fb_ct_succ, hl]
  by_cases h : L = cl (nb x) i
  · rw [h, uN1_s, hc _ (by have := cl_le (nb x) i; omega)]
    simp [cnt]
  · rw [uN1_n _ h, hc L hL]
    simp [cnt, show ¬ cl (nb x) i = L from fun e => h e.symm]
theorem how_yes {x : Int64} {i : Nat} (hl : lead x i = false) : howN x (i + 1) = howN x i := by unfold howN; rw [fb_ct_succ, hl]; rfl
theorem how_no {x : Int64} {i : Nat} (hl : lead x i = true) : howN x (i + 1) = howN x i + 1 := by unfold howN; rw [fb_ct_succ, hl]; rfl
/-- sums, the longest, the order and the marks that commute, out of the counts -/
def sm1 (c : Nat → Nat) : Nat → Nat
  | 0 => 0
  | i + 1 => sm1 c i + (if i = 0 then 0 else c i)
def lgst (c : Nat → Nat) : Nat → Nat
  | 0 => 0
  | i + 1 => if 0 < i ∧ 0 < c i then i else lgst c i
def ordF (c : Nat → Nat) : Nat → Nat
  | 0 => 1
  | i + 1 => if 0 < i ∧ 0 < c i then Nat.lcm (ordF c i) i else ordF c i
def cinL (a : Int64) (L : Nat) : Nat → Int64
  | 0 => a
  | i + 1 => cinL a L i * lN L * lN (i + 1)
def coutL (c : Nat → Nat) : Nat → Int64
  | 0 => lN 1
  | i + 1 => if i = 0 then lN 1 else cinL (coutL c i) i (c i)
theorem sm1_congr {c d : Nat → Nat} : ∀ {n : Nat}, (∀ k, k < n → c k = d k) → sm1 c n = sm1 d n
  | 0, _ => rfl
  | n + 1, h => by
    show sm1 c n + _ = sm1 d n + _
    rw [sm1_congr (fun k hk => h k (by omega)), h n (by omega)]
theorem lgst_congr {c d : Nat → Nat} : ∀ {n : Nat}, (∀ k, k < n → c k = d k) → lgst c n = lgst d n
  | 0, _ => rfl
  | n + 1, h => by
    show (if 0 < n ∧ 0 < c n then n else lgst c n) = if 0 < n ∧ 0 < d n then n else lgst d n
    rw [lgst_congr (fun k hk => h k (by omega)), h n (by omega)]
theorem ordF_congr {c d : Nat → Nat} : ∀ {n : Nat}, (∀ k, k < n → c k = d k) → ordF c n = ordF d n
  | 0, _ => rfl
  | n + 1, h => by
    show (if 0 < n ∧ 0 < c n then Nat.lcm (ordF c n) n else ordF c n) = if 0 < n ∧ 0 < d n then Nat.lcm (ordF d n) n else ordF d n
    rw [ordF_congr (fun k hk => h k (by omega)), h n (by omega)]
theorem coutL_congr {c d : Nat → Nat} : ∀ {n : Nat}, (∀ k, k < n → c k = d k) → coutL c n = coutL d n
  | 0, _ => rfl
  | n + 1, h => by
    show (if n = 0 then lN 1 else cinL (coutL c n) n (c n)) = if n = 0 then lN 1 else cinL (coutL d n) n (d n)
    rw [coutL_congr (fun k hk => h k (by omega)), h n (by omega)]
theorem sm1_s (c : Nat → Nat) {i : Nat} (h : 0 < i) : sm1 c (i + 1) = sm1 c i + c i := by
  show sm1 c i + (if i = 0 then 0 else c i) = _
  rw [if_neg (by omega)]
theorem lgst_yes {c : Nat → Nat} {i : Nat} (h : 0 < i) (h2 : 0 < c i) : lgst c (i + 1) = i := if_pos ⟨h, h2⟩
theorem lgst_no {c : Nat → Nat} {i : Nat} (h2 : c i ≤ 0) : lgst c (i + 1) = lgst c i := if_neg (by omega)
theorem ordF_yes {c : Nat → Nat} {i : Nat} (h : 0 < i) (h2 : 0 < c i) : ordF c (i + 1) = Nat.lcm (ordF c i) i := if_pos ⟨h, h2⟩
theorem ordF_no {c : Nat → Nat} {i : Nat} (h2 : c i ≤ 0) : ordF c (i + 1) = ordF c i := if_neg (by omega)
theorem coutL_s (c : Nat → Nat) {i : Nat} (h : 0 < i) : coutL c (i + 1) = cinL (coutL c i) i (c i) := if_neg (by omega)
theorem ordF_dvd (c : Nat → Nat) : ∀ i : Nat, i ≤ 17 → ordF c i ∣ 720720
  | 0, _ => show 1 ∣ 720720 from Nat.one_dvd _
  | i + 1, h => by
    show (if 0 < i ∧ 0 < c i then Nat.lcm (ordF c i) i else ordF c i) ∣ 720720
    have ih := ordF_dvd c i (by omega)
    split
    · next q =>
      refine Nat.lcm_dvd ih ?_
      have : ∀ k, k < 17 → 0 < k → k ∣ 720720 := by decide +kernel
      exact this i (by omega) q.1
    · exact ih
theorem ordF_pos (c : Nat → Nat) {i : Nat} (h : i ≤ 17) : 0 < ordF c i := Nat.pos_of_dvd_of_pos (ordF_dvd c i h) (by decide)
theorem ordF_le (c : Nat → Nat) {i : Nat} (h : i ≤ 17) : ordF c i ≤ 720720 := Nat.le_of_dvd (by decide) (ordF_dvd c i h)
/-- the least number of times that b divides: the least common multiple -/
theorem lcm_found {a b t : Nat} (ha : 0 < a) (hb : 0 < b) (ht : 0 < t) (h : a * t % b = 0) (hl : ∀ j, 0 < j → j < t → a * j % b ≠ 0) : a * t = Nat.lcm a b := by
  have h1 : Nat.lcm a b ∣ a * t := Nat.lcm_dvd ⟨t, rfl⟩ (Nat.dvd_of_mod_eq_zero h)
  obtain ⟨s, hs⟩ := Nat.dvd_lcm_left a b
  have hpos : 0 < Nat.lcm a b := Nat.lcm_pos ha hb
  have hs0 : 0 < s := by
    rcases Nat.eq_zero_or_pos s with q | q
    · rw [q, Nat.mul_zero] at hs; omega
    · exact q
  have hle : Nat.lcm a b ≤ a * t := Nat.le_of_dvd (Nat.mul_pos ha ht) h1
  have hst : s ≤ t := by
    rw [hs] at hle
    exact Nat.le_of_mul_le_mul_left hle ha
  rcases Nat.lt_or_ge s t with q | q
  · have := Nat.mod_eq_zero_of_dvd (Nat.dvd_lcm_right a b)
    rw [hs] at this
    exact absurd this (hl s hs0 q)
  · rw [show t = s by omega, ← hs]
theorem sum_cnt (x : Int64) (n : Nat) : sm1 (cnt x n) 17 = howN x n := by
  have key : ∀ n : Nat, ∀ c : Nat → Nat, (∀ L, c L = cnt x n L) → sm1 c 17 = howN x n := by
    intro n
    induction n with
    | zero =>
      intro c hc
      rw [sm1_congr (c := c) (d := fun _ => 0) (fun k _ => by rw [hc k]; rfl)]
      rfl
    | succ n ih =>
      intro c hc
      have e : ∀ L, c L = cnt x n L + (if lead x n = true ∧ cl (nb x) n = L then 1 else 0) := by
        intro L
        rw [hc L]
        unfold cnt
        rw [fb_ct_succ]
        simp
      have e2 : ∀ d : Nat → Nat, ∀ v, ∀ m, sm1 (fun L => d L + (if v = true ∧ cl (nb x) n = L then 1 else 0)) m = sm1 d m + (if v = true ∧ 0 < cl (nb x) n ∧ cl (nb x) n < m then 1 else 0) := by
        intro d v m
        induction m with
        | zero => simp [sm1]
        | succ m ihm =>
          show sm1 _ m + (if m = 0 then 0 else d m + _) = (sm1 d m + (if m = 0 then 0 else d m)) + _
          rw [ihm]
          rcases v with _ | _
          · simp
          · by_cases hm : m = 0
            · subst hm
              simp
              intro h; omega
            · rw [if_neg hm, if_neg hm]
              by_cases hc2 : cl (nb x) n = m
              · subst hc2
                have h1 := cl_pos (nb x) n
                rw [if_neg (fun q => Nat.lt_irrefl _ q.2.2), if_pos ⟨rfl, rfl⟩, if_pos ⟨rfl, h1, Nat.lt_succ_self _⟩]
                omega
              · by_cases hc3 : 0 < cl (nb x) n ∧ cl (nb x) n < m
                · rw [if_pos ⟨rfl, hc3⟩, if_neg (fun q => hc2 q.2), if_pos ⟨rfl, hc3.1, by omega⟩]; omega
                · rw [if_neg (fun q => hc3 q.2), if_neg (fun q => hc2 q.2), if_neg (fun q => hc3 ⟨q.2.1, by omega⟩)]; omega
      rw [sm1_congr (c := c) (d := fun L => cnt x n L + (if lead x n = true ∧ cl (nb x) n = L then 1 else 0)) (fun k _ => e k), e2, ih (cnt x n) (fun _ => rfl)]
      have h1 := cl_pos (nb x) n
      have h2 := cl_le (nb x) n
      unfold howN
      rw [fb_ct_succ]
      rcases lead x n with _ | _
      · simp
      · rw [if_pos ⟨rfl, h1, by omega⟩]; rfl
  exact key n _ (fun _ => rfl)
theorem seenJ_s {m s0 j w q : Nat} {g : Nat → Nat} (h : m.testBit q = true ↔ s0.testBit q = true ∨ ∃ t, t < j ∧ it g t w = q) : (m ||| 2 ^ it g j w).testBit q = true ↔ s0.testBit q = true ∨ ∃ t, t < j + 1 ∧ it g t w = q := by
  rw [Nat.testBit_or, Bool.or_eq_true, h, Nat.testBit_two_pow, decide_eq_true_eq]
  constructor
  · rintro ((h1 | ⟨t, ht, e⟩) | e)
    · exact Or.inl h1
    · exact Or.inr ⟨t, by omega, e⟩
    · exact Or.inr ⟨j, by omega, e⟩
  · rintro (h1 | ⟨t, ht, e⟩)
    · exact Or.inl (Or.inl h1)
    · rcases Nat.lt_or_ge t j with w2 | w2
      · exact Or.inl (Or.inr ⟨t, w2, e⟩)
      · exact Or.inr (by rw [show j = t by omega]; exact e)

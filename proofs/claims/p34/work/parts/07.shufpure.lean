/-! cuts, riffles, turnings in numbers; contents of rows in numbers -/
def cutF (k n p : Nat) : Nat := if p < k then p + n - k else p - k
def cuI (k n q : Nat) : Nat := if q + k < n then q + k else q + k - n
theorem cutF_lt {k n p : Nat} (hk : k ≤ n) (hp : p < n) : cutF k n p < n := by unfold cutF; split <;> omega
theorem cuI_lt {k n q : Nat} (hk : k < n) (hq : q < n) : cuI k n q < n := by unfold cuI; split <;> omega
theorem cuI_cutF {k n p : Nat} (hk : k < n) (hp : p < n) : cuI k n (cutF k n p) = p := by unfold cuI cutF; split <;> split <;> omega
theorem cutF_cuI {k n q : Nat} (hk : k < n) (hq : q < n) : cutF k n (cuI k n q) = q := by unfold cuI cutF; split <;> split <;> omega
theorem zz_cutA {k n p : Nat} (h : p < k) (hk : k ≤ n) (hn : n ≤ 16) : nI p - nI k + nI n = nI (cutF k n p) := by
  have e : cutF k n p = p + n - k := by unfold cutF; rw [if_pos h]
  rw [e]
  apply Int32.toInt_inj.mp
  rw [nI_toInt (by omega), fb_addI] <;> rw [pk_sub_toInt (by omega) (by omega), nI_toInt (by omega)] <;> omega
def rifH (b n : Nat) : Nat := if b = 0 then (n + 1) / 2 else n / 2
def rifF (b n p : Nat) : Nat := if p < rifH b n then 2 * p + b else 2 * (p - rifH b n) + 1 - b
theorem rif_lo {b n p h : Nat} (hh : h = rifH b n) (hp : p < h) : 2 * p + b = rifF b n p := by subst hh; unfold rifF; rw [if_pos hp]
theorem rif_hi {b n p h : Nat} (hh : h = rifH b n) (hp : h ≤ p) : 2 * (p - h) + 1 - b = rifF b n p := by subst hh; unfold rifF; rw [if_neg (by omega)]
theorem rifF_lt {b n p : Nat} (hb : b ≤ 1) (hp : p < n) : rifF b n p < n := by
  unfold rifF rifH
  rcases (show b = 0 ∨ b = 1 by omega) with rfl | rfl
  · rw [if_pos rfl]; split <;> omega
  · rw [if_neg (show ¬ (1 : Nat) = 0 by decide)]; split <;> omega
def stepF (t n p : Nat) : Nat := if t = 0 then cutF 1 n p else if t = 1 then rifF 0 n p else if t = 2 then rifF 1 n p else n - 1 - p
theorem stepF_lt {t n p : Nat} (hp : p < n) : stepF t n p < n := by
  unfold stepF
  split
  · exact cutF_lt (by omega) hp
  · split
    · exact rifF_lt (by omega) hp
    · split
      · exact rifF_lt (by omega) hp
      · omega
def perL (g : Nat → Nat) (n : Nat) : Int64 := pk (fun q => if q < n then g q else q)
theorem stay_perL (g : Nat → Nat) : (-81985529216486896 : Int64) = perL g 0 := by
  have e : perL g 0 = pk (fun q => q) := pk_congr' (fun q _ => by rw [if_neg (by omega)])
  rw [e]
  decide +kernel
theorem perL_s {g : Nat → Nat} {i : Nat} (hi : i < 16) (hg : g i < 16) : wN (perL g i) i (g i) = perL g (i + 1) := by
  apply nb_ext
  intro q hq
  unfold perL
  rw [nb_wN _ hq hg, nb_pk _ hq, nb_pk _ hq]
  by_cases h : q = i
  · subst h
    rw [if_pos rfl, if_pos (by omega), Nat.mod_eq_of_lt hg]
  · rw [if_neg h]
    by_cases h2 : q < i
    · rw [if_pos h2, if_pos (by omega)]
    · rw [if_neg h2, if_neg (by omega)]
theorem nb_perL {g : Nat → Nat} {n p : Nat} (hp : p < 16) (hn : n ≤ 16) (hg : ∀ q, q < n → g q < n) : nb (perL g n) p = if p < n then g p else p := by
  unfold perL
  rw [nb_pk' hp]
  split
  · have := hg p (by omega); omega
  · exact hp
theorem perL_WF {g : Nat → Nat} {n : Nat} (hn : n ≤ 16) (hg : ∀ q, q < n → g q < n) (hi : ∀ p q, p < n → q < n → g p = g q → p = q) : WF n (perL g n) := by
  refine ⟨⟨fun p _ => nb_lt _ p, fun p q hp hq e => ?_⟩, fun p hp hp2 => ?_⟩
  · rw [nb_perL hp hn hg, nb_perL hq hn hg] at e
    by_cases h1 : p < n
    · by_cases h2 : q < n
      · rw [if_pos h1, if_pos h2] at e; exact hi p q h1 h2 e
      · rw [if_pos h1, if_neg h2] at e; have := hg p h1; omega
    · by_cases h2 : q < n
      · rw [if_neg h1, if_pos h2] at e; have := hg q h2; omega
      · rw [if_neg h1, if_neg h2] at e; exact e
  · rw [nb_perL hp2 hn hg, if_neg (by omega)]
def stayL : Int64 := -81985529216486896
theorem stayL_eq : stayL = pk (fun q => q) := by decide +kernel
theorem nb_stay {p : Nat} (hp : p < 16) : nb stayL p = p := by rw [stayL_eq, nb_pk' hp hp]
theorem stay_WF (n : Nat) : WF n stayL := ⟨⟨fun p _ => nb_lt _ p, fun p q hp hq e => by rw [nb_stay hp, nb_stay hq] at e; exact e⟩, fun p _ hp => nb_stay hp⟩
def becF (x : Int64) (k n i : Nat) : Nat → Nat := fun q => if q < n ∧ cuI k n q < i then cutF k n (nb x (cuI k n q)) else q
def becL (x : Int64) (k n : Nat) : Int64 := pk (becF x k n n)
theorem bec_0 (x : Int64) (k n : Nat) : (-81985529216486896 : Int64) = pk (becF x k n 0) := by
  have e : pk (becF x k n 0) = pk (fun q => q) := pk_congr' (fun q _ => by unfold becF; rw [if_neg (by omega)])
  rw [e]
  decide +kernel
theorem bec_s {x : Int64} {k n i : Nat} (hw : WF n x) (hn : n ≤ 16) (hk : k < n) (hi : i < n) : wN (pk (becF x k n i)) (cutF k n i) (cutF k n (nb x i)) = pk (becF x k n (i + 1)) := by
  have hx := hw.lt hi hn
  have h1 := cutF_lt (p := nb x i) (Nat.le_of_lt hk) hx
  have h2 := cutF_lt (p := i) (Nat.le_of_lt hk) hi
  apply nb_ext
  intro q hq
  rw [nb_wN _ hq (by omega), nb_pk _ hq, nb_pk _ hq]
  unfold becF
  by_cases h : q = cutF k n i
  · subst h
    rw [if_pos rfl, cuI_cutF hk hi, if_pos ⟨h2, by omega⟩, Nat.mod_eq_of_lt (by omega)]
  · rw [if_neg h]
    by_cases h3 : q < n
    · have h4 : cuI k n q ≠ i := fun e => h (by rw [← e, cutF_cuI hk h3])
      by_cases h5 : cuI k n q < i
      · rw [if_pos ⟨h3, h5⟩, if_pos ⟨h3, by omega⟩]
      · rw [if_neg (by omega), if_neg (by omega)]
    · rw [if_neg (by omega), if_neg (by omega)]
theorem nb_bec {x : Int64} {k n p : Nat} (hw : WF n x) (hn : n ≤ 16) (hk : k < n) (hp : p < 16) : nb (becL x k n) p = if p < n then cutF k n (nb x (cuI k n p)) else p := by
  have e : becF x k n n p = if p < n then cutF k n (nb x (cuI k n p)) else p := by
    unfold becF
    by_cases h : p < n
    · rw [if_pos ⟨h, cuI_lt hk h⟩, if_pos h]
    · rw [if_neg (by omega), if_neg h]
  unfold becL
  rw [nb_pk' hp, e]
  rw [e]
  split
  · next h => have := cutF_lt (p := nb x (cuI k n p)) (Nat.le_of_lt hk) (hw.lt (cuI_lt hk h) hn); omega
  · exact hp
/-- contents of rows: whole numbers from 0 on, truth values -/
def nIf (c : Nat → Nat) : Nat → Int32 := fun j => nI (c j)
def nBf (b : Nat → Bool) : Nat → Int32 := fun j => if b j = true then 1 else 0
def uN1 (c : Nat → Nat) (k v : Nat) : Nat → Nat := fun j => if j = k then v else c j
def uB1 (b : Nat → Bool) (k : Nat) (v : Bool) : Nat → Bool := fun j => if j = k then v else b j
theorem upd_nIf (c : Nat → Nat) (k v : Nat) : upd (nIf c) k (nI v) = nIf (uN1 c k v) := by
  funext j
  unfold upd nIf uN1
  split <;> rfl
theorem upd_nB1 (b : Nat → Bool) (k : Nat) : upd (nBf b) k (nI 1) = nBf (uB1 b k true) := by
  funext j
  unfold upd nBf uB1
  split <;> rfl
theorem upd_nB0 (b : Nat → Bool) (k : Nat) : upd (nBf b) k (nI 0) = nBf (uB1 b k false) := by
  funext j
  unfold upd nBf uB1
  split <;> rfl
theorem uN1_s (c : Nat → Nat) (k v : Nat) : uN1 c k v k = v := if_pos rfl
theorem uN1_n (c : Nat → Nat) {k v j : Nat} (h : j ≠ k) : uN1 c k v j = c j := if_neg h
theorem uB1_s (c : Nat → Bool) (k : Nat) (v : Bool) : uB1 c k v k = v := if_pos rfl
theorem uB1_n (c : Nat → Bool) {k j : Nat} {v : Bool} (h : j ≠ k) : uB1 c k v j = c j := if_neg h
/-- one bit of a mask, as the code asks for it -/
theorem zz_tb (m i : Nat) : nI (m / 2 ^ i) &&& nI 1 = if m.testBit i = true then 1 else 0 := by
  rw [fa_and, show (1 : Nat) = 2 ^ 1 - 1 from rfl, Nat.and_two_pow_sub_one_eq_mod, ← Nat.shiftRight_eq_div_pow]
  have h : m.testBit i = decide (m >>> i % 2 = 1) := by
    rw [Nat.testBit_eq_decide_div_mod_eq, Nat.shiftRight_eq_div_pow]
  rw [h]
  rcases (show m >>> i % 2 = 0 ∨ m >>> i % 2 = 1 by omega) with q | q <;> simp [q] <;> rfl

/-! the reader of marks, as an automaton: state, moves, places in the text, digits, places in the cycle, first, last -/
abbrev RS : Type := Nat × Int64 × Nat × Nat × Nat × Nat × Nat
def frE (n us p : Nat) : Bool := decide (p < n) && !us.testBit p
def bgP (n us v p : Nat) : Bool := frE n us p && (p == v || (decide (0 < v) && p / 10 == v))
def begF (n us v : Nat) : Bool := !chkA (fun p => !bgP n us v p) n
theorem begF_yes {n us v i : Nat} (hi : i < n) (h : bgP n us v i = true) : begF n us v = true := by
  unfold begF
  rcases hc : chkA (fun p => !bgP n us v p) n with _ | _
  · rfl
  · have := chkA_of hc i hi
    rw [h] at this
    cases this
theorem begF_no {n us v : Nat} (h : ∀ j, j < n → bgP n us v j = false) : begF n us v = false := by
  unfold begF
  rw [chkA_mk (fun k hk => by rw [h k hk]; rfl)]
  rfl
theorem begF_iff {n us v : Nat} : begF n us v = true ↔ ∃ p, p < n ∧ bgP n us v p = true := by
  constructor
  · intro h
    rcases fb_ct_pos (p := bgP n us v) (n := n) with ⟨h1, _⟩
    rcases Nat.eq_zero_or_pos (fb_ct (bgP n us v) n) with q | q
    · have := begF_no (fb_ct_zero.mp q)
      rw [h] at this
      cases this
    · obtain ⟨k, hk, hp⟩ := h1 q
      exact ⟨k, hk, hp⟩
  · rintro ⟨p, hp, h⟩
    exact begF_yes hp h
def digR (n : Nat) (st : Nat) (mv : Int64) (us dg ic fi la ch ah : Nat) : Bool × RS := if 48 ≤ ch ∧ ch ≤ 57 ∧ begF n us (10 * ah + (ch - 48)) = true then (true, (3, mv, us, 10 * ah + (ch - 48), ic, fi, la)) else (false, (st, mv, us, dg, ic, fi, la))
def opnR (st : Nat) (mv : Int64) (us dg ic fi la ch : Nat) : Bool × RS := if ch = 40 then (true, (2, mv, us, dg, 0, fi, la)) else (false, (st, mv, us, dg, ic, fi, la))
def endM (mv : Int64) (ic la dg : Nat) : Int64 := if ic = 0 then mv else wN mv la dg
def endI (ic fi dg : Nat) : Nat := if ic = 0 then dg else fi
def endR (n : Nat) (st : Nat) (mv : Int64) (us dg ic fi la : Nat) : Bool × RS := if frE n us dg = true then (true, (2, endM mv ic la dg, us ||| 2 ^ dg, dg, ic + 1, endI ic fi dg, dg)) else (false, (st, mv, us, dg, ic, fi, la))
def cloR (mv : Int64) (us dg ic fi la : Nat) : RS := (4, wN mv la fi, us, dg, ic, fi, la)
def inpR (n : Nat) (st : Nat) (mv : Int64) (us dg ic fi la ch : Nat) : Bool × RS :=
  if ch = 44 then endR n st mv us dg ic fi la
  else if ch = 41 then (if 0 < ic ∧ frE n us dg = true then (true, (4, wN (endM mv ic la dg) dg (endI ic fi dg), us ||| 2 ^ dg, dg, ic + 1, endI ic fi dg, dg)) else (false, (st, mv, us, dg, ic, fi, la)))
  else if 0 < dg then digR n st mv us dg ic fi la ch dg else (false, (st, mv, us, dg, ic, fi, la))
def stepR (n : Nat) (st : Nat) (mv : Int64) (us dg ic fi la ch : Nat) : Bool × RS :=
  if st = 0 then (if ch = 101 then (true, (1, mv, us, dg, ic, fi, la)) else opnR st mv us dg ic fi la ch)
  else if st = 2 then digR n st mv us dg ic fi la ch 0
  else if st = 3 then inpR n st mv us dg ic fi la ch
  else if st = 4 then opnR st mv us dg ic fi la ch
  else (false, (st, mv, us, dg, ic, fi, la))
/-- what holds of the reader's numbers between two signs -/
def RWF (s : RS) : Prop := s.1 ≤ 4 ∧ s.2.2.1 < 65536 ∧ s.2.2.2.1 < 16 ∧ s.2.2.2.2.2.1 < 16 ∧ s.2.2.2.2.2.2 < 16
theorem frE_lt {n us p : Nat} (h : frE n us p = true) : p < n := by
  unfold frE at h
  simp only [Bool.and_eq_true, decide_eq_true_eq] at h
  exact h.1
theorem begF_lt {n us v : Nat} (hn : n ≤ 16) (h : begF n us v = true) : v < 16 := by
  obtain ⟨p, hp, hb⟩ := begF_iff.mp h
  unfold bgP at hb
  simp only [Bool.and_eq_true, Bool.or_eq_true, beq_iff_eq, decide_eq_true_eq] at hb
  rcases hb.2 with e | ⟨_, e⟩ <;> omega
theorem stepR_WF {n st : Nat} {mv : Int64} {us dg ic fi la ch : Nat} (hn : n ≤ 16) (h : RWF (st, mv, us, dg, ic, fi, la)) : RWF (stepR n st mv us dg ic fi la ch).2 ∧ (stepR n st mv us dg ic fi la ch).2.2.2.2.2.1 ≤ ic + 1 := by
  obtain ⟨h1, h2, h3, h4, h5⟩ := h
  have hid : RWF (st, mv, us, dg, ic, fi, la) := ⟨h1, h2, h3, h4, h5⟩
  have hdig : ∀ ah, RWF (digR n st mv us dg ic fi la ch ah).2 ∧ (digR n st mv us dg ic fi la ch ah).2.2.2.2.2.1 ≤ ic + 1 := by
    intro ah
    unfold digR
    split
    · next q => exact ⟨⟨by show 3 ≤ 4; decide, h2, begF_lt hn q.2.2, h4, h5⟩, Nat.le_succ _⟩
    · exact ⟨hid, Nat.le_succ _⟩
  have hopn : RWF (opnR st mv us dg ic fi la ch).2 ∧ (opnR st mv us dg ic fi la ch).2.2.2.2.2.1 ≤ ic + 1 := by
    unfold opnR
    split
    · exact ⟨⟨by show 2 ≤ 4; decide, h2, h3, h4, h5⟩, Nat.zero_le _⟩
    · exact ⟨hid, Nat.le_succ _⟩
  have hus : ∀ {p}, p < 16 → us ||| 2 ^ p < 65536 := fun {p} hp => Nat.or_lt_two_pow (n := 16) h2 (Nat.pow_lt_pow_right (by decide) hp)
  have hei : endI ic fi dg < 16 := by unfold endI; split <;> assumption
  unfold stepR
  split
  · split
    · exact ⟨⟨by show 1 ≤ 4; decide, h2, h3, h4, h5⟩, Nat.le_succ _⟩
    · exact hopn
  · split
    · exact hdig 0
    · split
      · unfold inpR
        split
        · unfold endR
          split
          · exact ⟨⟨by show 2 ≤ 4; decide, hus h3, h3, hei, h3⟩, Nat.le_refl _⟩
          · exact ⟨hid, Nat.le_succ _⟩
        · split
          · split
            · exact ⟨⟨by show 4 ≤ 4; decide, hus h3, h3, hei, h3⟩, Nat.le_refl _⟩
            · exact ⟨hid, Nat.le_succ _⟩
          · split
            · exact hdig dg
            · exact ⟨hid, Nat.le_succ _⟩
      · split
        · exact hopn
        · exact ⟨hid, Nat.le_succ _⟩
theorem frE_t {n us p : Nat} (h1 : p < n) (h2 : ¬ us.testBit p = true) : frE n us p = true := by
  unfold frE
  rw [decide_eq_true h1, Bool.eq_false_iff.mpr h2]
  rfl
theorem frE_f1 {n us p : Nat} (h1 : n ≤ p) : ¬ frE n us p = true := fun h => absurd (frE_lt h) (by omega)
theorem frE_f2 {n us p : Nat} (h2 : us.testBit p = true) : ¬ frE n us p = true := by
  unfold frE
  rw [h2]
  simp
theorem endR_t {n st : Nat} {mv : Int64} {us dg ic fi la : Nat} (h : frE n us dg = true) : endR n st mv us dg ic fi la = (true, (2, endM mv ic la dg, us ||| 2 ^ dg, dg, ic + 1, endI ic fi dg, dg)) := if_pos h
theorem endR_f {n st : Nat} {mv : Int64} {us dg ic fi la : Nat} (h : ¬ frE n us dg = true) : endR n st mv us dg ic fi la = (false, (st, mv, us, dg, ic, fi, la)) := if_neg h
theorem endR_1 {n st : Nat} {mv : Int64} {us dg ic fi la : Nat} : (endR n st mv us dg ic fi la).1 = true ↔ frE n us dg = true := by
  by_cases h : frE n us dg = true
  · rw [endR_t h]; exact ⟨fun _ => h, fun _ => rfl⟩
  · rw [endR_f h]; exact ⟨fun q => absurd (show false = true from q) (by decide), fun q => absurd q h⟩
theorem digR_t {n st : Nat} {mv : Int64} {us dg ic fi la ch ah : Nat} (h : 48 ≤ ch ∧ ch ≤ 57 ∧ begF n us (10 * ah + (ch - 48)) = true) : digR n st mv us dg ic fi la ch ah = (true, (3, mv, us, 10 * ah + (ch - 48), ic, fi, la)) := if_pos h
theorem digR_f {n st : Nat} {mv : Int64} {us dg ic fi la ch ah : Nat} (h : ¬ (48 ≤ ch ∧ ch ≤ 57 ∧ begF n us (10 * ah + (ch - 48)) = true)) : digR n st mv us dg ic fi la ch ah = (false, (st, mv, us, dg, ic, fi, la)) := if_neg h
theorem digR_1 {n st : Nat} {mv : Int64} {us dg ic fi la ch ah : Nat} : (digR n st mv us dg ic fi la ch ah).1 = false → digR n st mv us dg ic fi la ch ah = (false, (st, mv, us, dg, ic, fi, la)) := by
  intro q
  by_cases h : 48 ≤ ch ∧ ch ≤ 57 ∧ begF n us (10 * ah + (ch - 48)) = true
  · rw [digR_t h] at q; cases q
  · exact digR_f h
theorem step0e {n : Nat} {mv : Int64} {us dg ic fi la : Nat} : stepR n 0 mv us dg ic fi la 101 = (true, (1, mv, us, dg, ic, fi, la)) := rfl
theorem step0 {n : Nat} {mv : Int64} {us dg ic fi la ch : Nat} (h : ch ≠ 101) : stepR n 0 mv us dg ic fi la ch = opnR 0 mv us dg ic fi la ch := by
  unfold stepR
  rw [if_pos rfl, if_neg h]
theorem step1 {n : Nat} {mv : Int64} {us dg ic fi la ch : Nat} : stepR n 1 mv us dg ic fi la ch = (false, (1, mv, us, dg, ic, fi, la)) := rfl
theorem step2 {n : Nat} {mv : Int64} {us dg ic fi la ch : Nat} : stepR n 2 mv us dg ic fi la ch = digR n 2 mv us dg ic fi la ch 0 := rfl
theorem step3 {n : Nat} {mv : Int64} {us dg ic fi la ch : Nat} : stepR n 3 mv us dg ic fi la ch = inpR n 3 mv us dg ic fi la ch := rfl
theorem step4 {n : Nat} {mv : Int64} {us dg ic fi la ch : Nat} : stepR n 4 mv us dg ic fi la ch = opnR 4 mv us dg ic fi la ch := rfl
theorem inp44 {n st : Nat} {mv : Int64} {us dg ic fi la : Nat} : inpR n st mv us dg ic fi la 44 = endR n st mv us dg ic fi la := rfl
theorem inp41t {n st : Nat} {mv : Int64} {us dg ic fi la : Nat} (h : 0 < ic ∧ frE n us dg = true) : inpR n st mv us dg ic fi la 41 = (true, (4, wN (endM mv ic la dg) dg (endI ic fi dg), us ||| 2 ^ dg, dg, ic + 1, endI ic fi dg, dg)) := by
  unfold inpR
  rw [if_neg (by decide), if_pos rfl, if_pos h]
theorem inp41f {n st : Nat} {mv : Int64} {us dg ic fi la : Nat} (h : ¬ (0 < ic ∧ frE n us dg = true)) : inpR n st mv us dg ic fi la 41 = (false, (st, mv, us, dg, ic, fi, la)) := by
  unfold inpR
  rw [if_neg (by decide), if_pos rfl, if_neg h]
theorem inpD {n st : Nat} {mv : Int64} {us dg ic fi la ch : Nat} (h1 : ch ≠ 44) (h2 : ch ≠ 41) (h : 0 < dg) : inpR n st mv us dg ic fi la ch = digR n st mv us dg ic fi la ch dg := by
  unfold inpR
  rw [if_neg h1, if_neg h2, if_pos h]
theorem inpN {n st : Nat} {mv : Int64} {us dg ic fi la ch : Nat} (h1 : ch ≠ 44) (h2 : ch ≠ 41) (h : dg ≤ 0) : inpR n st mv us dg ic fi la ch = (false, (st, mv, us, dg, ic, fi, la)) := by
  unfold inpR
  rw [if_neg h1, if_neg h2, if_neg (by omega)]
theorem opn_t {st : Nat} {mv : Int64} {us dg ic fi la : Nat} : opnR st mv us dg ic fi la 40 = (true, (2, mv, us, dg, 0, fi, la)) := rfl
theorem opn_f {st : Nat} {mv : Int64} {us dg ic fi la ch : Nat} (h : ch ≠ 40) : opnR st mv us dg ic fi la ch = (false, (st, mv, us, dg, ic, fi, la)) := if_neg h

/-! the reference's pad and reader, told by the component's automaton -/
theorem pd_0 (x : Int64) : x = lN (x.toBitVec.toNat / 256 ^ 0) := by
  obtain ⟨n, hn, rfl⟩ := wb_of x
  rw [wb_tn hn, Nat.pow_zero, Nat.div_one]
theorem pd_lt (x : Int64) (i : Nat) : x.toBitVec.toNat / 256 ^ i < 2 ^ 64 := Nat.lt_of_le_of_lt (Nat.div_le_self _ _) x.toBitVec.isLt
theorem pd_and (x : Int64) (i : Nat) : lN (x.toBitVec.toNat / 256 ^ i) &&& (255 : Int64) = lN (bt8 x i) := fb_maskL _ 8
theorem pd_shr (x : Int64) (i : Nat) : ((lN (x.toBitVec.toNat / 256 ^ i)).toUInt64 >>> ((nI 8).toInt64.toUInt64 &&& Int64.toUInt64 63)).toInt64 = lN (x.toBitVec.toNat / 256 ^ (i + 1)) := by
  rw [wb_shr (pd_lt x i) (by decide), Nat.div_div_eq_div_mul]
  rfl
theorem pd_eq (x : Int64) {m : Nat} (hm : m < 2 ^ 64) : lN m = lN 0 ↔ m = 0 := by
  constructor
  · intro h
    have := congrArg (fun z : Int64 => z.toBitVec.toNat) h
    simp only [wb_tn hm, wb_tn (show 0 < 2 ^ 64 by decide)] at this
    exact this
  · intro h
    rw [h]
theorem pd_at (x : Int64) {i : Nat} (hi : i < 8) : (x.toUInt64 >>> ((nI (8 * i)).toInt64.toUInt64 &&& Int64.toUInt64 63)).toInt64 &&& (255 : Int64) = lN (bt8 x i) := by
  have e : (x.toUInt64 >>> ((nI (8 * i)).toInt64.toUInt64 &&& Int64.toUInt64 63)).toInt64 = lN (x.toBitVec.toNat / 256 ^ i) := by
    obtain ⟨n, hn, rfl⟩ := wb_of x
    rw [wb_shr hn (by omega), wb_tn hn, pow256]
  rw [e]
  exact pd_and x i
theorem pd_8 (x : Int64) : x.toBitVec.toNat / 256 ^ 8 = 0 := Nat.div_eq_of_lt (Nat.lt_of_lt_of_le x.toBitVec.isLt (by decide))
theorem pd_bad {x : Int64} {i : Nat} (e : fstZ x = i) (h : i = 0 ∨ ¬ chkA (goodC x) i = true ∨ x.toBitVec.toNat / 256 ^ i ≠ 0) : chN x = 0 := by
  unfold chN
  rw [e]
  by_cases q : chkA (goodC x) i = true ∧ (i = 8 ∨ x.toBitVec.toNat / 256 ^ i = 0)
  · rw [if_pos q]
    rcases h with h | h | h
    · exact h
    · exact absurd q.1 h
    · rcases q.2 with w | w
      · rw [w] at h
        exact absurd (pd_8 x) h
      · exact absurd w h
  · rw [if_neg q]
theorem pd_good {x : Int64} {i : Nat} (e : fstZ x = i) (h1 : chkA (goodC x) i = true) (h2 : x.toBitVec.toNat / 256 ^ i = 0) : chN x = i := by
  unfold chN
  rw [e, if_pos ⟨h1, Or.inr h2⟩]
theorem b1 {b : Bool} (h : b = true) : nI 1 = if b = true then 1 else 0 := by
  rw [if_pos h]
  rfl
theorem b0 {b : Bool} (h : ¬ b = true) : nI 0 = if b = true then 1 else 0 := by
  rw [if_neg h]
  rfl
/-- what a letter is: 0 behind the end -/
def ltr (pd : Nat → Nat) (ln j : Nat) : Nat := if j < ln then pd j else 0
theorem ltr_in {pd : Nat → Nat} {ln j : Nat} (h : j < ln) : ltr pd ln j = pd j := if_pos h
theorem ltr_out {pd : Nat → Nat} {ln j : Nat} (h : ln ≤ j) : ltr pd ln j = 0 := if_neg (by omega)
theorem ltr_lt {pd : Nat → Nat} {ln : Nat} (h : ∀ q, q < ln → 33 ≤ pd q ∧ pd q ≤ 126) (j : Nat) : ltr pd ln j < 127 := by
  unfold ltr
  split
  · next w => have := h j w; omega
  · omega
theorem ltr_pos {pd : Nat → Nat} {ln j : Nat} (h : ltr pd ln j ≠ 0) : j < ln := by
  rcases Nat.lt_or_ge j ln with q | q
  · exact q
  · exact absurd (ltr_out q) h
def Syn (n : Nat) (pd : Nat → Nat) (z0 : RS) (i : Nat) : Prop := ∀ j, j < i → okA n pd z0 j = true
theorem go {n : Nat} {pd : Nat → Nat} {z0 s s2 : RS} {i : Nat} (h : rsAt n pd z0 i = s) (hs : Syn n pd z0 i) (e : stp n s (pd i) = (true, s2)) : Syn n pd z0 (i + 1) ∧ rsAt n pd z0 (i + 1) = s2 := by
  refine ⟨fun j hj => ?_, ?_⟩
  · rcases Nat.lt_or_ge j i with q | q
    · exact hs j q
    · rw [show j = i by omega]
      unfold okA
      rw [h, e]
  · show (stp n (rsAt n pd z0 i) (pd i)).2 = s2
    rw [h, e]
theorem bad_at {n : Nat} {pd : Nat → Nat} {z0 s : RS} {i ln : Nat} (hi : i < ln) (h : rsAt n pd z0 i = s) (hs : Syn n pd z0 i) (e : (stp n s (pd i)).1 = false) : fltI n pd z0 ln = nI i := by
  refine flt_at hi ?_ hs
  unfold okA
  rw [h, e]
  decide
theorem bad_end {n : Nat} {pd : Nat → Nat} {z0 s : RS} {ln : Nat} (h : rsAt n pd z0 ln = s) (hs : Syn n pd z0 ln) (h1 : s.1 ≠ 1) (h4 : s.1 ≠ 4) : fltI n pd z0 ln = nI ln := by
  rw [flt_end hs, h, if_neg (by omega)]
theorem good_end {n : Nat} {pd : Nat → Nat} {z0 s : RS} {ln : Nat} (h : rsAt n pd z0 ln = s) (hs : Syn n pd z0 ln) (h1 : s.1 = 1 ∨ s.1 = 4) : fltI n pd z0 ln = -6 := by
  rw [flt_end hs, h, if_pos h1]
theorem stp2 {n : Nat} {mv : Int64} {us dg ic fi la ch : Nat} : stp n (2, mv, us, dg, ic, fi, la) ch = digR n 2 mv us dg ic fi la ch 0 := rfl
theorem stp3 {n : Nat} {mv : Int64} {us dg ic fi la ch : Nat} : stp n (3, mv, us, dg, ic, fi, la) ch = inpR n 3 mv us dg ic fi la ch := rfl
theorem stp4 {n : Nat} {mv : Int64} {us dg ic fi la ch : Nat} : stp n (4, mv, us, dg, ic, fi, la) ch = opnR 4 mv us dg ic fi la ch := rfl
theorem stp0 {n : Nat} {mv : Int64} {us dg ic fi la ch : Nat} (h : ch ≠ 101) : stp n (0, mv, us, dg, ic, fi, la) ch = opnR 0 mv us dg ic fi la ch := step0 h
theorem dig1 {P : Prop} {a : Bool × RS} (h : a.1 = false → P) (h2 : a.1 = true → P) : P := by
  rcases e : a.1 with _ | _
  · exact h e
  · exact h2 e
theorem pl_bad1 {n : Nat} {pd : Nat → Nat} {z0 : RS} {k ln : Nat} {mv : Int64} {us dg ic fi la : Nat} (hk : k ≤ ln) (hA : rsAt n pd z0 k = (2, mv, us, dg, ic, fi, la)) (hs : Syn n pd z0 k) (h : ¬ (48 ≤ ltr pd ln k ∧ ltr pd ln k ≤ 57 ∧ begF n us (ltr pd ln k - 48) = true)) : fltI n pd z0 ln = nI k := by
  rcases Nat.lt_or_ge k ln with q | q
  · rw [ltr_in q] at h
    refine bad_at q hA hs ?_
    rw [stp2, digR_f (by rw [Nat.mul_zero, Nat.zero_add]; exact h)]
  · have e : k = ln := by omega
    subst e
    exact bad_end hA hs (show (2 : Nat) ≠ 1 by decide) (show (2 : Nat) ≠ 4 by decide)
theorem pl_one {n : Nat} {pd : Nat → Nat} {z0 : RS} {k ln : Nat} {mv : Int64} {us dg ic fi la : Nat} (hA : rsAt n pd z0 k = (2, mv, us, dg, ic, fi, la)) (hs : Syn n pd z0 k) (h : 48 ≤ ltr pd ln k ∧ ltr pd ln k ≤ 57 ∧ begF n us (ltr pd ln k - 48) = true) : k < ln ∧ Syn n pd z0 (k + 1) ∧ rsAt n pd z0 (k + 1) = (3, mv, us, ltr pd ln k - 48, ic, fi, la) := by
  have q : k < ln := ltr_pos (pd := pd) (by omega)
  rw [ltr_in q] at h ⊢
  refine ⟨q, go hA hs ?_⟩
  rw [stp2, digR_t (by rw [Nat.mul_zero, Nat.zero_add]; exact h), Nat.mul_zero, Nat.zero_add]
theorem beg_two {n us v : Nat} (hn : n ≤ 16) (hv : 10 ≤ v) : begF n us v = true ↔ frE n us v = true := by
  constructor
  · intro h
    obtain ⟨p, hp, hb⟩ := begF_iff.mp h
    unfold bgP at hb
    simp only [Bool.and_eq_true, Bool.or_eq_true, beq_iff_eq, decide_eq_true_eq] at hb
    rcases hb.2 with e | ⟨_, e⟩
    · rw [← e]; exact hb.1
    · omega
  · intro h
    exact begF_yes (frE_lt h) (by unfold bgP; rw [h]; simp)
theorem pl_two {n : Nat} {pd : Nat → Nat} {z0 : RS} {j ln : Nat} {mv : Int64} {us ic fi la : Nat} (hn : n ≤ 16) (hA : rsAt n pd z0 j = (3, mv, us, 1, ic, fi, la)) (hs : Syn n pd z0 j) (h : 48 ≤ ltr pd ln j ∧ ltr pd ln j ≤ 57 ∧ frE n us (10 + (ltr pd ln j - 48)) = true) : j < ln ∧ Syn n pd z0 (j + 1) ∧ rsAt n pd z0 (j + 1) = (3, mv, us, 10 + (ltr pd ln j - 48), ic, fi, la) := by
  have q : j < ln := ltr_pos (pd := pd) (by omega)
  rw [ltr_in q] at h ⊢
  refine ⟨q, go hA hs ?_⟩
  rw [stp3, inpD (by omega) (by omega) (by decide), digR_t ⟨h.1, h.2.1, (beg_two hn (by omega)).mpr h.2.2⟩]
theorem pl_bad2 {n : Nat} {pd : Nat → Nat} {z0 : RS} {j ln its : Nat} {mv : Int64} {us ic fi la : Nat} (hn : n ≤ 16) (hj : j ≤ ln) (hA : rsAt n pd z0 j = (3, mv, us, its, ic, fi, la)) (hs : Syn n pd z0 j) (h2 : 10 ≤ its ∨ ¬ (48 ≤ ltr pd ln j ∧ ltr pd ln j ≤ 57 ∧ its = 1 ∧ frE n us (10 + (ltr pd ln j - 48)) = true)) (h : ¬ (frE n us its = true ∧ (ltr pd ln j = 44 ∨ ltr pd ln j = 41))) : fltI n pd z0 ln = nI j := by
  rcases Nat.lt_or_ge j ln with q | q
  · rw [ltr_in q] at h h2
    refine bad_at q hA hs ?_
    rw [stp3]
    by_cases c44 : pd j = 44
    · rw [c44, inp44, endR_f (fun w => h ⟨w, Or.inl c44⟩)]
    · by_cases c41 : pd j = 41
      · rw [c41, inp41f (fun w => h ⟨w.2, Or.inr c41⟩)]
      · rcases Nat.eq_zero_or_pos its with z | z
        · rw [inpN c44 c41 (by omega)]
        · rw [inpD c44 c41 z, digR_f ?_]
          rintro ⟨a1, a2, a3⟩
          have a4 := (beg_two hn (by omega)).mp a3
          have a5 := frE_lt a4
          rcases h2 with w | w
          · omega
          · have e : its = 1 := by omega
            exact w ⟨a1, a2, e, by rw [e] at a4; exact a4⟩
  · have e : j = ln := by omega
    subst e
    exact bad_end hA hs (show (3 : Nat) ≠ 1 by decide) (show (3 : Nat) ≠ 4 by decide)
/-- what a place is read to: where the reader stands, whether well, the place -/
def PlaceR (n : Nat) (pd : Nat → Nat) (z0 : RS) (ln k : Nat) (mv : Int64) (us ic fi la : Nat) (is : Nat → Bool) (r : Int32) (j : Nat) (w : Bool) (is2 : Nat → Bool) : Prop := k ≤ j ∧ j ≤ ln ∧ (w = false → fltI n pd z0 ln = nI j) ∧ (w = true → ∃ d, d < n ∧ r = nI d ∧ j < ln ∧ Syn n pd z0 j ∧ rsAt n pd z0 j = (3, mv, us, d, ic, fi, la) ∧ frE n us d = true ∧ (pd j = 44 ∨ pd j = 41) ∧ is2 = uB1 is d true)
theorem plR_no {n : Nat} {pd : Nat → Nat} {z0 : RS} {ln k : Nat} {mv : Int64} {us ic fi la : Nat} {is is2 : Nat → Bool} {r : Int32} {j : Nat} (h1 : k ≤ j) (h2 : j ≤ ln) (h : fltI n pd z0 ln = nI j) : PlaceR n pd z0 ln k mv us ic fi la is r j false is2 := ⟨h1, h2, fun _ => h, fun w => absurd w (by decide)⟩
theorem plR_yes {n : Nat} {pd : Nat → Nat} {z0 : RS} {ln k : Nat} {mv : Int64} {us ic fi la : Nat} {is : Nat → Bool} {j d : Nat} (h1 : k ≤ j) (hs : Syn n pd z0 j) (hA : rsAt n pd z0 j = (3, mv, us, d, ic, fi, la)) (hf : frE n us d = true) (hl : ltr pd ln j = 44 ∨ ltr pd ln j = 41) : PlaceR n pd z0 ln k mv us ic fi la is (nI d) j true (uB1 is d true) := by
  have q : j < ln := ltr_pos (pd := pd) (by omega)
  rw [ltr_in q] at hl
  exact ⟨h1, by omega, fun w => absurd w (by decide), fun _ => ⟨d, frE_lt hf, rfl, q, hs, hA, hf, hl, rfl⟩⟩
/-- whether a place that is left begins with a digit, place by place -/
def cbF (n us d : Nat) : Nat → Bool
  | 0 => frE n us d
  | i + 1 => cbF n us d i || (decide (d = 1 ∧ 10 ≤ i) && frE n us i)
theorem cbF_10 (n us d : Nat) : ∀ i : Nat, i ≤ 10 → cbF n us d i = frE n us d
  | 0, _ => rfl
  | i + 1, h => by
    show (cbF n us d i || _) = _
    rw [cbF_10 n us d i (by omega), decide_eq_false (by omega)]
    simp
theorem cbF_iff (n us d : Nat) : ∀ i : Nat, cbF n us d i = true ↔ frE n us d = true ∨ ∃ p, d = 1 ∧ 10 ≤ p ∧ p < i ∧ frE n us p = true
  | 0 => ⟨fun h => Or.inl h, fun h => h.elim id (fun ⟨p, _, _, hp, _⟩ => absurd hp (Nat.not_lt_zero _))⟩
  | i + 1 => by
    show (cbF n us d i || _) = true ↔ _
    rw [Bool.or_eq_true, cbF_iff n us d i, Bool.and_eq_true, decide_eq_true_eq]
    constructor
    · rintro ((h | ⟨p, h1, h2, h3, h4⟩) | ⟨⟨h1, h2⟩, h3⟩)
      · exact Or.inl h
      · exact Or.inr ⟨p, h1, h2, by omega, h4⟩
      · exact Or.inr ⟨i, h1, h2, by omega, h3⟩
    · rintro (h | ⟨p, h1, h2, h3, h4⟩)
      · exact Or.inl (Or.inl h)
      · rcases Nat.lt_or_ge p i with q | q
        · exact Or.inl (Or.inr ⟨p, h1, h2, q, h4⟩)
        · rw [show p = i by omega] at h2 h4
          exact Or.inr ⟨⟨h1, h2⟩, h4⟩
theorem cbF_end {n us d i : Nat} (hn : n ≤ 16) (hd : d ≤ 9) (hi : n ≤ i) : cbF n us d i = begF n us d := by
  have key : cbF n us d i = true ↔ begF n us d = true := by
    rw [cbF_iff, begF_iff]
    constructor
    · rintro (h | ⟨p, h1, h2, h3, h4⟩)
      · exact ⟨d, frE_lt h, by unfold bgP; rw [h]; simp⟩
      · have h5 := frE_lt h4
        refine ⟨p, h5, ?_⟩
        unfold bgP
        rw [h4, h1]
        have h6 : p / 10 = 1 := by omega
        simp [h6]
    · rintro ⟨p, hp, hb⟩
      unfold bgP at hb
      simp only [Bool.and_eq_true, Bool.or_eq_true, beq_iff_eq, decide_eq_true_eq] at hb
      rcases hb.2 with e | ⟨h0, e⟩
      · left
        rw [← e]
        exact hb.1
      · right
        exact ⟨p, by omega, by omega, by omega, hb.1⟩
  rcases h1 : cbF n us d i with _ | _
  · rcases h2 : begF n us d with _ | _
    · rfl
    · rw [key.mpr h2] at h1
      cases h1
  · exact (key.mp h1).symm
theorem frE_is {n us p : Nat} {is : Nat → Bool} (hp : p < 16) (his : ∀ q, q < 16 → is q = us.testBit q) : frE n us p = true ↔ p < n ∧ ¬ is p = true := by
  unfold frE
  rw [his p hp]
  simp
theorem is_upd {us d : Nat} {is : Nat → Bool} (his : ∀ q, q < 16 → is q = us.testBit q) : ∀ q, q < 16 → uB1 is d true q = (us ||| 2 ^ d).testBit q := by
  intro q hq
  rw [fb_bit_set]
  unfold uB1
  by_cases e : q = d
  · rw [if_pos e, decide_eq_true e, Bool.or_true]
  · rw [if_neg e, decide_eq_false e, Bool.or_false]
    exact his q hq
/-- a cycle that is read -/
def CycR (n : Nat) (pd : Nat → Nat) (z0 : RS) (ln k j : Nat) (w : Bool) (is2 : Nat → Bool) (t2 : Nat → Nat) : Prop := k ≤ j ∧ j ≤ ln ∧ (w = false → fltI n pd z0 ln = nI j) ∧ (w = true → k < j ∧ Syn n pd z0 j ∧ ∃ mv us dg ic fi la, rsAt n pd z0 j = (4, mv, us, dg, ic, fi, la) ∧ (∀ p, p < 16 → t2 p = nb mv p) ∧ ∀ p, p < 16 → is2 p = us.testBit p)
theorem cyR_no {n : Nat} {pd : Nat → Nat} {z0 : RS} {ln k j : Nat} {is2 : Nat → Bool} {t2 : Nat → Nat} (h1 : k ≤ j) (h2 : j ≤ ln) (h : fltI n pd z0 ln = nI j) : CycR n pd z0 ln k j false is2 t2 := ⟨h1, h2, fun _ => h, fun w => absurd w (by decide)⟩
theorem cy_open {n : Nat} {pd : Nat → Nat} {z0 : RS} {k ln st : Nat} {mv : Int64} {us dg ic fi la : Nat} (hA : rsAt n pd z0 k = (st, mv, us, dg, ic, fi, la)) (hs : Syn n pd z0 k) (hst : (st = 0 ∧ ltr pd ln k ≠ 101) ∨ (st = 4 ∧ k < ln)) (h : ltr pd ln k = 40) : k < ln ∧ Syn n pd z0 (k + 1) ∧ rsAt n pd z0 (k + 1) = (2, mv, us, dg, 0, fi, la) := by
  have q : k < ln := ltr_pos (pd := pd) (by omega)
  rw [ltr_in q] at h hst
  refine ⟨q, go hA hs ?_⟩
  rcases hst with ⟨e, h2⟩ | ⟨e, _⟩
  · subst e
    rw [stp0 h2, h, opn_t]
  · subst e
    rw [stp4, h, opn_t]
theorem cy_none {n : Nat} {pd : Nat → Nat} {z0 : RS} {k ln st : Nat} {mv : Int64} {us dg ic fi la : Nat} (hk : k ≤ ln) (hA : rsAt n pd z0 k = (st, mv, us, dg, ic, fi, la)) (hs : Syn n pd z0 k) (hst : (st = 0 ∧ ltr pd ln k ≠ 101) ∨ (st = 4 ∧ k < ln)) (h : ltr pd ln k ≠ 40) : fltI n pd z0 ln = nI k := by
  rcases Nat.lt_or_ge k ln with q | q
  · rw [ltr_in q] at h hst
    refine bad_at q hA hs ?_
    rcases hst with ⟨e, h2⟩ | ⟨e, _⟩
    · subst e
      rw [stp0 h2, opn_f h]
    · subst e
      rw [stp4, opn_f h]
  · have e : k = ln := by omega
    subst e
    rcases hst with ⟨e, _⟩ | ⟨_, e⟩
    · subst e
      exact bad_end hA hs (show (0 : Nat) ≠ 1 by decide) (show (0 : Nat) ≠ 4 by decide)
    · omega
/-- the loop over the places of a cycle: a the first one, b the last one -/
def LoopI (n : Nat) (pd : Nat → Nat) (z0 : RS) (ln a j b : Nat) (t : Nat → Nat) (is : Nat → Bool) : Prop := j < ln ∧ Syn n pd z0 j ∧ (pd j = 44 ∨ pd j = 41) ∧ ∃ mv us ic fi la, rsAt n pd z0 j = (3, mv, us, b, ic, fi, la) ∧ frE n us b = true ∧ endI ic fi b = a ∧ (∀ p, p < 16 → t p = nb (endM mv ic la b) p) ∧ (∀ p, p < 16 → is p = (us ||| 2 ^ b).testBit p) ∧ (ic = 0 → pd j = 44)
theorem lp_first {n : Nat} {pd : Nat → Nat} {z0 : RS} {ln j d : Nat} {mv : Int64} {us fi la : Nat} {is : Nat → Bool} {t : Nat → Nat} (hj : j < ln) (hs : Syn n pd z0 j) (hA : rsAt n pd z0 j = (3, mv, us, d, 0, fi, la)) (hf : frE n us d = true) (h : ltr pd ln j = 44) (ht : ∀ p, p < 16 → t p = nb mv p) (his : ∀ p, p < 16 → is p = us.testBit p) : LoopI n pd z0 ln d j d t (uB1 is d true) := by
  rw [ltr_in hj] at h
  exact ⟨hj, hs, Or.inl h, mv, us, 0, fi, la, hA, hf, rfl, ht, is_upd his, fun _ => h⟩
theorem lp_bad {n : Nat} {pd : Nat → Nat} {z0 : RS} {ln j d : Nat} {mv : Int64} {us fi la : Nat} (hj : j < ln) (hs : Syn n pd z0 j) (hA : rsAt n pd z0 j = (3, mv, us, d, 0, fi, la)) (h : pd j = 44 ∨ pd j = 41) (h2 : ltr pd ln j ≠ 44) : fltI n pd z0 ln = nI j := by
  rw [ltr_in hj] at h2
  refine bad_at hj hA hs ?_
  have e : pd j = 41 := by omega
  rw [stp3, e, inp41f (fun w => absurd w.1 (by decide))]
theorem lp_comma {n : Nat} {pd : Nat → Nat} {z0 : RS} {ln a j b : Nat} {t : Nat → Nat} {is : Nat → Bool} (h : LoopI n pd z0 ln a j b t is) (hc : ltr pd ln j = 44) : Syn n pd z0 (j + 1) ∧ ∃ mv us ic, 0 < ic ∧ rsAt n pd z0 (j + 1) = (2, mv, us, b, ic, a, b) ∧ (∀ p, p < 16 → t p = nb mv p) ∧ ∀ p, p < 16 → is p = us.testBit p := by
  obtain ⟨hj, hs, _, mv, us, ic, fi, la, hA, hf, ha, ht, his, _⟩ := h
  rw [ltr_in hj] at hc
  have g := go hA hs (s2 := (2, endM mv ic la b, us ||| 2 ^ b, b, ic + 1, endI ic fi b, b)) (by rw [stp3, hc, inp44, endR_t hf])
  rw [ha] at g
  exact ⟨g.1, endM mv ic la b, us ||| 2 ^ b, ic + 1, by omega, g.2, ht, his⟩
theorem lp_next {n : Nat} {pd : Nat → Nat} {z0 : RS} {ln a j b d : Nat} {mv : Int64} {us ic : Nat} {t : Nat → Nat} {is : Nat → Bool} (hn : n ≤ 16) (h0 : 0 < ic) (hj : j < ln) (hs : Syn n pd z0 j) (hA : rsAt n pd z0 j = (3, mv, us, d, ic, a, b)) (hf : frE n us d = true) (hc : pd j = 44 ∨ pd j = 41) (ht : ∀ p, p < 16 → t p = nb mv p) (his : ∀ p, p < 16 → is p = us.testBit p) : LoopI n pd z0 ln a j d (uN1 t b d) (uB1 is d true) := by
  have hd := frE_lt hf
  refine ⟨hj, hs, hc, mv, us, ic, a, b, hA, hf, if_neg (by omega), fun p hp => ?_, is_upd his, fun w => by omega⟩
  have e : endM mv ic b d = wN mv b d := if_neg (by omega)
  rw [e, nb_wN mv hp (by omega)]
  unfold uN1
  split
  · rfl
  · exact ht p hp
theorem lp_close {n : Nat} {pd : Nat → Nat} {z0 : RS} {ln a j b k : Nat} {t : Nat → Nat} {is : Nat → Bool} (hn : n ≤ 16) (ha : a < 16) (hk : k ≤ j) (h : LoopI n pd z0 ln a j b t is) (hc : ltr pd ln j ≠ 44) : ltr pd ln j = 41 ∧ CycR n pd z0 ln k (j + 1) true is (uN1 t b a) := by
  obtain ⟨hj, hs, hc2, mv, us, ic, fi, la, hA, hf, he, ht, his, h0⟩ := h
  rw [ltr_in hj] at hc ⊢
  have e41 : pd j = 41 := by omega
  have hic : 0 < ic := by
    rcases Nat.eq_zero_or_pos ic with q | q
    · exact absurd (h0 q) hc
    · exact q
  have g := go hA hs (s2 := (4, wN (endM mv ic la b) b (endI ic fi b), us ||| 2 ^ b, b, ic + 1, endI ic fi b, b)) (by rw [stp3, e41, inp41t ⟨hic, hf⟩])
  rw [he] at g
  refine ⟨e41, by omega, by omega, fun w => absurd w (by decide), fun _ => ⟨by omega, g.1, _, _, _, _, _, _, g.2, fun p hp => ?_, his⟩⟩
  rw [nb_wN _ hp ha]
  unfold uN1
  split
  · rfl
  · exact ht p hp
theorem lp_fst {n : Nat} {pd : Nat → Nat} {z0 : RS} {ln a j b : Nat} {t : Nat → Nat} {is : Nat → Bool} (h : LoopI n pd z0 ln a j b t is) : j < ln := h.1
/-- 'e' alone -/
theorem fl_e {n : Nat} {pd : Nat → Nat} {z0 : RS} {ln : Nat} (h0 : z0.1 = 0) (h : ltr pd ln 0 = 101) : 0 < ln ∧ Syn n pd z0 1 ∧ rsAt n pd z0 1 = (1, z0.2) := by
  have q : 0 < ln := ltr_pos (pd := pd) (by omega)
  rw [ltr_in q] at h
  obtain ⟨st, mv, us, dg, ic, fi, la⟩ := z0
  have h0 : st = 0 := h0
  subst h0
  exact ⟨q, go (n := n) (pd := pd) (z0 := (0, mv, us, dg, ic, fi, la)) (i := 0) rfl (fun j hj => absurd hj (Nat.not_lt_zero _)) (by rw [h]; exact step0e)⟩
theorem fl_e1 {n : Nat} {pd : Nat → Nat} {z0 : RS} {ln : Nat} (h0 : z0.1 = 0) (h : ltr pd ln 0 = 101) (h1 : ln = 1) : fltI n pd z0 ln = -6 ∧ (rsAt n pd z0 ln).2.1 = z0.2.1 := by
  obtain ⟨_, h2, h3⟩ := fl_e (n := n) h0 h
  subst h1
  exact ⟨good_end h3 h2 (Or.inl rfl), by rw [h3]⟩
theorem fl_e2 {n : Nat} {pd : Nat → Nat} {z0 : RS} {ln : Nat} (h0 : z0.1 = 0) (h : ltr pd ln 0 = 101) (h1 : ln ≠ 1) : fltI n pd z0 ln = nI 1 := by
  obtain ⟨h4, h2, h3⟩ := fl_e (n := n) h0 h
  exact bad_at (by omega) h3 h2 rfl
theorem fl_cyc {n : Nat} {pd : Nat → Nat} {z0 : RS} {ln k : Nat} {is2 : Nat → Bool} {t2 : Nat → Nat} (h : CycR n pd z0 ln k ln true is2 t2) : fltI n pd z0 ln = -6 ∧ ∀ p, p < 16 → t2 p = nb (rsAt n pd z0 ln).2.1 p := by
  obtain ⟨_, _, _, h4⟩ := h
  obtain ⟨_, hs, mv, us, dg, ic, fi, la, hA, ht, _⟩ := h4 rfl
  exact ⟨good_end hA hs (Or.inr rfl), by rw [hA]; exact ht⟩
theorem cb_t1 {n us d i : Nat} (h : cbF n us d i = true) : cbF n us d (i + 1) = true := by
  show (cbF n us d i || _) = true
  rw [h]
  rfl
theorem cb_t2 {n us d i : Nat} (h1 : d = 1) (h2 : 10 ≤ i) (h3 : frE n us i = true) : cbF n us d (i + 1) = true := (cbF_iff n us d (i + 1)).mpr (Or.inr ⟨i, h1, h2, by omega, h3⟩)
theorem cb_f1 {n us d i : Nat} (h : ¬ cbF n us d i = true) (h1 : d ≠ 1) : ¬ cbF n us d (i + 1) = true := by
  show ¬ (cbF n us d i || _) = true
  rw [Bool.eq_false_iff.mpr h, decide_eq_false (fun w => h1 w.1)]
  simp
theorem cb_f2 {n us d i : Nat} (h : ¬ cbF n us d i = true) (h3 : ¬ frE n us i = true) : ¬ cbF n us d (i + 1) = true := by
  show ¬ (cbF n us d i || _) = true
  rw [Bool.eq_false_iff.mpr h, Bool.eq_false_iff.mpr h3]
  simp

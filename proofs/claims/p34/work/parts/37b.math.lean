/-! what the law asks of marks, in numbers -/
def loN (v : Int32) (n : Nat) : Nat := v.toBitVec.toNat % 2 ^ 31 % n
theorem loN_lt (v : Int32) {n : Nat} (h : 0 < n) : loN v n < n := Nat.mod_lt _ h
theorem and_k (v : Int32) (k : Nat) : v &&& nI (2 ^ k - 1) = nI (v.toBitVec.toNat % 2 ^ k) := by
  obtain ⟨n, hn, rfl⟩ := wb_of32 v
  rw [fa_and, Nat.and_two_pow_sub_one_eq_mod, pk_tn hn]
def a15 (v : Int32) : Nat := v.toBitVec.toNat % 2 ^ 4
def a3 (v : Int32) : Nat := v.toBitVec.toNat % 2 ^ 2
theorem a15_lt (v : Int32) : a15 v < 16 := Nat.mod_lt _ (by decide)
theorem a3_lt (v : Int32) : a3 v < 4 := Nat.mod_lt _ (by decide)
theorem and_15 (v : Int32) : v &&& nI 15 = nI (a15 v) := and_k v 4
theorem and_3 (v : Int32) : v &&& nI 3 = nI (a3 v) := and_k v 2
theorem and_lo (v : Int32) : v &&& nI 2147483647 = nI (v.toBitVec.toNat % 2 ^ 31) := and_k v 31
/-! how many marks commute, in numbers; orders -/
def cinN (a L : Nat) : Nat → Nat
  | 0 => a
  | i + 1 => cinN a L i * L * (i + 1)
def coutN (c : Nat → Nat) : Nat → Nat
  | 0 => 1
  | i + 1 => if i = 0 then 1 else cinN (coutN c i) i (c i)
theorem cinN_l (a L : Nat) : ∀ i : Nat, cinL (lN a) L i = lN (cinN a L i)
  | 0 => rfl
  | i + 1 => by
    show cinL (lN a) L i * lN L * lN (i + 1) = lN (cinN a L i * L * (i + 1))
    rw [cinN_l a L i, lN_mul, lN_mul]
theorem coutN_l (c : Nat → Nat) : ∀ i : Nat, coutL c i = lN (coutN c i)
  | 0 => rfl
  | i + 1 => by
    show (if i = 0 then lN 1 else cinL (coutL c i) i (c i)) = lN (if i = 0 then 1 else cinN (coutN c i) i (c i))
    by_cases h : i = 0
    · rw [if_pos h, if_pos h]
    · rw [if_neg h, if_neg h, coutN_l c i, cinN_l]
def prC : Nat → Nat → Nat → Nat → Nat → Bool
  | 0, _, C, o, _ => Nat.ble o 140 && (Nat.ble o C && Nat.ble C (2 ^ 62))
  | k + 1, i, C, o, b => prC k (i + 1) C o b && (if i = 0 then true else chkA (fun j => prC k (i + 1) (cinN C i (j + 1)) (Nat.lcm o i) (b - i * (j + 1))) (b / i))
theorem prC_ok : prC 17 0 1 1 16 = true := by decide +kernel
theorem prC_le {c : Nat → Nat} : ∀ k i b : Nat, prC k i (coutN c i) (ordF c i) b = true → wsm c k i ≤ b → ordF c (i + k) ≤ 140 ∧ ordF c (i + k) ≤ coutN c (i + k) ∧ coutN c (i + k) ≤ 2 ^ 62
  | 0, i, b, h, _ => by
    have h1 : (Nat.ble (ordF c i) 140 && (Nat.ble (ordF c i) (coutN c i) && Nat.ble (coutN c i) (2 ^ 62))) = true := h
    rw [Bool.and_eq_true, Bool.and_eq_true] at h1
    exact ⟨Nat.le_of_ble_eq_true h1.1, Nat.le_of_ble_eq_true h1.2.1, Nat.le_of_ble_eq_true h1.2.2⟩
  | k + 1, i, b, h, hw => by
    have h1 : (prC k (i + 1) (coutN c i) (ordF c i) b && (if i = 0 then true else chkA (fun j => prC k (i + 1) (cinN (coutN c i) i (j + 1)) (Nat.lcm (ordF c i) i) (b - i * (j + 1))) (b / i))) = true := h
    have hw1 : i * c i + wsm c k (i + 1) ≤ b := hw
    rw [Bool.and_eq_true] at h1
    rw [show i + (k + 1) = i + 1 + k by omega]
    by_cases q : 0 < i ∧ 0 < c i
    · have h3 := h1.2
      rw [if_neg (by omega)] at h3
      have h4 : i * c i ≤ b := by omega
      have h5 : c i ≤ b / i := (Nat.le_div_iff_mul_le q.1).mpr (by rw [Nat.mul_comm]; exact h4)
      have h6 : prC k (i + 1) (cinN (coutN c i) i (c i - 1 + 1)) (Nat.lcm (ordF c i) i) (b - i * (c i - 1 + 1)) = true := chkA_of h3 (c i - 1) (by omega)
      have e1 : c i - 1 + 1 = c i := by omega
      have e2 : coutN c (i + 1) = cinN (coutN c i) i (c i) := if_neg (by omega)
      rw [e1, ← ordF_yes q.1 q.2, ← e2] at h6
      exact prC_le k (i + 1) (b - i * c i) h6 (by omega)
    · have e : ordF c (i + 1) = ordF c i := if_neg q
      have e2 : coutN c (i + 1) = coutN c i := by
        show (if i = 0 then 1 else cinN (coutN c i) i (c i)) = coutN c i
        by_cases z : i = 0
        · rw [if_pos z, z]
          rfl
        · rw [if_neg z, show c i = 0 by omega]
          rfl
      have h3 := h1.1
      rw [← e, ← e2] at h3
      exact prC_le k (i + 1) b h3 (by omega)
theorem ord_num {n : Nat} {x : Int64} (hx : WF n x) (hn : n ≤ 16) : ordF (cnt x n) 17 ≤ 140 ∧ ordF (cnt x n) 17 ≤ coutN (cnt x n) 17 ∧ coutN (cnt x n) 17 ≤ 2 ^ 62 := by
  obtain ⟨b, _, hb⟩ := wsm_seen hx.1 n hn
  have h1 := fb_ct_le b 16
  have h2 := prC_le (c := cnt x n) 17 0 16 prC_ok (by omega)
  rw [show 0 + 17 = 17 from rfl] at h2
  exact h2
/-! powers -/
theorem cl_dvd {n : Nat} {x : Int64} (hx : WF n x) (hn : n ≤ 16) {p : Nat} (hp : p < n) : cl (nb x) p ∣ ordF (cnt x n) 17 := by
  obtain ⟨r, hr, hl, hc⟩ := inC_least hx.1 17 p (by omega) (by omega)
  have e := cl_same hx.1 (show r < 16 by omega) hc
  have h1 : 0 < cnt x n (cl (nb x) r) := by
    unfold cnt
    exact fb_ct_pos.mpr ⟨r, by omega, by rw [hl]; simp⟩
  rw [e]
  exact ordF_has (cl_pos (nb x) r) h1 17 (by have := cl_le (nb x) r; omega)
theorem pw_1 (x : Int64) (p : Nat) : pw x 1 p = nb x p := by
  unfold pw
  rw [if_pos (show (0 : Int) ≤ 1 by decide)]
  rfl
theorem pw_ord {n : Nat} {x : Int64} (hx : WF n x) (hn : n ≤ 16) {p : Nat} (hp : p < n) : pw x ((ordF (cnt x n) 17 : Nat) : Int) p = p := by
  unfold pw
  rw [if_pos (Int.natCast_nonneg _), Int.toNat_natCast]
  exact ord_it hx hn (by omega)
theorem pw_back {x : Int64} (h : P16 (nb x)) {p : Nat} (hp : p < 16) (b : Int) : pw x (-b) (pw x b p) = p := by
  unfold pw
  rcases Int.lt_trichotomy b 0 with q | q | q
  · rw [if_neg (show ¬ (0 ≤ b) by omega), if_pos (show 0 ≤ -b by omega)]
    exact it_forth h hp
  · subst q
    rfl
  · rw [if_pos (show 0 ≤ b by omega), if_neg (show ¬ (0 ≤ -b) by omega), Int.neg_neg]
    exact it_back h hp
theorem pw_turn {n : Nat} {x : Int64} (hx : WF n x) (hn : n ≤ 16) {p : Nat} (hp : p < n) (b : Int) : pw x (b + ((ordF (cnt x n) 17 : Nat) : Int)) p = pw x b p := by
  have hp16 : p < 16 := by omega
  obtain ⟨k, hk⟩ := cl_dvd hx hn hp
  have e : (b + ((ordF (cnt x n) 17 : Nat) : Int)) % ((cl (nb x) p : Nat) : Int) = b % ((cl (nb x) p : Nat) : Int) := by
    rw [hk, Int.natCast_mul, Int.add_mul_emod_self_left]
  rw [← pw_mod hx.1 hp16 (b + ((ordF (cnt x n) 17 : Nat) : Int)), ← pw_mod hx.1 hp16 b, e]
theorem pw_ltn {n : Nat} {x : Int64} (hx : WF n x) (hn : n ≤ 16) {p : Nat} (hp : p < n) (b : Int) : pw x b p < n := by
  unfold pw
  split
  · exact it_lt (fun q hq => hx.lt hq hn) hp
  · exact it_lt (fun q hq => hx.frLt hq hn) hp
/-! what the asking calls answer -/
theorem bMT_6 (m : MT) : bMT m (-6) = true := by
  unfold bMT
  rw [decide_eq_true (show (-6 : Int32).toInt = -6 from rfl)]
  rfl
theorem bMT_M {m : MT} {a : Int32} (h : bM m a = true) : bMT m a = true := by
  unfold bMT
  rw [h, Bool.or_true]
theorem bP_n {m : MT} (hn : mN m ≤ 16) {p : Nat} (hp : p < mN m) : bP m (nI p) = true := bP_iff.mpr (by rw [nI_toInt (by omega)]; omega)
theorem bM_n {m : MT} (hn : mC m ≤ 6) {p : Nat} (hp : p < mC m) : bM m (nI p) = true := bM_iff.mpr (by rw [nI_toInt (by omega)]; omega)
theorem qImage_v {m : MT} (hn : mN m ≤ 16) {a z : Int32} {p : Nat} (ha : bMT m a = true) (hp : p < mN m) (hz : -999 ≤ z.toInt ∧ z.toInt ≤ 999) : qImage m a z (nI p) = nI (pw (mkT m a) z.toInt p) := by
  unfold qImage
  rw [if_pos ⟨ha, bP_n hn hp⟩, if_pos (bZ_iff.mpr hz), ix_nI (by omega)]
theorem qImage_1 {m : MT} (hn : mN m ≤ 16) {a : Int32} {p : Nat} (ha : bMT m a = true) (hp : p < mN m) : qImage m a (nI 1) (nI p) = nI (nb (mkT m a) p) := by
  rw [qImage_v hn ha hp (by rw [show (nI 1).toInt = 1 from rfl]; omega), show (nI 1).toInt = 1 from rfl, pw_1]
theorem qAt_v {m : MT} (hn : mN m ≤ 16) {p : Nat} (hp : p < mN m) : qAt m (nI p) = nI (fr (mP m) p) := by
  unfold qAt
  rw [if_pos (bP_n hn hp), ix_nI (by omega)]
theorem qWhere_v {m : MT} (hn : mN m ≤ 16) {p : Nat} (hp : p < mN m) : qWhere m (nI p) = nI (nb (mP m) p) := by
  unfold qWhere
  rw [if_pos (bP_n hn hp), ix_nI (by omega)]
theorem nI_t (k : Nat) (h : k < 2 ^ 31) : (nI k).toInt = (k : Int) := nI_toInt h
theorem qC0 (m : MT) (pl : Nat) : qCount m pl (nI 0) = nI (mN m) := if_pos (show (nI 0).toInt = 0 from rfl)
theorem qC1 (m : MT) (pl : Nat) : qCount m pl (nI 1) = nI (mC m) := by
  unfold qCount
  rw [if_neg (show ¬ (nI 1).toInt = 0 by decide), if_pos (show (nI 1).toInt = 1 from rfl)]
theorem qC2 (m : MT) (pl : Nat) : qCount m pl (nI 2) = nI (fixM (mP m) (mN m)) := by
  unfold qCount
  rw [if_neg (show ¬ (nI 2).toInt = 0 by decide), if_neg (show ¬ (nI 2).toInt = 1 by decide), if_pos (show (nI 2).toInt = 2 from rfl)]
theorem qC3 (m : MT) (pl : Nat) : qCount m pl (nI 3) = if mP m = stayL then nI 1 else nI 0 := by
  unfold qCount
  rw [if_neg (show ¬ (nI 3).toInt = 0 by decide), if_neg (show ¬ (nI 3).toInt = 1 by decide), if_neg (show ¬ (nI 3).toInt = 2 by decide), if_pos (show (nI 3).toInt = 3 from rfl)]
theorem qC4 (m : MT) (pl : Nat) : qCount m pl (nI 4) = nI (movedN m) := by
  unfold qCount
  rw [if_neg (show ¬ (nI 4).toInt = 0 by decide), if_neg (show ¬ (nI 4).toInt = 1 by decide), if_neg (show ¬ (nI 4).toInt = 2 by decide), if_neg (show ¬ (nI 4).toInt = 3 by decide), if_pos (show (nI 4).toInt = 4 from rfl)]
theorem qC6 (m : MT) (pl : Nat) : qCount m pl (nI 6) = nI (mU m) := by
  unfold qCount
  rw [if_neg (show ¬ (nI 6).toInt = 0 by decide), if_neg (show ¬ (nI 6).toInt = 1 by decide), if_neg (show ¬ (nI 6).toInt = 2 by decide), if_neg (show ¬ (nI 6).toInt = 3 by decide), if_neg (show ¬ (nI 6).toInt = 4 by decide), if_neg (show ¬ (nI 6).toInt = 5 by decide), if_pos (show (nI 6).toInt = 6 from rfl)]
theorem qOf_0 {m : MT} {a : Int32} (ha : bMT m a = true) : qOf m a (nI 0) = nI (ordF (cnt (mkT m a) (mN m)) 17) := by
  unfold qOf
  rw [if_pos ha, if_pos (show (nI 0).toInt = 0 from rfl)]
theorem qOf_5 {m : MT} {a : Int32} (ha : bMT m a = true) : qOf m a (nI 5) = nI (cutM (mkT m a) (mN m) (mN m)) := by
  unfold qOf
  rw [if_pos ha, if_neg (show ¬ (nI 5).toInt = 0 by decide), if_neg (show ¬ (nI 5).toInt = 1 by decide), if_neg (show ¬ (nI 5).toInt = 2 by decide), if_neg (show ¬ (nI 5).toInt = 3 by decide), if_neg (show ¬ (nI 5).toInt = 4 by decide), if_pos (show (nI 5).toInt = 5 from rfl)]
theorem qCommuting_v {m : MT} {a : Int32} (ha : bMT m a = true) : qCommuting m a = lN (coutN (cnt (mkT m a) (mN m)) 17) := by
  unfold qCommuting
  rw [if_pos ha, coutN_l]
theorem qCommute_comm (m : MT) (a b : Int32) : qCommute m a b = qCommute m b a := by
  unfold qCommute
  by_cases ha : bMT m a = true
  · by_cases hb : bMT m b = true
    · rw [if_pos (show bMT m a = true ∧ bMT m b = true from ⟨ha, hb⟩), if_pos (show bMT m b = true ∧ bMT m a = true from ⟨hb, ha⟩)]
      by_cases e : thenL (mkT m a) (mkT m b) = thenL (mkT m b) (mkT m a)
      · rw [if_pos e, if_pos e.symm]
      · rw [if_neg e, if_neg (fun q => e q.symm)]
    · rw [if_neg (show ¬ (bMT m a = true ∧ bMT m b = true) from fun q => hb q.2), if_neg (show ¬ (bMT m b = true ∧ bMT m a = true) from fun q => hb q.1)]
  · rw [if_neg (show ¬ (bMT m a = true ∧ bMT m b = true) from fun q => ha q.1), if_neg (show ¬ (bMT m b = true ∧ bMT m a = true) from fun q => ha q.2)]
theorem qCommute_self {m : MT} {a : Int32} (ha : bMT m a = true) : qCommute m a a = nI 1 := by
  unfold qCommute
  rw [if_pos ⟨ha, ha⟩, if_pos rfl]
  rfl
theorem qByCut_v {m : MT} (hn : mN m ≤ 16) {a : Int32} {k p : Nat} (ha : bM m a = true) (hk : k < mN m) (hp : p < mN m) : qByCut m a (nI k) (nI p) = nI (nb (becL (mkT m a) k (mN m)) p) := by
  have h6 : ¬ a.toInt = -6 := by have := bM_iff.mp ha; omega
  have e : mkT m a = mM m (ix a) := if_neg h6
  unfold qByCut
  rw [if_pos ⟨ha, bP_n hn hp⟩, if_pos (bP_n hn hk), ix_nI (by omega), ix_nI (by omega), e]
/-! cuts by which a mark stays -/
def kpF (x : Int64) (c n q : Nat) : Bool := nb (becL x c n) q == nb x q
theorem kp_iff {x : Int64} {c n : Nat} (hw : WF n x) (hn : n ≤ 16) (hc : c < n) : chkA (kpF x c n) n = true ↔ becL x c n = x := by
  constructor
  · intro h
    refine nb_ext (fun q hq => ?_)
    rcases Nat.lt_or_ge q n with w | w
    · have h1 := chkA_of (f := kpF x c n) h q w
      simpa [kpF] using h1
    · rw [nb_bec hw hn hc hq, if_neg (by omega), hw.2 q w hq]
  · intro h
    refine chkA_mk (fun q _ => ?_)
    unfold kpF
    rw [h]
    simp
theorem cut_bit (x : Int64) {n c : Nat} (hc : c < n) : (cutM x n n).testBit c = decide (becL x c n = x) := by
  unfold cutM
  rw [bm_bit, decide_eq_true hc, Bool.true_and]
theorem cutM_lt (x : Int64) {n : Nat} (hn : n ≤ 16) : cutM x n n < 65536 := Nat.lt_of_lt_of_le (bm_lt _ n) (Nat.pow_le_pow_right (n := 2) (by decide) hn)
theorem invc {n c : Nat} (hc : c < n) : (n - c) % n = if c = 0 then 0 else n - c := by
  by_cases z : c = 0
  · rw [if_pos z, z, Nat.sub_zero, Nat.mod_self]
  · rw [if_neg z]
    exact Nat.mod_eq_of_lt (by omega)
theorem cutJ {n c q : Nat} (hc : c < n) (hq : q < n) : cuI ((n - c) % n) n q = cutF c n q := by
  rw [invc hc]
  unfold cuI cutF
  by_cases z : c = 0
  · rw [if_pos z]
    split <;> split <;> omega
  · rw [if_neg z]
    split <;> split <;> omega
theorem cutK {n c z : Nat} (hc : c < n) (hz : z < n) : cutF ((n - c) % n) n z = cuI c n z := by
  rw [invc hc]
  unfold cuI cutF
  by_cases w : c = 0
  · rw [if_pos w]
    split <;> split <;> omega
  · rw [if_neg w]
    split <;> split <;> omega
theorem bec_inv {x : Int64} {n c : Nat} (hw : WF n x) (hn : n ≤ 16) (hc : c < n) (h : becL x c n = x) : becL x ((n - c) % n) n = x := by
  refine nb_ext (fun q hq => ?_)
  rw [nb_bec hw hn (Nat.mod_lt _ (by omega)) hq]
  by_cases w : q < n
  · have h1 := cutF_lt (Nat.le_of_lt hc) w
    have h2 := hw.lt w hn
    have h3 := nb_bec hw hn hc (show cutF c n q < 16 by omega)
    rw [h, if_pos h1, cuI_cutF hc w] at h3
    rw [if_pos w, cutJ hc w, h3, cutK hc (cutF_lt (Nat.le_of_lt hc) h2), cuI_cutF hc h2]
  · rw [if_neg w, hw.2 q (by omega) hq]
theorem bec_0c {x : Int64} {n : Nat} (hw : WF n x) (hn : n ≤ 16) (h0 : 0 < n) : becL x 0 n = x := by
  refine nb_ext (fun q hq => ?_)
  rw [nb_bec hw hn h0 hq]
  by_cases w : q < n
  · rw [if_pos w]
    have e : ∀ z, z < n → cuI 0 n z = z := fun z hz => by unfold cuI; rw [if_pos (by omega)]; rfl
    have e2 : ∀ z, cutF 0 n z = z := fun z => by unfold cutF; rw [if_neg (by omega)]; rfl
    rw [e q w, e2]
  · rw [if_neg w, hw.2 q (by omega) hq]
/-! the cards of a deck; whether it is in order -/
def crd (P : Int64) : Nat → Nat
  | 0 => 0
  | i + 1 => crd P i ||| 2 ^ fr P i
theorem crd_bit (P : Int64) (k : Nat) : ∀ i : Nat, (crd P i).testBit k = true ↔ ∃ q, q < i ∧ fr P q = k
  | 0 => by
    show (0 : Nat).testBit k = true ↔ _
    rw [Nat.zero_testBit]
    exact ⟨fun h => (by cases h), fun ⟨q, hq, _⟩ => absurd hq (Nat.not_lt_zero q)⟩
  | i + 1 => by
    show (crd P i ||| 2 ^ fr P i).testBit k = true ↔ _
    rw [fb_bit_set, Bool.or_eq_true, crd_bit P k i, decide_eq_true_eq]
    constructor
    · rintro (⟨q, hq, e⟩ | e)
      · exact ⟨q, by omega, e⟩
      · exact ⟨i, by omega, e.symm⟩
    · rintro ⟨q, hq, e⟩
      rcases Nat.lt_or_ge q i with w | w
      · exact Or.inl ⟨q, w, e⟩
      · exact Or.inr (by rw [← e, show q = i by omega])
theorem crd_all {P : Int64} {n : Nat} (hw : WF n P) (hn : n ≤ 16) : crd P n = 2 ^ n - 1 := by
  apply Nat.eq_of_testBit_eq
  intro k
  rw [Nat.testBit_two_pow_sub_one]
  apply Bool.eq_iff_iff.mpr
  rw [crd_bit, decide_eq_true_eq]
  constructor
  · rintro ⟨q, hq, e⟩
    rw [← e]
    exact hw.frLt hq hn
  · intro hk
    exact ⟨nb P k, hw.lt hk hn, fr_nb hw.1 (by omega)⟩
theorem fix_all {P : Int64} {n : Nat} (hw : WF n P) (hn : n ≤ 16) : fixM P n = 2 ^ n - 1 ↔ P = stayL := by
  constructor
  · intro h
    refine nb_ext (fun q hq => ?_)
    rw [nb_stay hq]
    rcases Nat.lt_or_ge q n with w | w
    · have h1 : (fixM P n).testBit q = true := by
        rw [h, Nat.testBit_two_pow_sub_one]
        exact decide_eq_true w
      unfold fixM at h1
      rw [bm_bit, decide_eq_true w, Bool.true_and] at h1
      exact of_decide_eq_true (by simpa using h1)
    · exact hw.2 q w hq
  · intro h
    apply Nat.eq_of_testBit_eq
    intro k
    unfold fixM
    rw [bm_bit, Nat.testBit_two_pow_sub_one]
    by_cases hk : k < n
    · rw [h, nb_stay (by omega)]
      simp
    · simp [hk]
theorem pow_16 {n : Nat} (hn : n ≤ 16) : 2 ^ n ≤ 65536 := Nat.pow_le_pow_right (n := 2) (by decide) hn
def spZ (n S : Nat) : Bool := decide ((FP.ddiv (FP.i2d (nI S)) (FP.i2d (nI n))).toInt64 = lN 0) == decide (S = 0)
theorem spZ_2 : chkA (spZ 2) 3 = true := by decide +kernel
theorem spZ_3 : chkA (spZ 3) 7 = true := by decide +kernel
theorem spZ_4 : chkA (spZ 4) 13 = true := by decide +kernel
theorem spZ_5 : chkA (spZ 5) 21 = true := by decide +kernel
theorem spZ_6 : chkA (spZ 6) 31 = true := by decide +kernel
theorem spZ_7 : chkA (spZ 7) 43 = true := by decide +kernel
theorem spZ_8 : chkA (spZ 8) 57 = true := by decide +kernel
theorem spZ_9 : chkA (spZ 9) 73 = true := by decide +kernel
theorem spZ_10 : chkA (spZ 10) 91 = true := by decide +kernel
theorem spZ_11 : chkA (spZ 11) 111 = true := by decide +kernel
theorem spZ_12 : chkA (spZ 12) 133 = true := by decide +kernel
theorem spZ_13 : chkA (spZ 13) 157 = true := by decide +kernel
theorem spZ_14 : chkA (spZ 14) 183 = true := by decide +kernel
theorem spZ_15 : chkA (spZ 15) 211 = true := by decide +kernel
theorem spZ_16 : chkA (spZ 16) 241 = true := by decide +kernel
theorem spZ_all {n S : Nat} (h2 : 2 ≤ n) (hn : n ≤ 16) (hS : S ≤ n * (n - 1)) : spZ n S = true := by
  have key : ∀ m, chkA (spZ m) (m * (m - 1) + 1) = true → S ≤ m * (m - 1) → spZ m S = true := fun m h hs => chkA_of h S (by omega)
  rcases (show n = 2 ∨ n = 3 ∨ n = 4 ∨ n = 5 ∨ n = 6 ∨ n = 7 ∨ n = 8 ∨ n = 9 ∨ n = 10 ∨ n = 11 ∨ n = 12 ∨ n = 13 ∨ n = 14 ∨ n = 15 ∨ n = 16 by omega) with rfl | rfl | rfl | rfl | rfl | rfl | rfl | rfl | rfl | rfl | rfl | rfl | rfl | rfl | rfl
  · exact key _ spZ_2 hS
  · exact key _ spZ_3 hS
  · exact key _ spZ_4 hS
  · exact key _ spZ_5 hS
  · exact key _ spZ_6 hS
  · exact key _ spZ_7 hS
  · exact key _ spZ_8 hS
  · exact key _ spZ_9 hS
  · exact key _ spZ_10 hS
  · exact key _ spZ_11 hS
  · exact key _ spZ_12 hS
  · exact key _ spZ_13 hS
  · exact key _ spZ_14 hS
  · exact key _ spZ_15 hS
  · exact key _ spZ_16 hS
def shZ (n m : Nat) : Bool := decide ((FP.fdiv (FP.i2f (nI m)) (FP.i2f (nI n))).toInt32 = (1065353216 : Int32)) == decide (m = n)
theorem shZ_all : chkA (fun n => chkA (fun m => decide (n < 2) || decide (n < m) || shZ n m) 17) 17 = true := by decide +kernel
theorem shZ_v {n m : Nat} (h2 : 2 ≤ n) (hn : n ≤ 16) (hm : m ≤ n) : shZ n m = true := by
  have h := chkA_of (chkA_of shZ_all n (by omega)) m (by omega)
  rw [decide_eq_false (by omega), decide_eq_false (by omega)] at h
  simpa using h
theorem dec_iff {p q : Prop} [Decidable p] [Decidable q] (h : (decide p == decide q) = true) : p ↔ q := by
  by_cases hp : p
  · by_cases hq : q
    · exact ⟨fun _ => hq, fun _ => hp⟩
    · rw [decide_eq_true hp, decide_eq_false hq] at h
      cases h
  · by_cases hq : q
    · rw [decide_eq_false hp, decide_eq_true hq] at h
      cases h
    · exact ⟨fun w => absurd w hp, fun w => absurd w hq⟩
theorem sp_0 {P : Int64} {n : Nat} (hw : WF n P) (hn : n ≤ 16) : spN P n = 0 ↔ P = stayL := by
  constructor
  · intro h
    have h1 := fb_sm_zero h
    refine nb_ext (fun q hq => ?_)
    rw [nb_stay hq]
    rcases Nat.lt_or_ge q n with w | w
    · have h2 : dif (fr P q) q = 0 := h1 q w
      have h3 : fr P q = q := by
        unfold dif at h2
        split at h2 <;> omega
      have h4 := nb_fr hw.1 hq
      rw [h3] at h4
      exact h4
    · exact hw.2 q w hq
  · intro h
    have e : ∀ q, q < n → dif (fr P q) q = 0 := fun q hq => by
      have h2 : fr P q = q := by
        rw [h]
        exact fr_of (stay_WF n).1 (by omega) (nb_stay (by omega))
      rw [h2]
      unfold dif
      rw [if_neg (Nat.lt_irrefl q), Nat.sub_self]
    have e2 := fb_sm_bound (f := fun p => dif (fr P p) p) (c := 0) (n := n) (fun k hk => Nat.le_of_eq (e k hk))
    have e3 : spN P n ≤ n * 0 := e2
    omega
theorem qSpread_0 {m : MT} (hw : TVok m.1) : qSpread m = lN 0 ↔ mP m = stayL := by
  have h1 := spZ_all (ok_2 hw) (ok_n hw) (spN_le (ok_P hw) (ok_n hw) (mN m) (Nat.le_refl _))
  unfold spZ at h1
  exact (dec_iff h1).trans (sp_0 (ok_P hw) (ok_n hw))
theorem qShare_1 {m : MT} (hw : TVok m.1) : qShare m = (1065353216 : Int32) ↔ mP m = stayL := by
  have h1 := shZ_v (ok_2 hw) (ok_n hw) (pop_fix_le (mP m) (ok_n hw))
  unfold shZ at h1
  refine (dec_iff h1).trans ?_
  rw [pop_fix (mP m) (ok_n hw), fb_ct_all]
  constructor
  · intro h
    refine nb_ext (fun q hq => ?_)
    rw [nb_stay hq]
    rcases Nat.lt_or_ge q (mN m) with w | w
    · exact of_decide_eq_true (by simpa using h q w)
    · exact (ok_P hw).2 q w hq
  · intro h k hk
    have := ok_n hw
    show (nb (mP m) k == k) = true
    rw [h, nb_stay (by omega)]
    simp

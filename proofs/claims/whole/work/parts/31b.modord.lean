/-! orders: the order of a mark takes it back, and is at most 200; how often a mark is played -/
theorem inC_least {x : Int64} (h : P16 (nb x)) : ∀ k p : Nat, p < k → p < 16 → ∃ r, r ≤ p ∧ lead x r = true ∧ inC x r p
  | 0, p, hk, _ => absurd hk (Nat.not_lt_zero _)
  | k + 1, p, hk, hp => by
    by_cases q : lead x p = true
    · exact ⟨p, Nat.le_refl _, q, inC_refl x p⟩
    · have h1 : ¬ ∀ j, j < p → ¬ inC x j p := fun w => q ((lead_iff h hp).mpr (fun j hj hc => w j hj hc))
      have h2 : ∃ j, j < p ∧ inC x j p := Classical.byContradiction (fun w => h1 (fun j hj hc => w ⟨j, hj, hc⟩))
      obtain ⟨j, hj, hc⟩ := h2
      obtain ⟨r, hr, hl, hc2⟩ := inC_least h k j (by omega) (by omega)
      exact ⟨r, by omega, hl, inC_trans hc2 hc⟩
theorem cl_same {x : Int64} (h : P16 (nb x)) {r p : Nat} (hr : r < 16) (hc : inC x r p) : cl (nb x) p = cl (nb x) r := by
  obtain ⟨k, rfl⟩ := hc
  have hk : it (nb x) k r < 16 := it_lt h.1 hr
  have key : ∀ j, it (nb x) j (it (nb x) k r) = it (nb x) k r ↔ it (nb x) j r = r := by
    intro j
    constructor
    · intro e
      rw [← it_add, Nat.add_comm, it_add] at e
      exact it_inj h (it_lt h.1 hr) hr e
    · intro e
      rw [← it_add, Nat.add_comm, it_add, e]
  exact cl_found (cl_pos _ _) (cl_le _ _) (Or.inl ((key _).mpr (cl_it h hr))) (fun j h0 hj e => cl_least h0 hj ((key j).mp e))
theorem ordF_up (c : Nat → Nat) (i : Nat) : ordF c i ∣ ordF c (i + 1) := by
  by_cases h : 0 < i ∧ 0 < c i
  · rw [ordF_yes h.1 h.2]
    exact Nat.dvd_lcm_left _ _
  · have e : ordF c (i + 1) = ordF c i := if_neg h
    rw [e]
    exact Nat.dvd_refl _
theorem ordF_has {c : Nat → Nat} {L : Nat} (h0 : 0 < L) (hc : 0 < c L) : ∀ i : Nat, L < i → L ∣ ordF c i
  | 0, h => absurd h (Nat.not_lt_zero _)
  | i + 1, h => by
    by_cases q : L = i
    · subst q
      rw [ordF_yes h0 hc]
      exact Nat.dvd_lcm_right _ _
    · exact Nat.dvd_trans (ordF_has h0 hc i (by omega)) (ordF_up c i)
theorem ord_it {n : Nat} {x : Int64} (hx : WF n x) (hn : n ≤ 16) {p : Nat} (hp : p < 16) : it (nb x) (ordF (cnt x n) 17) p = p := by
  rcases Nat.lt_or_ge p n with q | q
  · obtain ⟨r, hr, hl, hc⟩ := inC_least hx.1 17 p (by omega) hp
    have e := cl_same hx.1 (show r < 16 by omega) hc
    have h1 : 0 < cnt x n (cl (nb x) r) := by
      unfold cnt
      exact fb_ct_pos.mpr ⟨r, by omega, by rw [hl]; simp⟩
    obtain ⟨m, hm⟩ := ordF_has (cl_pos (nb x) r) h1 17 (by have := cl_le (nb x) r; omega)
    rw [hm, ← e]
    exact it_mul (cl_it hx.1 hp) m
  · exact it_hi (hx.2 p q hp) _
/-- the sum of the lengths -/
def wsm (c : Nat → Nat) : Nat → Nat → Nat
  | 0, _ => 0
  | k + 1, i => i * c i + wsm c k (i + 1)
theorem wsm_add {c d : Nat → Nat} {a e : Nat} (h : ∀ L, d L = c L + (if L = a then e else 0)) : ∀ k i : Nat, wsm d k i = wsm c k i + (if i ≤ a ∧ a < i + k then a * e else 0)
  | 0, i => by
    rw [if_neg (by omega)]
    rfl
  | k + 1, i => by
    show i * d i + wsm d k (i + 1) = i * c i + wsm c k (i + 1) + _
    rw [wsm_add h k (i + 1), h i, Nat.mul_add]
    by_cases q : i = a
    · subst q
      rw [if_pos rfl, if_neg (by omega), if_pos (by omega)]
      omega
    · rw [if_neg q, Nat.mul_zero]
      by_cases q2 : i + 1 ≤ a ∧ a < i + 1 + k
      · rw [if_pos q2, if_pos (by omega)]; omega
      · rw [if_neg q2, if_neg (by omega)]; omega
theorem wsm_z : ∀ k i : Nat, wsm (fun _ => 0) k i = 0
  | 0, _ => rfl
  | k + 1, i => by
    show i * 0 + wsm (fun _ => 0) k (i + 1) = 0
    rw [wsm_z k (i + 1)]
    rfl
theorem wsm_seen {x : Int64} (h : P16 (nb x)) : ∀ i : Nat, i ≤ 16 → ∃ b : Nat → Bool, SeenP x i b ∧ fb_ct b 16 = wsm (cnt x i) 17 0
  | 0, _ => by
    refine ⟨fun _ => false, seen_0 x (fun _ _ => rfl), ?_⟩
    have e : cnt x 0 = fun _ => 0 := by funext L; rfl
    rw [e, wsm_z]
    exact fb_ct_zero.mpr (fun _ _ => rfl)
  | i + 1, hi => by
    obtain ⟨b, hs, hb⟩ := wsm_seen h i (by omega)
    have hi2 : i < 16 := by omega
    have hc1 := cl_pos (nb x) i
    have hc2 := cl_le (nb x) i
    by_cases q : b i = true
    · obtain ⟨h1, h2⟩ := seen_yes h hi2 hs q
      refine ⟨b, h1, ?_⟩
      have e : cnt x (i + 1) = cnt x i := by
        funext L
        unfold cnt
        rw [fb_ct_succ, h2]
        simp
      rw [e]
      exact hb
    · have hl := seen_no h hi2 hs q
      have step : ∀ j : Nat, j ≤ cl (nb x) i → ∃ b2 : Nat → Bool, (∀ z, z < 16 → (b2 z = true ↔ b z = true ∨ ∃ t, t < j ∧ it (nb x) t i = z)) ∧ fb_ct b2 16 = fb_ct b 16 + j := by
        intro j
        induction j with
        | zero =>
          intro _
          exact ⟨b, fun z _ => ⟨fun w => Or.inl w, fun w => w.elim id (fun ⟨t, ht, _⟩ => absurd ht (Nat.not_lt_zero _))⟩, rfl⟩
        | succ j ih =>
          intro hj
          obtain ⟨b2, h3, h4⟩ := ih (by omega)
          have hlt : it (nb x) j i < 16 := it_lt h.1 hi2
          have hno : ¬ b2 (it (nb x) j i) = true := by
            intro w
            rcases (h3 _ hlt).mp w with w | ⟨t, ht, et⟩
            · obtain ⟨p, hp, hc⟩ := (hs _ hlt).mp w
              exact q ((hs i hi2).mpr ⟨p, hp, inC_trans hc (inC_symm h hi2 ⟨j, rfl⟩)⟩)
            · have e2 : it (nb x) (j - t) i = i := by
                have e3 : it (nb x) t (it (nb x) (j - t) i) = it (nb x) t i := by rw [← it_add, show j - t + t = j by omega, et]
                exact it_inj h (it_lt h.1 hi2) hi2 e3
              exact cl_least (by omega) (by omega) e2
          refine ⟨uB1 b2 (it (nb x) j i) true, fun z hz => cyc_b (h3 z hz), ?_⟩
          have h5 := fb_ct_upd b2 true hlt
          rw [Bool.eq_false_iff.mpr hno] at h5
          have h6 : fb_ct (uB1 b2 (it (nb x) j i) true) 16 = fb_ct b2 16 + 1 := h5
          rw [h6, h4]
          omega
      obtain ⟨b2, h3, h4⟩ := step _ (Nat.le_refl _)
      refine ⟨b2, seen_add hs (fun z hz => by rw [h3 z hz, inC_cl h hi2]), ?_⟩
      have e : ∀ L, cnt x (i + 1) L = cnt x i L + (if L = cl (nb x) i then 1 else 0) := by
        intro L
        unfold cnt
        rw [fb_ct_succ, hl]
        by_cases w : L = cl (nb x) i
        · rw [if_pos w]; simp [w]
        · rw [if_neg w, decide_eq_false (fun z => w (Eq.symm z))]; simp
      rw [h4, hb, wsm_add e 17 0, if_pos (by omega), Nat.mul_one]
/-- the least common multiple of lengths whose sum is small -/
def lcC : Nat → Nat → Nat → Nat → Bool
  | 0, _, acc, _ => Nat.ble acc 200
  | k + 1, i, acc, b => lcC k (i + 1) acc b && (if 0 < i ∧ i ≤ b then lcC k (i + 1) (Nat.lcm acc i) (b - i) else true)
theorem lcC_ok : lcC 17 0 1 16 = true := by decide +kernel
theorem lcC_le {c : Nat → Nat} : ∀ k i b : Nat, lcC k i (ordF c i) b = true → wsm c k i ≤ b → ordF c (i + k) ≤ 200
  | 0, i, b, h, _ => Nat.le_of_ble_eq_true h
  | k + 1, i, b, h, hw => by
    have h1 : (lcC k (i + 1) (ordF c i) b && (if 0 < i ∧ i ≤ b then lcC k (i + 1) (Nat.lcm (ordF c i) i) (b - i) else true)) = true := h
    have hw1 : i * c i + wsm c k (i + 1) ≤ b := hw
    rw [Bool.and_eq_true] at h1
    rw [show i + (k + 1) = i + 1 + k by omega]
    by_cases q : 0 < i ∧ 0 < c i
    · have h2 : i * 1 ≤ i * c i := Nat.mul_le_mul_left i q.2
      have h3 := h1.2
      rw [if_pos ⟨q.1, by omega⟩, ← ordF_yes q.1 q.2] at h3
      exact lcC_le k (i + 1) (b - i) h3 (by omega)
    · have e : ordF c (i + 1) = ordF c i := if_neg q
      have h3 := h1.1
      rw [← e] at h3
      exact lcC_le k (i + 1) b h3 (by omega)
theorem ord_200 {n : Nat} {x : Int64} (hx : WF n x) (hn : n ≤ 16) : ordF (cnt x n) 17 ≤ 200 := by
  obtain ⟨b, _, hb⟩ := wsm_seen hx.1 n hn
  have h1 := fb_ct_le b 16
  exact lcC_le (c := cnt x n) 17 0 16 lcC_ok (by omega)
theorem nb_itL {P x : Int64} : ∀ (t : Nat) {p : Nat}, p < 16 → nb (itL P x t) p = it (nb x) t (nb P p)
  | 0, p, _ => it_z (nb x) (nb P p)
  | t + 1, p, hp => by
    show nb (thenL (itL P x t) x) p = _
    rw [nb_then _ _ hp, nb_itL t hp, it_succ]
theorem itL_back {n : Nat} {P x : Int64} (hx : WF n x) (hn : n ≤ 16) {t : Nat} (ht : ordF (cnt x n) 17 ≤ t) : itL P x (t - ordF (cnt x n) 17) = itL P x t := nb_ext (fun p hp => by
  rw [nb_itL _ hp, nb_itL _ hp]
  have e := it_add (nb x) (ordF (cnt x n) 17) (t - ordF (cnt x n) 17) (nb P p)
  rw [show ordF (cnt x n) 17 + (t - ordF (cnt x n) 17) = t by omega] at e
  rw [e, ord_it hx hn (nb_lt P p)])
theorem ordI_mod {n : Nat} {P x : Int64} (hx : WF n x) (hn : n ≤ 16) {t : Nat} (h : itL P x t = stayL) (hl : ∀ j, j < t → itL P x j ≠ stayL) : nI t = ordI P x (ordF (cnt x n) 17) := by
  refine ordI_yes ?_ h hl
  rcases Nat.lt_or_ge t (ordF (cnt x n) 17) with q | q
  · exact q
  · have h1 := ordF_pos (cnt x n) (show 17 ≤ 17 from Nat.le_refl _)
    exact absurd ((itL_back hx hn q).trans h) (hl _ (by omega))
theorem ordI_nev {n : Nat} {P x : Int64} (hx : WF n x) (hn : n ≤ 16) (hl : ∀ j, j < 200 → itL P x j ≠ stayL) : (-6 : Int32) = ordI P x (ordF (cnt x n) 17) := ordI_no (fun j hj => hl j (by have := ord_200 hx hn; omega))
/-- whether so often played a mark orders the deck -/
def orP (x P : Int64) (t p : Nat) : Bool := pw x (nI t).toInt p == fr P p
theorem orP_iff {n : Nat} {P x : Int64} (hx : WF n x) (hP : WF n P) (hn : n ≤ 16) {t : Nat} (ht : t < 2 ^ 31) : chkA (orP x P t) n = true ↔ itL P x t = stayL := by
  have e : ∀ p, pw x (nI t).toInt p = it (nb x) t p := by
    intro p
    unfold pw
    rw [nI_toInt ht, if_pos (Int.natCast_nonneg t), Int.toNat_natCast]
  constructor
  · intro h
    refine nb_ext (fun q hq => ?_)
    rw [nb_itL t hq, nb_stay hq]
    rcases Nat.lt_or_ge q n with w | w
    · have h1 := chkA_of (f := orP x P t) h (nb P q) (hP.lt w hn)
      have h2 : it (nb x) t (nb P q) = fr P (nb P q) := by
        unfold orP at h1
        rw [e] at h1
        simpa using h1
      rw [h2, fr_nb hP.1 hq]
    · rw [hP.2 q w hq]
      exact it_hi (hx.2 q w hq) t
  · intro h
    refine chkA_mk (fun p hp => ?_)
    have h1 := hP.frLt hp hn
    have h2 := nb_itL (P := P) (x := x) t (p := fr P p) (by omega)
    rw [h, nb_stay (by omega), nb_fr hP.1 (by omega)] at h2
    unfold orP
    rw [e, ← h2]
    simp
/-! ways of steps, told by cards -/
theorem rnS_inj {n s w : Nat} : ∀ {i p q : Nat}, p < n → q < n → rnS n s w i p = rnS n s w i q → p = q
  | 0, _, _, _, _, e => e
  | i + 1, _, _, hp, hq, e => rnS_inj hp hq (stepF_inj (rnS_lt hp) (rnS_lt hq) e)
def cidF (c : Nat → Nat) (z : Nat) : Bool := c z == z
theorem way_cb {n s w : Nat} {P : Int64} {cc : Nat → Nat} (hP : WF n P) (hn : n ≤ 16) (h : ∀ c, c < n → cc (rnS n s w s (nb P c)) = c) {p : Nat} (hp : p < n) : cc p < n := by
  obtain ⟨c, hc, e⟩ := fb_onto (n := n) (f := fun c => rnS n s w s (nb P c)) (fun c hc => rnS_lt (hP.lt hc hn)) (fun i j hij hj e => by
    have e2 := hP.inj (by omega) (by omega) (rnS_inj (hP.lt (by omega) hn) (hP.lt hj hn) e)
    omega) hp
  have e2 : rnS n s w s (nb P c) = p := e
  rw [← e2, h c hc]
  exact hc
theorem way_chk {n s w : Nat} {P : Int64} {cc : Nat → Nat} (hP : WF n P) (hn : n ≤ 16) (h : ∀ c, c < n → cc (rnS n s w s (nb P c)) = c) : chkA (cidF cc) n = true ↔ ordW P n s w = true := by
  constructor
  · intro q
    refine ordW_yes (fun c hc => ?_)
    have h1 := chkA_of (f := cidF cc) q _ (rnS_lt (s := s) (w := w) (i := s) (hP.lt hc hn))
    have h2 : cc (rnS n s w s (nb P c)) = rnS n s w s (nb P c) := by simpa [cidF] using h1
    rw [← h2, h c hc]
  · intro q
    refine chkA_mk (fun c hc => ?_)
    have h1 := h c hc
    rw [ordW_at q hc] at h1
    unfold cidF
    rw [h1]
    simp
theorem fst_way {w s : Nat} (h0 : 0 < s) (h : w < 4 ^ s) : w / 2 ^ (2 * (s - 1)) = wayS s w 0 := by
  unfold wayS
  rw [pow4, Nat.sub_zero]
  refine (Nat.mod_eq_of_lt ?_).symm
  rw [Nat.div_lt_iff_lt_mul (Nat.pow_pos (by decide))]
  rw [show s = s - 1 + 1 by omega, Nat.pow_succ] at h
  rw [Nat.mul_comm]
  exact h
def lstI (x : Int64) (n : Nat) : Int32 := if fewN x n < 6 then nI (2000 * fewN x n + lowWN x n (fewN x n)) else -6
theorem few_yes {x : Int64} {n s w : Nat} (hs : s < 6) (hw : w < 4 ^ s) (h : ordW x n s w = true) (hl : ∀ j, j < w → ¬ ordW x n s j = true) (hm : ∀ j, j < s → ¬ lowWN x n j < 4 ^ j) : nI (2000 * s + w) = lstI x n := by
  have e1 := lowW_yes hw h hl
  have e2 : fewN x n = s := fa_first_of hs (decide_eq_true (by rw [e1]; exact hw)) (fun j hj => decide_eq_false (hm j hj))
  unfold lstI
  rw [e2, if_pos hs, e1]
theorem few_no {x : Int64} {n : Nat} (hm : ∀ j, j < 6 → ¬ lowWN x n j < 4 ^ j) : (-6 : Int32) = lstI x n := by
  have e2 : fewN x n = 6 := fa_first_end (fun j hj => decide_eq_false (hm j hj))
  unfold lstI
  rw [e2, if_neg (by decide)]
theorem few_low {x : Int64} {n : Nat} (h : fewN x n < 6) : lowWN x n (fewN x n) < 4 ^ fewN x n := of_decide_eq_true (fa_first_yes (fun s => decide (lowWN x n s < 4 ^ s)) 6 h)
theorem way_next {n s w i : Nat} {P : Int64} {cc y nx dc : Nat → Nat} (hP : WF n P) (hn : n ≤ 16) (hy : ∀ z, z < n → y z = stepF (wayS s w i) n z) (hx : ∀ z, z < n → nx (y z) = cc z) (hd : ∀ z, z < n → dc z = nx z) (hc : ∀ c, c < n → cc (rnS n s w i (nb P c)) = c) : ∀ c, c < n → dc (rnS n s w (i + 1) (nb P c)) = c := by
  intro c h
  have a1 := rnS_lt (s := s) (w := w) (i := i) (hP.lt h hn)
  have a2 := stepF_lt (t := wayS s w i) a1
  show dc (stepF (wayS s w i) n (rnS n s w i (nb P c))) = c
  rw [hd _ a2, ← hy _ a1, hx _ a1]
  exact hc c h

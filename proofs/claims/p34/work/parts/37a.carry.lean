/-! rows over marks and states that whole has too -/
theorem zz_ifc {P R : Prop} [Decidable P] [Decidable R] (h : P ↔ R) : (if P then 1 else 0 : Int32) = if R then 1 else 0 := by
  by_cases q : P
  · rw [if_pos q, if_pos (h.mp q)]
  · rw [if_neg q, if_neg (fun w => q (h.mpr w))]
theorem chkA_1 {f : Nat → Bool} {i : Nat} (h : chkA f i = true) (h2 : f i = true) : nI 1 = if chkA f (i + 1) = true then 1 else 0 := by
  rw [if_pos (by show (f i && chkA f i) = true; rw [h, h2]; rfl)]
  rfl
theorem chkA_0a {f : Nat → Bool} {i : Nat} (h : ¬ chkA f i = true) : nI 0 = if chkA f (i + 1) = true then 1 else 0 := by
  rw [if_neg (by show ¬ (f i && chkA f i) = true; rw [Bool.eq_false_iff.mpr h]; simp)]
  rfl
theorem chkA_0b {f : Nat → Bool} {i : Nat} (h : ¬ f i = true) : nI 0 = if chkA f (i + 1) = true then 1 else 0 := by
  rw [if_neg (by show ¬ (f i && chkA f i) = true; rw [Bool.eq_false_iff.mpr h]; simp)]
  rfl
theorem it_z (g : Nat → Nat) (p : Nat) : p = it g 0 p := rfl
theorem cyc_b {x : Int64} {i j q : Nat} {s b : Nat → Bool} (hb : b q = true ↔ s q = true ∨ ∃ t, t < j ∧ it (nb x) t i = q) : uB1 b (it (nb x) j i) true q = true ↔ s q = true ∨ ∃ t, t < j + 1 ∧ it (nb x) t i = q := by
  unfold uB1
  by_cases w : q = it (nb x) j i
  · rw [if_pos w]
    exact ⟨fun _ => Or.inr ⟨j, by omega, w.symm⟩, fun _ => rfl⟩
  · rw [if_neg w, hb]
    constructor
    · rintro (z | ⟨t, ht, e⟩)
      · exact Or.inl z
      · exact Or.inr ⟨t, by omega, e⟩
    · rintro (z | ⟨t, ht, e⟩)
      · exact Or.inl z
      · rcases Nat.lt_or_ge t j with y | y
        · exact Or.inr ⟨t, y, e⟩
        · rw [show t = j by omega] at e
          exact absurd e.symm w
theorem upD_E {u : Nat} (h : u ≤ 6) : upD u = u - u / 6 + 1 := by unfold upD; split <;> omega
theorem nxK_E {x : Nat} (h : x < 6) : nxK x = (x + 1) % 6 := by unfold nxK; split <;> omega
theorem pvK_E {x : Nat} (h : x < 6) : pvK x = (x + 5) % 6 := by unfold pvK; split <;> omega
theorem then_WF {n : Nat} {x y : Int64} (hx : WF n x) (hy : WF n y) : WF n (thenL x y) := by
  refine ⟨⟨fun q _ => nb_lt _ q, fun a b ha hb e => ?_⟩, fun p h1 h2 => ?_⟩
  · rw [nb_then x y ha, nb_then x y hb] at e
    exact hx.inj ha hb (hy.inj (nb_lt _ _) (nb_lt _ _) e)
  · rw [nb_then x y h2, hx.2 p h1 h2, hy.2 p h1 h2]
theorem nb_times {x : Int64} {z : Int} {p : Nat} (hp : p < 16) : nb (timesL x z) p = pw x z p := nb_pk' hp (pw_lt x z hp)
theorem it_hi {g : Nat → Nat} {p : Nat} (h : g p = p) : ∀ k : Nat, it g k p = p
  | 0 => (it_z g p).symm
  | k + 1 => by rw [it_succ, it_hi h k, h]
theorem times_WF {n : Nat} {x : Int64} {z : Int} (hx : WF n x) : WF n (timesL x z) := by
  refine ⟨⟨fun q _ => nb_lt _ q, fun a b ha hb e => ?_⟩, fun p h1 h2 => ?_⟩
  · rw [nb_times ha, nb_times hb] at e
    unfold pw at e
    by_cases q : 0 ≤ z
    · rw [if_pos q, if_pos q] at e
      exact it_inj hx.1 ha hb e
    · rw [if_neg q, if_neg q] at e
      have e2 := congrArg (it (nb x) (-z).toNat) e
      rw [it_forth hx.1 ha, it_forth hx.1 hb] at e2
      exact e2
  · rw [nb_times h2]
    unfold pw
    split
    · exact it_hi (hx.2 p h1 h2) _
    · exact it_hi (hx.frHi p h1 h2) _
theorem cutF_inj {k n p q : Nat} (hk : k < n) (hp : p < n) (hq : q < n) (e : cutF k n p = cutF k n q) : p = q := by
  unfold cutF at e
  split at e <;> split at e <;> omega
theorem rifF_inj {b n p q : Nat} (hb : b ≤ 1) (hp : p < n) (hq : q < n) (e : rifF b n p = rifF b n q) : p = q := by
  unfold rifF at e
  split at e <;> split at e <;> omega
theorem stepF_inj {t n p q : Nat} (hp : p < n) (hq : q < n) (e : stepF t n p = stepF t n q) : p = q := by
  unfold stepF at e
  by_cases q0 : t = 0
  · rw [if_pos q0, if_pos q0] at e
    rcases Nat.lt_or_ge 1 n with w | w
    · exact cutF_inj w hp hq e
    · omega
  · rw [if_neg q0, if_neg q0] at e
    by_cases q1 : t = 1
    · rw [if_pos q1, if_pos q1] at e
      exact rifF_inj (by omega) hp hq e
    · rw [if_neg q1, if_neg q1] at e
      by_cases q2 : t = 2
      · rw [if_pos q2, if_pos q2] at e
        exact rifF_inj (by omega) hp hq e
      · rw [if_neg q2, if_neg q2] at e
        omega
theorem cut_WF {k n : Nat} (hn : n ≤ 16) (hk : k < n) : WF n (perL (cutF k n) n) := perL_WF hn (fun q hq => cutF_lt (by omega) hq) (fun p q hp hq e => cutF_inj hk hp hq e)
theorem step_WF {t n : Nat} (hn : n ≤ 16) : WF n (perL (stepF t n) n) := perL_WF hn (fun q hq => stepF_lt hq) (fun p q hp hq e => stepF_inj hp hq e)
theorem inC_least {x : Int64} (h : P16 (nb x)) : ∀ k p : Nat, p < k → p < 16 → ∃ r, r ≤ p ∧ lead x r = true ∧ inC x r p
  | 0, p, hk, _ => absurd hk (Nat.not_lt_zero _)
  | k + 1, p, hk, hp => by
    by_cases q : lead x p = true
    · exact ⟨p, Nat.le_refl _, q, inC_refl x p⟩
    · have h1 : ¬ ∀ j, j < p → ¬ inC x j p := fun w => q ((lead_iff h hp).mpr (fun j hj hc => w j hj hc))
      have h2 : ∃ j, j < p ∧ inC x j p := Classical.byContradiction (fun w => h1 (fun j hj hc => w ⟨j, hj, hc⟩))
      obtain ⟨j, hj, hc⟩ := h2
      obtain ⟨r, hr, hl, hc2⟩ := inC_least h k j (by omega) (by omega)
      exact ⟨r, by omega, hl, inC_trans hc2 hc⟩
theorem cl_same {x : Int64} (h : P16 (nb x)) {r p : Nat} (hr : r < 16) (hc : inC x r p) : cl (nb x) p = cl (nb x) r := by
  obtain ⟨k, rfl⟩ := hc
  have hk : it (nb x) k r < 16 := it_lt h.1 hr
  have key : ∀ j, it (nb x) j (it (nb x) k r) = it (nb x) k r ↔ it (nb x) j r = r := by
    intro j
    constructor
    · intro e
      rw [← it_add, Nat.add_comm, it_add] at e
      exact it_inj h (it_lt h.1 hr) hr e
    · intro e
      rw [← it_add, Nat.add_comm, it_add, e]
  exact cl_found (cl_pos _ _) (cl_le _ _) (Or.inl ((key _).mpr (cl_it h hr))) (fun j h0 hj e => cl_least h0 hj ((key j).mp e))
theorem ordF_up (c : Nat → Nat) (i : Nat) : ordF c i ∣ ordF c (i + 1) := by
  by_cases h : 0 < i ∧ 0 < c i
  · rw [ordF_yes h.1 h.2]
    exact Nat.dvd_lcm_left _ _
  · have e : ordF c (i + 1) = ordF c i := if_neg h
    rw [e]
    exact Nat.dvd_refl _
theorem ordF_has {c : Nat → Nat} {L : Nat} (h0 : 0 < L) (hc : 0 < c L) : ∀ i : Nat, L < i → L ∣ ordF c i
  | 0, h => absurd h (Nat.not_lt_zero _)
  | i + 1, h => by
    by_cases q : L = i
    · subst q
      rw [ordF_yes h0 hc]
      exact Nat.dvd_lcm_right _ _
    · exact Nat.dvd_trans (ordF_has h0 hc i (by omega)) (ordF_up c i)
theorem ord_it {n : Nat} {x : Int64} (hx : WF n x) (hn : n ≤ 16) {p : Nat} (hp : p < 16) : it (nb x) (ordF (cnt x n) 17) p = p := by
  rcases Nat.lt_or_ge p n with q | q
  · obtain ⟨r, hr, hl, hc⟩ := inC_least hx.1 17 p (by omega) hp
    have e := cl_same hx.1 (show r < 16 by omega) hc
    have h1 : 0 < cnt x n (cl (nb x) r) := by
      unfold cnt
      exact fb_ct_pos.mpr ⟨r, by omega, by rw [hl]; simp⟩
    obtain ⟨m, hm⟩ := ordF_has (cl_pos (nb x) r) h1 17 (by have := cl_le (nb x) r; omega)
    rw [hm, ← e]
    exact it_mul (cl_it hx.1 hp) m
  · exact it_hi (hx.2 p q hp) _
/-- the sum of the lengths -/
def wsm (c : Nat → Nat) : Nat → Nat → Nat
  | 0, _ => 0
  | k + 1, i => i * c i + wsm c k (i + 1)
theorem wsm_add {c d : Nat → Nat} {a e : Nat} (h : ∀ L, d L = c L + (if L = a then e else 0)) : ∀ k i : Nat, wsm d k i = wsm c k i + (if i ≤ a ∧ a < i + k then a * e else 0)
  | 0, i => by
    rw [if_neg (by omega)]
    rfl
  | k + 1, i => by
    show i * d i + wsm d k (i + 1) = i * c i + wsm c k (i + 1) + _
    rw [wsm_add h k (i + 1), h i, Nat.mul_add]
    by_cases q : i = a
    · subst q
      rw [if_pos rfl, if_neg (by omega), if_pos (by omega)]
      omega
    · rw [if_neg q, Nat.mul_zero]
      by_cases q2 : i + 1 ≤ a ∧ a < i + 1 + k
      · rw [if_pos q2, if_pos (by omega)]; omega
      · rw [if_neg q2, if_neg (by omega)]; omega
theorem wsm_z : ∀ k i : Nat, wsm (fun _ => 0) k i = 0
  | 0, _ => rfl
  | k + 1, i => by
    show i * 0 + wsm (fun _ => 0) k (i + 1) = 0
    rw [wsm_z k (i + 1)]
    rfl
theorem wsm_seen {x : Int64} (h : P16 (nb x)) : ∀ i : Nat, i ≤ 16 → ∃ b : Nat → Bool, SeenP x i b ∧ fb_ct b 16 = wsm (cnt x i) 17 0
  | 0, _ => by
    refine ⟨fun _ => false, seen_0 x (fun _ _ => rfl), ?_⟩
    have e : cnt x 0 = fun _ => 0 := by funext L; rfl
    rw [e, wsm_z]
    exact fb_ct_zero.mpr (fun _ _ => rfl)
  | i + 1, hi => by
    obtain ⟨b, hs, hb⟩ := wsm_seen h i (by omega)
    have hi2 : i < 16 := by omega
    have hc1 := cl_pos (nb x) i
    have hc2 := cl_le (nb x) i
    by_cases q : b i = true
    · obtain ⟨h1, h2⟩ := seen_yes h hi2 hs q
      refine ⟨b, h1, ?_⟩
      have e : cnt x (i + 1) = cnt x i := by
        funext L
        unfold cnt
        rw [fb_ct_succ, h2]
        simp
      rw [e]
      exact hb
    · have hl := seen_no h hi2 hs q
      have step : ∀ j : Nat, j ≤ cl (nb x) i → ∃ b2 : Nat → Bool, (∀ z, z < 16 → (b2 z = true ↔ b z = true ∨ ∃ t, t < j ∧ it (nb x) t i = z)) ∧ fb_ct b2 16 = fb_ct b 16 + j := by
        intro j
        induction j with
        | zero =>
          intro _
          exact ⟨b, fun z _ => ⟨fun w => Or.inl w, fun w => w.elim id (fun ⟨t, ht, _⟩ => absurd ht (Nat.not_lt_zero _))⟩, rfl⟩
        | succ j ih =>
          intro hj
          obtain ⟨b2, h3, h4⟩ := ih (by omega)
          have hlt : it (nb x) j i < 16 := it_lt h.1 hi2
          have hno : ¬ b2 (it (nb x) j i) = true := by
            intro w
            rcases (h3 _ hlt).mp w with w | ⟨t, ht, et⟩
            · obtain ⟨p, hp, hc⟩ := (hs _ hlt).mp w
              exact q ((hs i hi2).mpr ⟨p, hp, inC_trans hc (inC_symm h hi2 ⟨j, rfl⟩)⟩)
            · have e2 : it (nb x) (j - t) i = i := by
                have e3 : it (nb x) t (it (nb x) (j - t) i) = it (nb x) t i := by rw [← it_add, show j - t + t = j by omega, et]
                exact it_inj h (it_lt h.1 hi2) hi2 e3
              exact cl_least (by omega) (by omega) e2
          refine ⟨uB1 b2 (it (nb x) j i) true, fun z hz => cyc_b (h3 z hz), ?_⟩
          have h5 := fb_ct_upd b2 true hlt
          rw [Bool.eq_false_iff.mpr hno] at h5
          have h6 : fb_ct (uB1 b2 (it (nb x) j i) true) 16 = fb_ct b2 16 + 1 := h5
          rw [h6, h4]
          omega
      obtain ⟨b2, h3, h4⟩ := step _ (Nat.le_refl _)
      refine ⟨b2, seen_add hs (fun z hz => by rw [h3 z hz, inC_cl h hi2]), ?_⟩
      have e : ∀ L, cnt x (i + 1) L = cnt x i L + (if L = cl (nb x) i then 1 else 0) := by
        intro L
        unfold cnt
        rw [fb_ct_succ, hl]
        by_cases w : L = cl (nb x) i
        · rw [if_pos w]; simp [w]
        · rw [if_neg w, decide_eq_false (fun z => w (Eq.symm z))]; simp
      rw [h4, hb, wsm_add e 17 0, if_pos (by omega), Nat.mul_one]
def Ok3 (m : MT) : Prop := TVok m.1 ∧ mX m < 6 ∧ mU m ≤ 6
theorem ok_put {m : MT} (h : Ok3 m) {t : TV} (ht : TVok t) : Ok3 (putM m t) := by
  refine ⟨ht, ?_, ?_⟩
  · show nxK (mX m) < 6
    rw [nxK_E h.2.1]
    omega
  · show upD (mU m) ≤ 6
    have := h.2.2
    unfold upD
    split <;> omega
theorem ok_come {m : MT} (h : Ok3 m) {x : Int64} (hx : WF (mN m) x) : Ok3 (comeM m x).2 := by
  unfold comeM
  by_cases q : mC m < 6
  · rw [if_pos q]
    obtain ⟨h2, h16, h6, hP, hT, hM⟩ := h.1
    refine ok_put h ⟨h2, h16, show mC m + 1 ≤ 6 by omega, hP, hT, fun i hi => ?_⟩
    have hi : i < mC m + 1 := hi
    show WF (mN m) (vp_updL (mM m) (mC m) x i)
    unfold vp_updL
    by_cases e : i = mC m
    · rw [if_pos e]; exact hx
    · rw [if_neg e]; exact hM i (show i < mC m by omega)
  · rw [if_neg q]
    exact h
theorem ok_moved {m : MT} (h : Ok3 m) {P T : Int64} (hP : WF (mN m) P) (hT : WF (mN m) T) : Ok3 (putM m (mN m, P, T, mC m, mM m)) := by
  obtain ⟨h2, h16, h6, _, _, hM⟩ := h.1
  exact ok_put h ⟨h2, h16, h6, hP, hT, hM⟩
theorem ok_moveM {m : MT} (h : Ok3 m) {x : Int64} (hx : WF (mN m) x) : Ok3 (moveM m x).2 := by
  obtain ⟨P, hP⟩ : ∃ z, z = thenL (mP m) x := ⟨_, rfl⟩
  obtain ⟨T, hT⟩ : ∃ z, z = thenL (mT m) x := ⟨_, rfl⟩
  have wP : WF (mN m) P := by rw [hP]; exact then_WF (ok_P h.1) hx
  have wT : WF (mN m) T := by rw [hT]; exact then_WF (ok_T h.1) hx
  unfold moveM
  rw [← hP, ← hT]
  exact ok_moved h wP wT
theorem ok_ix {m : MT} (h : Ok3 m) {a : Int32} (ha : bM m a = true) : WF (mN m) (mM m (ix a)) := ok_M h.1 (by have := bM_iff.mp ha; unfold ix; omega)
theorem ok_set {m : MT} (h : Ok3 m) (v : Int32) : Ok3 (opSet m v).2 := by
  unfold opSet
  by_cases q : 2 ≤ v.toInt ∧ v.toInt ≤ 16
  · rw [if_pos q]
    exact ok_put h ⟨show 2 ≤ ix v by unfold ix; omega, show ix v ≤ 16 by unfold ix; omega, Nat.zero_le _, stay_WF _, stay_WF _, fun i hi => absurd hi (Nat.not_lt_zero _)⟩
  · rw [if_neg q]
    exact h
theorem ok_product {m : MT} (h : Ok3 m) (a b : Int32) : Ok3 (opProduct m a b).2 := by
  unfold opProduct
  by_cases q : bM m a = true ∧ bM m b = true
  · rw [if_pos q]
    exact ok_come h (then_WF (ok_ix h q.1) (ok_ix h q.2))
  · rw [if_neg q]
    exact h
theorem ok_power {m : MT} (h : Ok3 m) (a z : Int32) : Ok3 (opPower m a z).2 := by
  unfold opPower
  by_cases q : bM m a = true
  · rw [if_pos q]
    by_cases q2 : bZ z = true
    · rw [if_pos q2]
      exact ok_come h (times_WF (ok_ix h q))
    · rw [if_neg q2]
      exact h
  · rw [if_neg q]
    exact h
theorem ok_trick {m : MT} (h : Ok3 m) : Ok3 (opTrick m).2 := ok_come h (ok_T h.1)
theorem ok_drop {m : MT} (h : Ok3 m) (a : Int32) : Ok3 (opDrop m a).2 := by
  unfold opDrop
  by_cases q : bM m a = true
  · rw [if_pos q]
    obtain ⟨h2, h16, h6, hP, hT, hM⟩ := h.1
    have hm := bM_iff.mp q
    refine ok_put h ⟨h2, h16, show mC m - 1 ≤ 6 from Nat.le_trans (Nat.sub_le _ _) h6, hP, hT, fun i hi => ?_⟩
    have hi : i < mC m - 1 := hi
    show WF (mN m) (rmL (mM m) (ix a) 5 i)
    unfold rmL
    by_cases e : ix a ≤ i ∧ i < 5
    · rw [if_pos e]; exact hM (i + 1) (show i + 1 < mC m by omega)
    · rw [if_neg e]; exact hM i (show i < mC m by omega)
  · rw [if_neg q]
    exact h
theorem ok_play {m : MT} (h : Ok3 m) (a : Int32) : Ok3 (opPlay m a).2 := by
  unfold opPlay
  by_cases q : bM m a = true
  · rw [if_pos q]
    exact ok_moveM h (ok_ix h q)
  · rw [if_neg q]
    exact h
theorem ok_cut {m : MT} (h : Ok3 m) (a : Int32) : Ok3 (opCut m a).2 := by
  unfold opCut
  by_cases q : bP m a = true
  · rw [if_pos q]
    exact ok_moveM h (cut_WF (ok_n h.1) (by have := bP_iff.mp q; unfold ix; omega))
  · rw [if_neg q]
    exact h
theorem ok_riffle {m : MT} (h : Ok3 m) (a : Int32) : Ok3 (opRiffle m a).2 := by
  unfold opRiffle
  by_cases q : a.toInt = 0 ∨ a.toInt = 1
  · rw [if_pos q]
    exact ok_moveM h (step_WF (ok_n h.1))
  · rw [if_neg q]
    exact h
theorem ok_turn {m : MT} (h : Ok3 m) : Ok3 (opTurn m).2 := ok_moveM h (step_WF (ok_n h.1))
theorem ok_restart {m : MT} (h : Ok3 m) : Ok3 (opRestart m).2 := by
  obtain ⟨h2, h16, h6, hP, hT, hM⟩ := h.1
  exact ok_put h ⟨h2, h16, h6, hP, stay_WF _, hM⟩
section
variable {p : Program} {l : Launch} {e : Env} {R rm : Room} {s : State} {m : MethodId} {args : Array Value} {below : List Frame} {meth : Method} {c : Code} {H H0 : Heap} {locs : List Loc} {cells slots pc : Nat} {ls : Array Slot} {rest : List Value} {Q : State → Prop} {cc : ByteArray} {A0 : Nat → Prop}
theorem zi_sld (hx : p.tables.exec = Jvm.exec) (hb : c.code = cc) {b L j : Nat} {xs : Nat → Int32} (hX : va_X b L xs s H0) (hbl : b < H0.size) (hbA : ¬ A0 b) (hS : va_S A0 H0 H locs) (hj : j < L) (hL : L < 2 ^ 31) (hdg : decode cc pc = .ok (.iaload, 1)) (kk : W p l e R s m args below meth c H locs cells slots Q (F0 m (pc + 1) ls (.int (xs j) :: rest))) : W p l e R s m args below meth c H locs cells slots Q (F0 m pc ls (.int (nI j) :: .ref b :: rest)) := by
  refine va_sld hx hb hX hbl hbA hS (vp_in_nI hj hL) hdg ?_
  rw [nI_clamp (by omega)]
  exact kk
end

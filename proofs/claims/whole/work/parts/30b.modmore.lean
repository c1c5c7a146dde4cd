/-! the reference's answers: inverses, what a mark becomes by a cut -/
theorem inv_WF {n : Nat} {x : Int64} (hx : WF n x) : WF n (invL x) := by
  refine ⟨⟨fun q _ => nb_lt _ q, fun a b ha hb e => ?_⟩, fun p h1 h2 => ?_⟩
  · rw [nb_inv x ha, nb_inv x hb] at e
    rw [← nb_fr hx.1 ha, ← nb_fr hx.1 hb, e]
  · rw [nb_inv x h2]
    exact hx.frHi p h1 h2
theorem inv_X {n : Nat} {oc w : Nat → Nat} {x : Int64} (h : RowX n oc x) (hx : WF n x) (hn : n ≤ 16) (hw : ∀ z, z < n → w (oc z) = z) : RowX n w (invL x) := by
  intro p hp
  have h1 := hx.frLt hp hn
  have h2 := hw _ h1
  rw [h _ h1, nb_fr hx.1 (by omega)] at h2
  rw [nb_inv x (by omega)]
  exact h2
theorem inv_cut {n k : Nat} {o w : Nat → Nat} (hk : k < n) (hw : ∀ z, z < n → w (fil (cutF k n) o n z) = z) {p : Nat} (hp : p < n) : w p = cuI k n p := by
  have h1 := cuI_lt hk hp
  have h2 := hw _ h1
  rw [fil_in h1, cutF_cuI hk hp] at h2
  exact h2
theorem bec_WF {n k : Nat} {x : Int64} (hx : WF n x) (hn : n ≤ 16) (hk : k < n) : WF n (becL x k n) := by
  refine ⟨⟨fun q _ => nb_lt _ q, fun a b ha hb e => ?_⟩, fun p h1 h2 => ?_⟩
  · rw [nb_bec hx hn hk ha, nb_bec hx hn hk hb] at e
    by_cases qa : a < n
    · have a1 := cuI_lt hk qa
      have a2 := hx.lt a1 hn
      have a3 := cutF_lt (k := k) (n := n) (by omega) a2
      rw [if_pos qa] at e
      by_cases qb : b < n
      · have b1 := cuI_lt hk qb
        have b2 := hx.lt b1 hn
        rw [if_pos qb] at e
        have e1 := cutF_inj hk a2 b2 e
        have e2 := hx.inj (by omega) (by omega) e1
        rw [← cutF_cuI hk qa, ← cutF_cuI hk qb, e2]
      · rw [if_neg qb] at e
        omega
    · rw [if_neg qa] at e
      by_cases qb : b < n
      · have b1 := cuI_lt hk qb
        have b2 := hx.lt b1 hn
        have b3 := cutF_lt (k := k) (n := n) (by omega) b2
        rw [if_pos qb] at e
        omega
      · rw [if_neg qb] at e
        exact e
  · rw [nb_bec hx hn hk h2, if_neg (by omega)]
theorem lay_bec {n k i : Nat} {o1 o3 g w : Nat → Nat} {x : Int64} (hx : WF n x) (hn : n ≤ 16) (hk : k < n) (hi : i < n) (hX : RowX n (fil g o3 n) x) (hw : ∀ z, z < n → w (fil (cutF k n) o1 n z) = z) : w i < n ∧ fil g o3 n (w i) < n ∧ fil (cutF k n) o1 n (fil g o3 n (w i)) = nb (becL x k n) i := by
  have h1 := inv_cut hk hw hi
  have h2 := cuI_lt hk hi
  rw [h1, hX _ h2]
  have h3 := hx.lt h2 hn
  refine ⟨h2, h3, ?_⟩
  rw [fil_in h3, nb_bec hx hn hk (by omega), if_pos hi]
/-- how many cards are in their place -/
theorem ct_pop {x : Int64} {n : Nat} (hn : n ≤ 16) {i : Nat} (e : i = n) : ctT x i = popN (fixM x n) := by
  subst e
  exact (pop_fix x hn).symm

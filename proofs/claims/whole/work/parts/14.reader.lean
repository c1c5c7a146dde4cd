abbrev w_X2_isFree : List Cond := Cond.code yX2_isFree cX2_isFree 2 (some .boolean) :: zAll
abbrev r_X2_isFree : Room := { frames := 0, cells := 0, slots := 0, locals := 0 }
theorem zd_X2_isFree : yX2_isFree.cls = RX2 ∧ yX2_isFree.cls ≠ "java/lang/invoke/MethodHandle" ∧ yX2_isFree.cls ≠ "java/lang/invoke/VarHandle" ∧ (parseMethodDescriptor yX2_isFree.desc).map (fun d => d.parameters.length) = some 1 := by decide +kernel
set_option maxHeartbeats 4000000 in
set_option maxRecDepth 100000 in
theorem c_X2_isFree (l : Launch) (D : va_G) (cy : Nat → ClassId) (h0_ : Nat) (n_ : Nat) (st_ : Nat) (mv_ : Int64) (us_ : Nat) (dg_ : Nat) (ic_ : Nat) (fi_ : Nat) (la_ : Nat) (p_ : Nat) (hn : n_ ≤ 16) (hus : us_ < 65536) (hp : p_ < 2 ^ 31) : zMi l yX2_isFree w_X2_isFree r_X2_isFree D cy [(h0_, .inr (1, [.int (nI n_), .int (nI st_), .long mv_, .int (nI us_), .int (nI dg_), .int (nI ic_), .int (nI fi_), .int (nI la_)]))] [.ref h0_, .int (nI p_)] (fun r_ => r_ = (if frE n_ us_ p_ = true then 1 else 0)) := by
  refine zOfR (cc := cX2_isFree) (maxL := 2) (ty := .boolean) (by decide) rfl (Nat.le_of_ble_eq_true rfl) ?_
  intro zp ze zs zm za zb zme zc hx hb hml hts hown hP hK Q kr ls hl
  have hown : zs.vm.findClass RX2 = some zm.cls := hown
  have hl : lv_has ls 2 [(0, .ref h0_), (1, .int (nI p_))] := hl
  refine lv_iload_n hx hb dX2_isFree_0 rfl (lv_at hl 1 rfl) ?_
  refine zb0_lt (a := p_) (tgt := 27) hx hb dX2_isFree_1 (by decide) (by omega) (fun hd_ => absurd hd_ (by omega)) (fun c1 => ?_)
  refine lv_iload_n hx hb dX2_isFree_4 rfl (lv_at hl 1 rfl) ?_
  refine lv_aload_n hx hb dX2_isFree_5 rfl (lv_at hl 0 rfl) ?_
  refine va_get (D := D) (ci := 1) (v := .int (nI n_)) (C := RX2) (T := TX2) (N := 8) hx hb hts (fun w h => List.mem_cons_of_mem _ (zinX2 w h)) hown hK.1 hP 0 rfl rfl 0 (by decide) (hts _ (List.mem_cons_of_mem _ zw_61)) (fun _ h9 => h9) rfl dX2_isFree_6 ?_
  refine zb_ge (a := p_) (b := n_) (tgt := 27) hx hb dX2_isFree_9 (by decide) (by omega) (by omega) (fun c9 => ?_) (fun c9 => ?_)
  · skip
    refine lv_iconst (v := nI 0) hx hb dX2_isFree_27 (by decide) ?_
    exact kr _ _ _ dX2_isFree_28 rfl (by rw [if_neg (frE_f1 (by omega))]; rfl)
  · skip
    refine lv_aload_n hx hb dX2_isFree_12 rfl (lv_at hl 0 rfl) ?_
    refine va_get (D := D) (ci := 1) (v := .int (nI us_)) (C := RX2) (T := TX2) (N := 8) hx hb hts (fun w h => List.mem_cons_of_mem _ (zinX2 w h)) hown hK.1 hP 0 rfl rfl 3 (by decide) (hts _ (List.mem_cons_of_mem _ zw_65)) (fun _ h9 => h9) rfl dX2_isFree_13 ?_
    refine lv_iload_n hx hb dX2_isFree_16 rfl (lv_at hl 1 rfl) ?_
    refine zi_shr (v := nI (us_ / 2 ^ p_)) hx hb dX2_isFree_17 (zz_shr (by omega) (by omega)) ?_
    refine lv_iconst (v := nI 1) hx hb dX2_isFree_18 (by decide) ?_
    refine zi_and (v := if us_.testBit p_ = true then 1 else 0) hx hb dX2_isFree_19 (zz_tb _ _) ?_
    refine zq_ne (tgt := 27) hx hb dX2_isFree_20 (by decide) (fun c20 => ?_) (fun c20 => ?_)
    · skip
      refine lv_iconst (v := nI 0) hx hb dX2_isFree_27 (by decide) ?_
      exact kr _ _ _ dX2_isFree_28 rfl (by rw [if_neg (frE_f2 c20)]; rfl)
    · skip
      refine lv_iconst (v := nI 1) hx hb dX2_isFree_23 (by decide) ?_
      refine lv_goto (tgt := 28) hx hb dX2_isFree_24 (by decide) ?_
      exact kr _ _ _ dX2_isFree_28 rfl (by rw [if_pos (frE_t (by omega) c20)]; rfl)
abbrev w_X2_beginsFreePlace : List Cond := Cond.code yX2_beginsFreePlace cX2_beginsFreePlace 3 (some .boolean) :: zAll
abbrev r_X2_beginsFreePlace : Room := { frames := 1, cells := 0, slots := 0, locals := 21 }
theorem zd_X2_beginsFreePlace : yX2_beginsFreePlace.cls = RX2 ∧ yX2_beginsFreePlace.cls ≠ "java/lang/invoke/MethodHandle" ∧ yX2_beginsFreePlace.cls ≠ "java/lang/invoke/VarHandle" ∧ (parseMethodDescriptor yX2_beginsFreePlace.desc).map (fun d => d.parameters.length) = some 1 := by decide +kernel
set_option maxHeartbeats 4000000 in
set_option maxRecDepth 100000 in
theorem c_X2_beginsFreePlace (l : Launch) (D : va_G) (cy : Nat → ClassId) (h0_ : Nat) (n_ : Nat) (st_ : Nat) (mv_ : Int64) (us_ : Nat) (dg_ : Nat) (ic_ : Nat) (fi_ : Nat) (la_ : Nat) (v_ : Nat) (hn : n_ ≤ 16) (hus : us_ < 65536) (hv : v_ < 2 ^ 31) : zMi l yX2_beginsFreePlace w_X2_beginsFreePlace r_X2_beginsFreePlace D cy [(h0_, .inr (1, [.int (nI n_), .int (nI st_), .long mv_, .int (nI us_), .int (nI dg_), .int (nI ic_), .int (nI fi_), .int (nI la_)]))] [.ref h0_, .int (nI v_)] (fun r_ => r_ = (if begF n_ us_ v_ = true then 1 else 0)) := by
  refine zOfR (cc := cX2_beginsFreePlace) (maxL := 3) (ty := .boolean) (by decide) rfl (Nat.le_of_ble_eq_true rfl) ?_
  intro zp ze zs zm za zb zme zc hx hb hml hts hown hP hK Q kr ls hl
  have hown : zs.vm.findClass RX2 = some zm.cls := hown
  have hl : lv_has ls 3 [(0, .ref h0_), (1, .int (nI v_))] := hl
  refine lv_iconst (v := nI 0) hx hb dX2_beginsFreePlace_0 (by decide) ?_
  refine lv_istore_n (lv' := [(2, .int (nI 0)), (0, .ref h0_), (1, .int (nI v_))]) hx hb dX2_beginsFreePlace_1 rfl hl (by decide) rfl (fun ls hl => ?_)
  have L2 : ∀ (kf_ : Nat) (i_ : Nat) (hi : i_ ≤ n_) (hl_ : ∀ j_, j_ < i_ → bgP n_ us_ v_ j_ = false), n_ - i_ < kf_ → ∀ ls : Array Slot, lv_has ls 3 [(0, .ref h0_), (1, .int (nI v_)), (2, .int (nI i_))] → W zp l ze r_X2_beginsFreePlace zs zm za zb zme zc zs.heap [] 0 0 Q (F0 zm 2 ls []) := by
    intro kf_
    induction kf_ with
    | zero => intro i_ hi hl_ hk_; exact absurd hk_ (Nat.not_lt_zero _)
    | succ kf_ ih2 =>
      intro i_ hi hl_ hk_ ls hl
      refine lv_iload_n hx hb dX2_beginsFreePlace_2 rfl (lv_at hl 2 rfl) ?_
      refine lv_aload_n hx hb dX2_beginsFreePlace_3 rfl (lv_at hl 0 rfl) ?_
      refine va_get (D := D) (ci := 1) (v := .int (nI n_)) (C := RX2) (T := TX2) (N := 8) hx hb hts (fun w h => List.mem_cons_of_mem _ (zinX2 w h)) hown hK.1 hP 0 rfl rfl 0 (by decide) (hts _ (List.mem_cons_of_mem _ zw_61)) (fun _ h9 => h9) rfl dX2_beginsFreePlace_4 ?_
      refine zb_ge (a := i_) (b := n_) (tgt := 43) hx hb dX2_beginsFreePlace_7 (by decide) (by omega) (by omega) (fun c7 => ?_) (fun c7 => ?_)
      · skip
        refine lv_iconst (v := nI 0) hx hb dX2_beginsFreePlace_43 (by decide) ?_
        exact kr _ _ _ dX2_beginsFreePlace_44 rfl (by rw [if_neg (by rw [begF_no (fun j_ hj_ => hl_ j_ (by omega))]; decide)]; rfl)
      · skip
        refine lv_aload_n hx hb dX2_beginsFreePlace_10 rfl (lv_at hl 0 rfl) ?_
        refine lv_iload_n hx hb dX2_beginsFreePlace_11 rfl (lv_at hl 2 rfl) ?_
        refine zcRi (As := [.int (nI i_)]) (rest := []) ⟨hx, hb, hml, hown, hts⟩ (c_X2_isFree l D cy h0_ n_ st_ mv_ us_ dg_ ic_ fi_ la_ i_ (by omega) (by omega) (by omega)) (cwV 1 hts (zG_V zw_161 zw_162 zw_163 zw_28 zw_164) rfl rfl rfl zd_X2_isFree ⟨Nat.le_of_ble_eq_true rfl, Nat.le_of_ble_eq_true rfl⟩) hK hP [0] rfl rfl rfl rfl rfl hl.1 rfl (Nat.le_of_ble_eq_true rfl) dX2_beginsFreePlace_12 ⟨Nat.zero_le _, Nat.zero_le _⟩ (fun r12 h12 => ?_)
        subst h12
        refine zq_eq (tgt := 37) hx hb dX2_beginsFreePlace_15 (by decide) (fun c15 => ?_) (fun c15 => ?_)
        · skip
          have hb37 : bgP n_ us_ v_ i_ = false := (by unfold bgP; rw [Bool.eq_false_iff.mpr c15]; rfl)
          refine lv_iinc (v := nI (i_ + 1)) (lv' := [(2, .int (nI (i_ + 1))), (0, .ref h0_), (1, .int (nI v_))]) hx hb dX2_beginsFreePlace_37 hl (k := 2) rfl (nI_1 _) (by decide) rfl (fun ls hl => ?_)
          refine lv_goto (tgt := 2) hx hb dX2_beginsFreePlace_40 (by decide) ?_
          exact ih2 (i_ + 1) (by omega) (fun j_ hj_ => by rcases Nat.lt_or_ge j_ i_ with q_ | q_; exact hl_ j_ q_; rw [show j_ = i_ by omega]; exact hb37) (by omega) _ (lv_sub hl [1, 2, 0] rfl)
        · skip
          refine lv_iload_n hx hb dX2_beginsFreePlace_18 rfl (lv_at hl 2 rfl) ?_
          refine lv_iload_n hx hb dX2_beginsFreePlace_19 rfl (lv_at hl 1 rfl) ?_
          refine zb_eq (a := i_) (b := v_) (tgt := 35) hx hb dX2_beginsFreePlace_20 (by decide) (by omega) (by omega) (fun c20 => ?_) (fun c20 => ?_)
          · skip
            refine lv_iconst (v := nI 1) hx hb dX2_beginsFreePlace_35 (by decide) ?_
            exact kr _ _ _ dX2_beginsFreePlace_36 rfl (by rw [if_pos (begF_yes (i := i_) (by omega) (by unfold bgP; rw [c15, c20]; simp))]; rfl)
          · skip
            refine lv_iload_n hx hb dX2_beginsFreePlace_23 rfl (lv_at hl 1 rfl) ?_
            refine zb0_le (a := v_) (tgt := 37) hx hb dX2_beginsFreePlace_24 (by decide) (by omega) (fun c24 => ?_) (fun c24 => ?_)
            · skip
              have hb37 : bgP n_ us_ v_ i_ = false := (by unfold bgP; rw [beq_false_of_ne c20, decide_eq_false (by omega)]; simp)
              refine lv_iinc (v := nI (i_ + 1)) (lv' := [(2, .int (nI (i_ + 1))), (0, .ref h0_), (1, .int (nI v_))]) hx hb dX2_beginsFreePlace_37 hl (k := 2) rfl (nI_1 _) (by decide) rfl (fun ls hl => ?_)
              refine lv_goto (tgt := 2) hx hb dX2_beginsFreePlace_40 (by decide) ?_
              exact ih2 (i_ + 1) (by omega) (fun j_ hj_ => by rcases Nat.lt_or_ge j_ i_ with q_ | q_; exact hl_ j_ q_; rw [show j_ = i_ by omega]; exact hb37) (by omega) _ (lv_sub hl [1, 2, 0] rfl)
            · skip
              refine lv_iload_n hx hb dX2_beginsFreePlace_27 rfl (lv_at hl 2 rfl) ?_
              refine lv_bipush (v := nI 10) hx hb dX2_beginsFreePlace_28 (by decide) ?_
              refine zi_div (v := nI (i_ / 10)) hx hb dX2_beginsFreePlace_30 (nI_ne0 (by omega) (by omega)) (pk_div (by omega) (by omega) (by omega)) ?_
              refine lv_iload_n hx hb dX2_beginsFreePlace_31 rfl (lv_at hl 1 rfl) ?_
              refine zb_ne (a := i_ / 10) (b := v_) (tgt := 37) hx hb dX2_beginsFreePlace_32 (by decide) (by omega) (by omega) (fun c32 => ?_) (fun c32 => ?_)
              · skip
                have hb37 : bgP n_ us_ v_ i_ = false := (by unfold bgP; rw [beq_false_of_ne c20, beq_false_of_ne c32]; simp)
                refine lv_iinc (v := nI (i_ + 1)) (lv' := [(2, .int (nI (i_ + 1))), (0, .ref h0_), (1, .int (nI v_))]) hx hb dX2_beginsFreePlace_37 hl (k := 2) rfl (nI_1 _) (by decide) rfl (fun ls hl => ?_)
                refine lv_goto (tgt := 2) hx hb dX2_beginsFreePlace_40 (by decide) ?_
                exact ih2 (i_ + 1) (by omega) (fun j_ hj_ => by rcases Nat.lt_or_ge j_ i_ with q_ | q_; exact hl_ j_ q_; rw [show j_ = i_ by omega]; exact hb37) (by omega) _ (lv_sub hl [1, 2, 0] rfl)
              · skip
                refine lv_iconst (v := nI 1) hx hb dX2_beginsFreePlace_35 (by decide) ?_
                exact kr _ _ _ dX2_beginsFreePlace_36 rfl (by rw [if_pos (begF_yes (i := i_) (by omega) (by unfold bgP; rw [c15, c32, decide_eq_true c24]; simp))]; rfl)
  exact L2 (n_ - 0 + 1) 0 (by omega) (fun j_ hj_ => absurd hj_ (Nat.not_lt_zero _)) (Nat.lt_succ_self _) _ (lv_sub hl [1, 2, 0] rfl)
abbrev w_X2_takesDigit : List Cond := Cond.code yX2_takesDigit cX2_takesDigit 4 (some .boolean) :: zAll
abbrev r_X2_takesDigit : Room := { frames := 2, cells := 0, slots := 0, locals := 43 }
theorem zd_X2_takesDigit : yX2_takesDigit.cls = RX2 ∧ yX2_takesDigit.cls ≠ "java/lang/invoke/MethodHandle" ∧ yX2_takesDigit.cls ≠ "java/lang/invoke/VarHandle" ∧ (parseMethodDescriptor yX2_takesDigit.desc).map (fun d => d.parameters.length) = some 2 := by decide +kernel
set_option maxHeartbeats 4000000 in
set_option maxRecDepth 100000 in
theorem c_X2_takesDigit (l : Launch) (D : va_G) (cy : Nat → ClassId) (sz : Nat) (h0_ : Nat) (n_ : Nat) (st_ : Nat) (mv_ : Int64) (us_ : Nat) (dg_ : Nat) (ic_ : Nat) (fi_ : Nat) (la_ : Nat) (ch_ : Nat) (ah_ : Nat) (hn : n_ ≤ 16) (hus : us_ < 65536) (hch : ch_ < 65536) (hah : ah_ < 16) : zWi l yX2_takesDigit w_X2_takesDigit r_X2_takesDigit D cy [(h0_, .inr (1, [.int (nI n_), .int (nI st_), .long mv_, .int (nI us_), .int (nI dg_), .int (nI ic_), .int (nI fi_), .int (nI la_)]))] sz [.ref h0_, .int (nI ch_), .int (nI ah_)] (fun (r_ : Int32) (u : Unit) => r_ = (if (digR n_ st_ mv_ us_ dg_ ic_ fi_ la_ ch_ ah_).1 = true then 1 else 0) ∧ True) (fun u : Unit => ([(h0_, .inr (1, [.int (nI n_), .int (nI ((digR n_ st_ mv_ us_ dg_ ic_ fi_ la_ ch_ ah_).2.1)), .long ((digR n_ st_ mv_ us_ dg_ ic_ fi_ la_ ch_ ah_).2.2.1), .int (nI ((digR n_ st_ mv_ us_ dg_ ic_ fi_ la_ ch_ ah_).2.2.2.1)), .int (nI ((digR n_ st_ mv_ us_ dg_ ic_ fi_ la_ ch_ ah_).2.2.2.2.1)), .int (nI ((digR n_ st_ mv_ us_ dg_ ic_ fi_ la_ ch_ ah_).2.2.2.2.2.1)), .int (nI ((digR n_ st_ mv_ us_ dg_ ic_ fi_ la_ ch_ ah_).2.2.2.2.2.2.1)), .int (nI ((digR n_ st_ mv_ us_ dg_ ic_ fi_ la_ ch_ ah_).2.2.2.2.2.2.2))]))] : va_W)) := by
  refine zOfW (cc := cX2_takesDigit) (maxL := 4) (ty := .boolean) (by decide) rfl (Nat.le_of_ble_eq_true rfl) ?_
  intro zp ze zs zm za zb zme zc hx hb hml hts hown hP hK zA hD hA Q kr ls hl
  have hS : va_S zA zs.heap zs.heap [] := va_S.rf
  have hown : zs.vm.findClass RX2 = some zm.cls := hown
  have hl : lv_has ls 4 [(0, .ref h0_), (1, .int (nI ch_)), (2, .int (nI ah_))] := hl
  refine lv_iload_n hx hb dX2_takesDigit_0 rfl (lv_at hl 1 rfl) ?_
  refine lv_bipush (v := nI 48) hx hb dX2_takesDigit_1 (by decide) ?_
  refine zb_lt (a := ch_) (b := 48) (tgt := 12) hx hb dX2_takesDigit_3 (by decide) (by omega) (by omega) (fun c3 => ?_) (fun c3 => ?_)
  · skip
    refine lv_iconst (v := nI 0) hx hb dX2_takesDigit_12 (by decide) ?_
    have e_ : digR n_ st_ mv_ us_ dg_ ic_ fi_ la_ ch_ ah_ = (false, (st_, mv_, us_, dg_, ic_, fi_, la_)) := digR_f (fun q_ => absurd q_ (by omega))
    rw [e_] at kr
    exact kr _ () _ _ _ _ dX2_takesDigit_13 rfl ⟨rfl, trivial⟩ hP hD hS
  · skip
    refine lv_iload_n hx hb dX2_takesDigit_6 rfl (lv_at hl 1 rfl) ?_
    refine lv_bipush (v := nI 57) hx hb dX2_takesDigit_7 (by decide) ?_
    refine zb_le (a := ch_) (b := 57) (tgt := 14) hx hb dX2_takesDigit_9 (by decide) (by omega) (by omega) (fun c9 => ?_) (fun c9 => ?_)
    · skip
      refine lv_bipush (v := nI 10) hx hb dX2_takesDigit_14 (by decide) ?_
      refine lv_iload_n hx hb dX2_takesDigit_16 rfl (lv_at hl 2 rfl) ?_
      refine zi_mul (v := nI (10 * ah_)) hx hb dX2_takesDigit_17 (pk_mul _ _) ?_
      refine lv_iload_n hx hb dX2_takesDigit_18 rfl (lv_at hl 1 rfl) ?_
      refine lv_bipush (v := nI 48) hx hb dX2_takesDigit_19 (by decide) ?_
      refine zi_sub (v := nI (ch_ - 48)) hx hb dX2_takesDigit_21 (pk_sub (by omega)) ?_
      refine zi_add (v := nI ((10 * ah_) + (ch_ - 48))) hx hb dX2_takesDigit_22 (nI_add _ _) ?_
      refine lv_istore_n (lv' := [(3, .int (nI ((10 * ah_) + (ch_ - 48)))), (0, .ref h0_), (1, .int (nI ch_)), (2, .int (nI ah_))]) hx hb dX2_takesDigit_23 rfl hl (by decide) rfl (fun ls hl => ?_)
      refine lv_aload_n hx hb dX2_takesDigit_24 rfl (lv_at hl 1 rfl) ?_
      refine lv_iload_n hx hb dX2_takesDigit_25 rfl (lv_at hl 0 rfl) ?_
      refine zcRi (As := [.int (nI ((10 * ah_) + (ch_ - 48)))]) (rest := []) ⟨hx, hb, hml, hown, hts⟩ (c_X2_beginsFreePlace l D cy h0_ n_ st_ mv_ us_ dg_ ic_ fi_ la_ ((10 * ah_) + (ch_ - 48)) (by omega) (by omega) (by omega)) (cwV 1 hts (zG_V zw_157 zw_158 zw_159 zw_28 zw_160) rfl rfl rfl zd_X2_beginsFreePlace ⟨Nat.le_of_ble_eq_true rfl, Nat.le_of_ble_eq_true rfl⟩) hK hP [0] rfl rfl rfl rfl rfl hl.1 rfl (Nat.le_of_ble_eq_true rfl) dX2_takesDigit_26 ⟨Nat.zero_le _, Nat.zero_le _⟩ (fun r26 h26 => ?_)
      subst h26
      refine zq_ne (tgt := 34) hx hb dX2_takesDigit_29 (by decide) (fun c29 => ?_) (fun c29 => ?_)
      · skip
        refine lv_aload_n hx hb dX2_takesDigit_34 rfl (lv_at hl 1 rfl) ?_
        refine lv_iload_n hx hb dX2_takesDigit_35 rfl (lv_at hl 0 rfl) ?_
        refine va_put (D := D) (ci := 1) (v := .int (nI ((10 * ah_) + (ch_ - 48)))) (ty := .int) (C := RX2) (T := TX2) (N := 8) hx hb hts (fun w h => List.mem_cons_of_mem _ (zinX2 w h)) tyX2 tyX2_ok nmX2 hown hK.1 hP hD hS 0 rfl rfl 4 (by decide) (hts _ (List.mem_cons_of_mem _ zw_66)) (fun _ h9 => h9) rfl (tyX2_ok 4 (by decide)) rfl rfl (Nat.le_of_ble_eq_true rfl) dX2_takesDigit_36 (fun H locs hP hD hS => ?_)
        have hP : va_P D vwCl [(h0_, .inr (1, [.int (nI n_), .int (nI st_), .long mv_, .int (nI us_), .int (nI ((10 * ah_) + (ch_ - 48))), .int (nI ic_), .int (nI fi_), .int (nI la_)]))] H := hP
        have hD : va_D zA [(h0_, .inr (1, [.int (nI n_), .int (nI st_), .long mv_, .int (nI us_), .int (nI ((10 * ah_) + (ch_ - 48))), .int (nI ic_), .int (nI fi_), .int (nI la_)]))] := hD
        refine lv_aload_n hx hb dX2_takesDigit_39 rfl (lv_at hl 1 rfl) ?_
        refine lv_iconst (v := nI 3) hx hb dX2_takesDigit_40 (by decide) ?_
        refine va_put (D := D) (ci := 1) (v := .int (nI 3)) (ty := .int) (C := RX2) (T := TX2) (N := 8) hx hb hts (fun w h => List.mem_cons_of_mem _ (zinX2 w h)) tyX2 tyX2_ok nmX2 hown hK.1 hP hD hS 0 rfl rfl 1 (by decide) (hts _ (List.mem_cons_of_mem _ zw_62)) (fun _ h9 => h9) rfl (tyX2_ok 1 (by decide)) rfl rfl (Nat.le_of_ble_eq_true rfl) dX2_takesDigit_41 (fun H locs hP hD hS => ?_)
        have hP : va_P D vwCl [(h0_, .inr (1, [.int (nI n_), .int (nI 3), .long mv_, .int (nI us_), .int (nI ((10 * ah_) + (ch_ - 48))), .int (nI ic_), .int (nI fi_), .int (nI la_)]))] H := hP
        have hD : va_D zA [(h0_, .inr (1, [.int (nI n_), .int (nI 3), .long mv_, .int (nI us_), .int (nI ((10 * ah_) + (ch_ - 48))), .int (nI ic_), .int (nI fi_), .int (nI la_)]))] := hD
        refine lv_iconst (v := nI 1) hx hb dX2_takesDigit_44 (by decide) ?_
        have e_ : digR n_ st_ mv_ us_ dg_ ic_ fi_ la_ ch_ ah_ = (true, (3, mv_, us_, 10 * ah_ + (ch_ - 48), ic_, fi_, la_)) := digR_t ⟨by omega, by omega, c29⟩
        rw [e_] at kr
        exact kr _ () _ _ _ _ dX2_takesDigit_45 rfl ⟨rfl, trivial⟩ hP hD hS
      · skip
        refine lv_iconst (v := nI 0) hx hb dX2_takesDigit_32 (by decide) ?_
        have e_ : digR n_ st_ mv_ us_ dg_ ic_ fi_ la_ ch_ ah_ = (false, (st_, mv_, us_, dg_, ic_, fi_, la_)) := digR_f (fun q_ => c29 q_.2.2)
        rw [e_] at kr
        exact kr _ () _ _ _ _ dX2_takesDigit_33 rfl ⟨rfl, trivial⟩ hP hD hS
    · skip
      refine lv_iconst (v := nI 0) hx hb dX2_takesDigit_12 (by decide) ?_
      have e_ : digR n_ st_ mv_ us_ dg_ ic_ fi_ la_ ch_ ah_ = (false, (st_, mv_, us_, dg_, ic_, fi_, la_)) := digR_f (fun q_ => absurd q_ (by omega))
      rw [e_] at kr
      exact kr _ () _ _ _ _ dX2_takesDigit_13 rfl ⟨rfl, trivial⟩ hP hD hS
abbrev w_X2_takesOpening : List Cond := Cond.code yX2_takesOpening cX2_takesOpening 2 (some .boolean) :: zAll
abbrev r_X2_takesOpening : Room := { frames := 0, cells := 0, slots := 0, locals := 0 }
theorem zd_X2_takesOpening : yX2_takesOpening.cls = RX2 ∧ yX2_takesOpening.cls ≠ "java/lang/invoke/MethodHandle" ∧ yX2_takesOpening.cls ≠ "java/lang/invoke/VarHandle" ∧ (parseMethodDescriptor yX2_takesOpening.desc).map (fun d => d.parameters.length) = some 1 := by decide +kernel
set_option maxHeartbeats 4000000 in
set_option maxRecDepth 100000 in
theorem c_X2_takesOpening (l : Launch) (D : va_G) (cy : Nat → ClassId) (sz : Nat) (h0_ : Nat) (n_ : Nat) (st_ : Nat) (mv_ : Int64) (us_ : Nat) (dg_ : Nat) (ic_ : Nat) (fi_ : Nat) (la_ : Nat) (ch_ : Nat) (hch : ch_ < 65536) : zWi l yX2_takesOpening w_X2_takesOpening r_X2_takesOpening D cy [(h0_, .inr (1, [.int (nI n_), .int (nI st_), .long mv_, .int (nI us_), .int (nI dg_), .int (nI ic_), .int (nI fi_), .int (nI la_)]))] sz [.ref h0_, .int (nI ch_)] (fun (r_ : Int32) (u : Unit) => r_ = (if (opnR st_ mv_ us_ dg_ ic_ fi_ la_ ch_).1 = true then 1 else 0) ∧ True) (fun u : Unit => ([(h0_, .inr (1, [.int (nI n_), .int (nI ((opnR st_ mv_ us_ dg_ ic_ fi_ la_ ch_).2.1)), .long ((opnR st_ mv_ us_ dg_ ic_ fi_ la_ ch_).2.2.1), .int (nI ((opnR st_ mv_ us_ dg_ ic_ fi_ la_ ch_).2.2.2.1)), .int (nI ((opnR st_ mv_ us_ dg_ ic_ fi_ la_ ch_).2.2.2.2.1)), .int (nI ((opnR st_ mv_ us_ dg_ ic_ fi_ la_ ch_).2.2.2.2.2.1)), .int (nI ((opnR st_ mv_ us_ dg_ ic_ fi_ la_ ch_).2.2.2.2.2.2.1)), .int (nI ((opnR st_ mv_ us_ dg_ ic_ fi_ la_ ch_).2.2.2.2.2.2.2))]))] : va_W)) := by
  refine zOfW (cc := cX2_takesOpening) (maxL := 2) (ty := .boolean) (by decide) rfl (Nat.le_of_ble_eq_true rfl) ?_
  intro zp ze zs zm za zb zme zc hx hb hml hts hown hP hK zA hD hA Q kr ls hl
  have hS : va_S zA zs.heap zs.heap [] := va_S.rf
  have hown : zs.vm.findClass RX2 = some zm.cls := hown
  have hl : lv_has ls 2 [(0, .ref h0_), (1, .int (nI ch_))] := hl
  refine lv_iload_n hx hb dX2_takesOpening_0 rfl (lv_at hl 1 rfl) ?_
  refine lv_bipush (v := nI 40) hx hb dX2_takesOpening_1 (by decide) ?_
  refine zb_eq (a := ch_) (b := 40) (tgt := 8) hx hb dX2_takesOpening_3 (by decide) (by omega) (by omega) (fun c3 => ?_) (fun c3 => ?_)
  · skip
    refine lv_aload_n hx hb dX2_takesOpening_8 rfl (lv_at hl 0 rfl) ?_
    refine lv_iconst (v := nI 2) hx hb dX2_takesOpening_9 (by decide) ?_
    refine va_put (D := D) (ci := 1) (v := .int (nI 2)) (ty := .int) (C := RX2) (T := TX2) (N := 8) hx hb hts (fun w h => List.mem_cons_of_mem _ (zinX2 w h)) tyX2 tyX2_ok nmX2 hown hK.1 hP hD hS 0 rfl rfl 1 (by decide) (hts _ (List.mem_cons_of_mem _ zw_62)) (fun _ h9 => h9) rfl (tyX2_ok 1 (by decide)) rfl rfl (Nat.le_of_ble_eq_true rfl) dX2_takesOpening_10 (fun H locs hP hD hS => ?_)
    have hP : va_P D vwCl [(h0_, .inr (1, [.int (nI n_), .int (nI 2), .long mv_, .int (nI us_), .int (nI dg_), .int (nI ic_), .int (nI fi_), .int (nI la_)]))] H := hP
    have hD : va_D zA [(h0_, .inr (1, [.int (nI n_), .int (nI 2), .long mv_, .int (nI us_), .int (nI dg_), .int (nI ic_), .int (nI fi_), .int (nI la_)]))] := hD
    refine lv_aload_n hx hb dX2_takesOpening_13 rfl (lv_at hl 0 rfl) ?_
    refine lv_iconst (v := nI 0) hx hb dX2_takesOpening_14 (by decide) ?_
    refine va_put (D := D) (ci := 1) (v := .int (nI 0)) (ty := .int) (C := RX2) (T := TX2) (N := 8) hx hb hts (fun w h => List.mem_cons_of_mem _ (zinX2 w h)) tyX2 tyX2_ok nmX2 hown hK.1 hP hD hS 0 rfl rfl 5 (by decide) (hts _ (List.mem_cons_of_mem _ zw_67)) (fun _ h9 => h9) rfl (tyX2_ok 5 (by decide)) rfl rfl (Nat.le_of_ble_eq_true rfl) dX2_takesOpening_15 (fun H locs hP hD hS => ?_)
    have hP : va_P D vwCl [(h0_, .inr (1, [.int (nI n_), .int (nI 2), .long mv_, .int (nI us_), .int (nI dg_), .int (nI 0), .int (nI fi_), .int (nI la_)]))] H := hP
    have hD : va_D zA [(h0_, .inr (1, [.int (nI n_), .int (nI 2), .long mv_, .int (nI us_), .int (nI dg_), .int (nI 0), .int (nI fi_), .int (nI la_)]))] := hD
    refine lv_iconst (v := nI 1) hx hb dX2_takesOpening_18 (by decide) ?_
    have e_ : opnR st_ mv_ us_ dg_ ic_ fi_ la_ ch_ = (true, (2, mv_, us_, dg_, 0, fi_, la_)) := by rw [c3]; exact opn_t
    rw [e_] at kr
    exact kr _ () _ _ _ _ dX2_takesOpening_19 rfl ⟨rfl, trivial⟩ hP hD hS
  · skip
    refine lv_iconst (v := nI 0) hx hb dX2_takesOpening_6 (by decide) ?_
    have e_ : opnR st_ mv_ us_ dg_ ic_ fi_ la_ ch_ = (false, (st_, mv_, us_, dg_, ic_, fi_, la_)) := opn_f (by omega)
    rw [e_] at kr
    exact kr _ () _ _ _ _ dX2_takesOpening_7 rfl ⟨rfl, trivial⟩ hP hD hS
abbrev w_X2_takesStay : List Cond := Cond.code yX2_takesStay cX2_takesStay 1 (some .boolean) :: zAll
abbrev r_X2_takesStay : Room := { frames := 0, cells := 0, slots := 0, locals := 0 }
theorem zd_X2_takesStay : yX2_takesStay.cls = RX2 ∧ yX2_takesStay.cls ≠ "java/lang/invoke/MethodHandle" ∧ yX2_takesStay.cls ≠ "java/lang/invoke/VarHandle" ∧ (parseMethodDescriptor yX2_takesStay.desc).map (fun d => d.parameters.length) = some 0 := by decide +kernel
set_option maxHeartbeats 4000000 in
set_option maxRecDepth 100000 in
theorem c_X2_takesStay (l : Launch) (D : va_G) (cy : Nat → ClassId) (sz : Nat) (h0_ : Nat) (n_ : Nat) (st_ : Nat) (mv_ : Int64) (us_ : Nat) (dg_ : Nat) (ic_ : Nat) (fi_ : Nat) (la_ : Nat) : zWi l yX2_takesStay w_X2_takesStay r_X2_takesStay D cy [(h0_, .inr (1, [.int (nI n_), .int (nI st_), .long mv_, .int (nI us_), .int (nI dg_), .int (nI ic_), .int (nI fi_), .int (nI la_)]))] sz [.ref h0_] (fun (r_ : Int32) (u : Unit) => r_ = (nI 1) ∧ True) (fun u : Unit => ([(h0_, .inr (1, [.int (nI n_), .int (nI 1), .long mv_, .int (nI us_), .int (nI dg_), .int (nI ic_), .int (nI fi_), .int (nI la_)]))] : va_W)) := by
  refine zOfW (cc := cX2_takesStay) (maxL := 1) (ty := .boolean) (by decide) rfl (Nat.le_of_ble_eq_true rfl) ?_
  intro zp ze zs zm za zb zme zc hx hb hml hts hown hP hK zA hD hA Q kr ls hl
  have hS : va_S zA zs.heap zs.heap [] := va_S.rf
  have hown : zs.vm.findClass RX2 = some zm.cls := hown
  have hl : lv_has ls 1 [(0, .ref h0_)] := hl
  refine lv_aload_n hx hb dX2_takesStay_0 rfl (lv_at hl 0 rfl) ?_
  refine lv_iconst (v := nI 1) hx hb dX2_takesStay_1 (by decide) ?_
  refine va_put (D := D) (ci := 1) (v := .int (nI 1)) (ty := .int) (C := RX2) (T := TX2) (N := 8) hx hb hts (fun w h => List.mem_cons_of_mem _ (zinX2 w h)) tyX2 tyX2_ok nmX2 hown hK.1 hP hD hS 0 rfl rfl 1 (by decide) (hts _ (List.mem_cons_of_mem _ zw_62)) (fun _ h9 => h9) rfl (tyX2_ok 1 (by decide)) rfl rfl (Nat.le_of_ble_eq_true rfl) dX2_takesStay_2 (fun H locs hP hD hS => ?_)
  have hP : va_P D vwCl [(h0_, .inr (1, [.int (nI n_), .int (nI 1), .long mv_, .int (nI us_), .int (nI dg_), .int (nI ic_), .int (nI fi_), .int (nI la_)]))] H := hP
  have hD : va_D zA [(h0_, .inr (1, [.int (nI n_), .int (nI 1), .long mv_, .int (nI us_), .int (nI dg_), .int (nI ic_), .int (nI fi_), .int (nI la_)]))] := hD
  refine lv_iconst (v := nI 1) hx hb dX2_takesStay_5 (by decide) ?_
  exact kr _ () _ _ _ _ dX2_takesStay_6 rfl ⟨rfl, trivial⟩ hP hD hS
abbrev w_X2_endsPlace : List Cond := Cond.code yX2_endsPlace cX2_endsPlace 1 (some .boolean) :: zAll
abbrev r_X2_endsPlace : Room := { frames := 1, cells := 0, slots := 0, locals := 25 }
theorem zd_X2_endsPlace : yX2_endsPlace.cls = RX2 ∧ yX2_endsPlace.cls ≠ "java/lang/invoke/MethodHandle" ∧ yX2_endsPlace.cls ≠ "java/lang/invoke/VarHandle" ∧ (parseMethodDescriptor yX2_endsPlace.desc).map (fun d => d.parameters.length) = some 0 := by decide +kernel
set_option maxHeartbeats 4000000 in
set_option maxRecDepth 100000 in
theorem c_X2_endsPlace (l : Launch) (D : va_G) (cy : Nat → ClassId) (sz : Nat) (h0_ : Nat) (n_ : Nat) (st_ : Nat) (mv_ : Int64) (us_ : Nat) (dg_ : Nat) (ic_ : Nat) (fi_ : Nat) (la_ : Nat) (hn : n_ ≤ 16) (hus : us_ < 65536) (hdg : dg_ < 16) (hla : la_ < 16) (hic : ic_ < 2 ^ 30) : zWi l yX2_endsPlace w_X2_endsPlace r_X2_endsPlace D cy [(h0_, .inr (1, [.int (nI n_), .int (nI st_), .long mv_, .int (nI us_), .int (nI dg_), .int (nI ic_), .int (nI fi_), .int (nI la_)]))] sz [.ref h0_] (fun (r_ : Int32) (u : Unit) => r_ = (if (endR n_ st_ mv_ us_ dg_ ic_ fi_ la_).1 = true then 1 else 0) ∧ True) (fun u : Unit => ([(h0_, .inr (1, [.int (nI n_), .int (nI ((endR n_ st_ mv_ us_ dg_ ic_ fi_ la_).2.1)), .long ((endR n_ st_ mv_ us_ dg_ ic_ fi_ la_).2.2.1), .int (nI ((endR n_ st_ mv_ us_ dg_ ic_ fi_ la_).2.2.2.1)), .int (nI ((endR n_ st_ mv_ us_ dg_ ic_ fi_ la_).2.2.2.2.1)), .int (nI ((endR n_ st_ mv_ us_ dg_ ic_ fi_ la_).2.2.2.2.2.1)), .int (nI ((endR n_ st_ mv_ us_ dg_ ic_ fi_ la_).2.2.2.2.2.2.1)), .int (nI ((endR n_ st_ mv_ us_ dg_ ic_ fi_ la_).2.2.2.2.2.2.2))]))] : va_W)) := by
  refine zOfW (cc := cX2_endsPlace) (maxL := 1) (ty := .boolean) (by decide) rfl (Nat.le_of_ble_eq_true rfl) ?_
  intro zp ze zs zm za zb zme zc hx hb hml hts hown hP hK zA hD hA Q kr ls hl
  have hS : va_S zA zs.heap zs.heap [] := va_S.rf
  have hown : zs.vm.findClass RX2 = some zm.cls := hown
  have hl : lv_has ls 1 [(0, .ref h0_)] := hl
  refine lv_aload_n hx hb dX2_endsPlace_0 rfl (lv_at hl 0 rfl) ?_
  refine lv_aload_n hx hb dX2_endsPlace_1 rfl (lv_at hl 0 rfl) ?_
  refine va_get (D := D) (ci := 1) (v := .int (nI dg_)) (C := RX2) (T := TX2) (N := 8) hx hb hts (fun w h => List.mem_cons_of_mem _ (zinX2 w h)) hown hK.1 hP 0 rfl rfl 4 (by decide) (hts _ (List.mem_cons_of_mem _ zw_66)) (fun _ h9 => h9) rfl dX2_endsPlace_2 ?_
  refine zcRi (As := [.int (nI dg_)]) (rest := []) ⟨hx, hb, hml, hown, hts⟩ (c_X2_isFree l D cy h0_ n_ st_ mv_ us_ dg_ ic_ fi_ la_ dg_ (by omega) (by omega) (by omega)) (cwV 1 hts (zG_V zw_161 zw_162 zw_163 zw_28 zw_164) rfl rfl rfl zd_X2_isFree ⟨Nat.le_of_ble_eq_true rfl, Nat.le_of_ble_eq_true rfl⟩) hK hP [0] rfl rfl rfl rfl rfl hl.1 rfl (Nat.le_of_ble_eq_true rfl) dX2_endsPlace_5 ⟨Nat.zero_le _, Nat.zero_le _⟩ (fun r5 h5 => ?_)
  subst h5
  refine zq_ne (tgt := 13) hx hb dX2_endsPlace_8 (by decide) (fun c8 => ?_) (fun c8 => ?_)
  · skip
    refine lv_aload_n hx hb dX2_endsPlace_13 rfl (lv_at hl 0 rfl) ?_
    refine lv_aload_n hx hb dX2_endsPlace_14 rfl (lv_at hl 0 rfl) ?_
    refine va_get (D := D) (ci := 1) (v := .int (nI us_)) (C := RX2) (T := TX2) (N := 8) hx hb hts (fun w h => List.mem_cons_of_mem _ (zinX2 w h)) hown hK.1 hP 0 rfl rfl 3 (by decide) (hts _ (List.mem_cons_of_mem _ zw_65)) (fun _ h9 => h9) rfl dX2_endsPlace_15 ?_
    refine lv_iconst (v := nI 1) hx hb dX2_endsPlace_18 (by decide) ?_
    refine lv_aload_n hx hb dX2_endsPlace_19 rfl (lv_at hl 0 rfl) ?_
    refine va_get (D := D) (ci := 1) (v := .int (nI dg_)) (C := RX2) (T := TX2) (N := 8) hx hb hts (fun w h => List.mem_cons_of_mem _ (zinX2 w h)) hown hK.1 hP 0 rfl rfl 4 (by decide) (hts _ (List.mem_cons_of_mem _ zw_66)) (fun _ h9 => h9) rfl dX2_endsPlace_20 ?_
    refine zi_shl (v := nI (2 ^ dg_)) hx hb dX2_endsPlace_23 (zz_shl1 (by omega)) ?_
    refine zi_or (v := nI (us_ ||| (2 ^ dg_))) hx hb dX2_endsPlace_24 (fa_or _ _) ?_
    refine va_put (D := D) (ci := 1) (v := .int (nI (us_ ||| (2 ^ dg_)))) (ty := .int) (C := RX2) (T := TX2) (N := 8) hx hb hts (fun w h => List.mem_cons_of_mem _ (zinX2 w h)) tyX2 tyX2_ok nmX2 hown hK.1 hP hD hS 0 rfl rfl 3 (by decide) (hts _ (List.mem_cons_of_mem _ zw_65)) (fun _ h9 => h9) rfl (tyX2_ok 3 (by decide)) rfl rfl (Nat.le_of_ble_eq_true rfl) dX2_endsPlace_25 (fun H locs hP hD hS => ?_)
    have hP : va_P D vwCl [(h0_, .inr (1, [.int (nI n_), .int (nI st_), .long mv_, .int (nI (us_ ||| (2 ^ dg_))), .int (nI dg_), .int (nI ic_), .int (nI fi_), .int (nI la_)]))] H := hP
    have hD : va_D zA [(h0_, .inr (1, [.int (nI n_), .int (nI st_), .long mv_, .int (nI (us_ ||| (2 ^ dg_))), .int (nI dg_), .int (nI ic_), .int (nI fi_), .int (nI la_)]))] := hD
    refine lv_aload_n hx hb dX2_endsPlace_28 rfl (lv_at hl 0 rfl) ?_
    refine va_get (D := D) (ci := 1) (v := .int (nI ic_)) (C := RX2) (T := TX2) (N := 8) hx hb hts (fun w h => List.mem_cons_of_mem _ (zinX2 w h)) hown hK.1 hP 0 rfl rfl 5 (by decide) (hts _ (List.mem_cons_of_mem _ zw_67)) (fun _ h9 => h9) rfl dX2_endsPlace_29 ?_
    refine zb0_ne (a := ic_) (tgt := 46) hx hb dX2_endsPlace_32 (by decide) (by omega) (fun c32 => ?_) (fun c32 => ?_)
    · skip
      refine lv_aload_n hx hb dX2_endsPlace_46 rfl (lv_at hl 0 rfl) ?_
      refine lv_aload_n hx hb dX2_endsPlace_47 rfl (lv_at hl 0 rfl) ?_
      refine va_get (D := D) (ci := 1) (v := .long mv_) (C := RX2) (T := TX2) (N := 8) hx hb hts (fun w h => List.mem_cons_of_mem _ (zinX2 w h)) hown hK.1 hP 0 rfl rfl 2 (by decide) (hts _ (List.mem_cons_of_mem _ zw_64)) (fun _ h9 => h9) rfl dX2_endsPlace_48 ?_
      refine lv_aload_n hx hb dX2_endsPlace_51 rfl (lv_at hl 0 rfl) ?_
      refine va_get (D := D) (ci := 1) (v := .int (nI la_)) (C := RX2) (T := TX2) (N := 8) hx hb hts (fun w h => List.mem_cons_of_mem _ (zinX2 w h)) hown hK.1 hP 0 rfl rfl 7 (by decide) (hts _ (List.mem_cons_of_mem _ zw_69)) (fun _ h9 => h9) rfl dX2_endsPlace_52 ?_
      refine lv_aload_n hx hb dX2_endsPlace_55 rfl (lv_at hl 0 rfl) ?_
      refine va_get (D := D) (ci := 1) (v := .int (nI dg_)) (C := RX2) (T := TX2) (N := 8) hx hb hts (fun w h => List.mem_cons_of_mem _ (zinX2 w h)) hown hK.1 hP 0 rfl rfl 4 (by decide) (hts _ (List.mem_cons_of_mem _ zw_66)) (fun _ h9 => h9) rfl dX2_endsPlace_56 ?_
      refine zcSl (As := [.long mv_, .int (nI la_), .int (nI dg_)]) (rest := [.ref h0_]) ⟨hx, hb, hml, hown, hts⟩ (c_X3_with l D cy mv_ la_ dg_ (by omega) (by omega)) (va_cwS 3 hts (zG_S zw_169 zw_170 zw_171 zw_172) rfl rfl rfl zd_X3_with ⟨Nat.le_of_ble_eq_true rfl, Nat.le_of_ble_eq_true rfl⟩) hK hP [] rfl rfl hl.1 rfl (Nat.le_of_ble_eq_true rfl) dX2_endsPlace_59 ⟨Nat.zero_le _, Nat.zero_le _⟩ (fun r59 h59 => ?_)
      subst h59
      refine va_put (D := D) (ci := 1) (v := .long (wN mv_ la_ dg_)) (ty := .long) (C := RX2) (T := TX2) (N := 8) hx hb hts (fun w h => List.mem_cons_of_mem _ (zinX2 w h)) tyX2 tyX2_ok nmX2 hown hK.1 hP hD hS 0 rfl rfl 2 (by decide) (hts _ (List.mem_cons_of_mem _ zw_64)) (fun _ h9 => h9) rfl (tyX2_ok 2 (by decide)) rfl rfl (Nat.le_of_ble_eq_true rfl) dX2_endsPlace_62 (fun H locs hP hD hS => ?_)
      have hP : va_P D vwCl [(h0_, .inr (1, [.int (nI n_), .int (nI st_), .long (wN mv_ la_ dg_), .int (nI (us_ ||| (2 ^ dg_))), .int (nI dg_), .int (nI ic_), .int (nI fi_), .int (nI la_)]))] H := hP
      have hD : va_D zA [(h0_, .inr (1, [.int (nI n_), .int (nI st_), .long (wN mv_ la_ dg_), .int (nI (us_ ||| (2 ^ dg_))), .int (nI dg_), .int (nI ic_), .int (nI fi_), .int (nI la_)]))] := hD
      refine lv_aload_n hx hb dX2_endsPlace_65 rfl (lv_at hl 0 rfl) ?_
      refine lv_aload_n hx hb dX2_endsPlace_66 rfl (lv_at hl 0 rfl) ?_
      refine va_get (D := D) (ci := 1) (v := .int (nI dg_)) (C := RX2) (T := TX2) (N := 8) hx hb hts (fun w h => List.mem_cons_of_mem _ (zinX2 w h)) hown hK.1 hP 0 rfl rfl 4 (by decide) (hts _ (List.mem_cons_of_mem _ zw_66)) (fun _ h9 => h9) rfl dX2_endsPlace_67 ?_
      refine va_put (D := D) (ci := 1) (v := .int (nI dg_)) (ty := .int) (C := RX2) (T := TX2) (N := 8) hx hb hts (fun w h => List.mem_cons_of_mem _ (zinX2 w h)) tyX2 tyX2_ok nmX2 hown hK.1 hP hD hS 0 rfl rfl 7 (by decide) (hts _ (List.mem_cons_of_mem _ zw_69)) (fun _ h9 => h9) rfl (tyX2_ok 7 (by decide)) rfl rfl (Nat.le_of_ble_eq_true rfl) dX2_endsPlace_70 (fun H locs hP hD hS => ?_)
      have hP : va_P D vwCl [(h0_, .inr (1, [.int (nI n_), .int (nI st_), .long (wN mv_ la_ dg_), .int (nI (us_ ||| (2 ^ dg_))), .int (nI dg_), .int (nI ic_), .int (nI fi_), .int (nI dg_)]))] H := hP
      have hD : va_D zA [(h0_, .inr (1, [.int (nI n_), .int (nI st_), .long (wN mv_ la_ dg_), .int (nI (us_ ||| (2 ^ dg_))), .int (nI dg_), .int (nI ic_), .int (nI fi_), .int (nI dg_)]))] := hD
      refine lv_aload_n hx hb dX2_endsPlace_73 rfl (lv_at hl 0 rfl) ?_
      refine lv_dup hx hb dX2_endsPlace_74 rfl ?_
      refine va_get (D := D) (ci := 1) (v := .int (nI ic_)) (C := RX2) (T := TX2) (N := 8) hx hb hts (fun w h => List.mem_cons_of_mem _ (zinX2 w h)) hown hK.1 hP 0 rfl rfl 5 (by decide) (hts _ (List.mem_cons_of_mem _ zw_67)) (fun _ h9 => h9) rfl dX2_endsPlace_75 ?_
      refine lv_iconst (v := nI 1) hx hb dX2_endsPlace_78 (by decide) ?_
      refine zi_add (v := nI (ic_ + 1)) hx hb dX2_endsPlace_79 (nI_add _ _) ?_
      refine va_put (D := D) (ci := 1) (v := .int (nI (ic_ + 1))) (ty := .int) (C := RX2) (T := TX2) (N := 8) hx hb hts (fun w h => List.mem_cons_of_mem _ (zinX2 w h)) tyX2 tyX2_ok nmX2 hown hK.1 hP hD hS 0 rfl rfl 5 (by decide) (hts _ (List.mem_cons_of_mem _ zw_67)) (fun _ h9 => h9) rfl (tyX2_ok 5 (by decide)) rfl rfl (Nat.le_of_ble_eq_true rfl) dX2_endsPlace_80 (fun H locs hP hD hS => ?_)
      have hP : va_P D vwCl [(h0_, .inr (1, [.int (nI n_), .int (nI st_), .long (wN mv_ la_ dg_), .int (nI (us_ ||| (2 ^ dg_))), .int (nI dg_), .int (nI (ic_ + 1)), .int (nI fi_), .int (nI dg_)]))] H := hP
      have hD : va_D zA [(h0_, .inr (1, [.int (nI n_), .int (nI st_), .long (wN mv_ la_ dg_), .int (nI (us_ ||| (2 ^ dg_))), .int (nI dg_), .int (nI (ic_ + 1)), .int (nI fi_), .int (nI dg_)]))] := hD
      refine lv_aload_n hx hb dX2_endsPlace_83 rfl (lv_at hl 0 rfl) ?_
      refine lv_iconst (v := nI 2) hx hb dX2_endsPlace_84 (by decide) ?_
      refine va_put (D := D) (ci := 1) (v := .int (nI 2)) (ty := .int) (C := RX2) (T := TX2) (N := 8) hx hb hts (fun w h => List.mem_cons_of_mem _ (zinX2 w h)) tyX2 tyX2_ok nmX2 hown hK.1 hP hD hS 0 rfl rfl 1 (by decide) (hts _ (List.mem_cons_of_mem _ zw_62)) (fun _ h9 => h9) rfl (tyX2_ok 1 (by decide)) rfl rfl (Nat.le_of_ble_eq_true rfl) dX2_endsPlace_85 (fun H locs hP hD hS => ?_)
      have hP : va_P D vwCl [(h0_, .inr (1, [.int (nI n_), .int (nI 2), .long (wN mv_ la_ dg_), .int (nI (us_ ||| (2 ^ dg_))), .int (nI dg_), .int (nI (ic_ + 1)), .int (nI fi_), .int (nI dg_)]))] H := hP
      have hD : va_D zA [(h0_, .inr (1, [.int (nI n_), .int (nI 2), .long (wN mv_ la_ dg_), .int (nI (us_ ||| (2 ^ dg_))), .int (nI dg_), .int (nI (ic_ + 1)), .int (nI fi_), .int (nI dg_)]))] := hD
      refine lv_iconst (v := nI 1) hx hb dX2_endsPlace_88 (by decide) ?_
      have e_ : endR n_ st_ mv_ us_ dg_ ic_ fi_ la_ = (true, (2, wN mv_ la_ dg_, us_ ||| 2 ^ dg_, dg_, ic_ + 1, fi_, dg_)) := by rw [endR_t c8]; unfold endM endI; rw [if_neg c32, if_neg c32]
      rw [e_] at kr
      exact kr _ () _ _ _ _ dX2_endsPlace_89 rfl ⟨rfl, trivial⟩ hP hD hS
    · skip
      refine lv_aload_n hx hb dX2_endsPlace_35 rfl (lv_at hl 0 rfl) ?_
      refine lv_aload_n hx hb dX2_endsPlace_36 rfl (lv_at hl 0 rfl) ?_
      refine va_get (D := D) (ci := 1) (v := .int (nI dg_)) (C := RX2) (T := TX2) (N := 8) hx hb hts (fun w h => List.mem_cons_of_mem _ (zinX2 w h)) hown hK.1 hP 0 rfl rfl 4 (by decide) (hts _ (List.mem_cons_of_mem _ zw_66)) (fun _ h9 => h9) rfl dX2_endsPlace_37 ?_
      refine va_put (D := D) (ci := 1) (v := .int (nI dg_)) (ty := .int) (C := RX2) (T := TX2) (N := 8) hx hb hts (fun w h => List.mem_cons_of_mem _ (zinX2 w h)) tyX2 tyX2_ok nmX2 hown hK.1 hP hD hS 0 rfl rfl 6 (by decide) (hts _ (List.mem_cons_of_mem _ zw_68)) (fun _ h9 => h9) rfl (tyX2_ok 6 (by decide)) rfl rfl (Nat.le_of_ble_eq_true rfl) dX2_endsPlace_40 (fun H locs hP hD hS => ?_)
      have hP : va_P D vwCl [(h0_, .inr (1, [.int (nI n_), .int (nI st_), .long mv_, .int (nI (us_ ||| (2 ^ dg_))), .int (nI dg_), .int (nI ic_), .int (nI dg_), .int (nI la_)]))] H := hP
      have hD : va_D zA [(h0_, .inr (1, [.int (nI n_), .int (nI st_), .long mv_, .int (nI (us_ ||| (2 ^ dg_))), .int (nI dg_), .int (nI ic_), .int (nI dg_), .int (nI la_)]))] := hD
      refine lv_goto (tgt := 65) hx hb dX2_endsPlace_43 (by decide) ?_
      refine lv_aload_n hx hb dX2_endsPlace_65 rfl (lv_at hl 0 rfl) ?_
      refine lv_aload_n hx hb dX2_endsPlace_66 rfl (lv_at hl 0 rfl) ?_
      refine va_get (D := D) (ci := 1) (v := .int (nI dg_)) (C := RX2) (T := TX2) (N := 8) hx hb hts (fun w h => List.mem_cons_of_mem _ (zinX2 w h)) hown hK.1 hP 0 rfl rfl 4 (by decide) (hts _ (List.mem_cons_of_mem _ zw_66)) (fun _ h9 => h9) rfl dX2_endsPlace_67 ?_
      refine va_put (D := D) (ci := 1) (v := .int (nI dg_)) (ty := .int) (C := RX2) (T := TX2) (N := 8) hx hb hts (fun w h => List.mem_cons_of_mem _ (zinX2 w h)) tyX2 tyX2_ok nmX2 hown hK.1 hP hD hS 0 rfl rfl 7 (by decide) (hts _ (List.mem_cons_of_mem _ zw_69)) (fun _ h9 => h9) rfl (tyX2_ok 7 (by decide)) rfl rfl (Nat.le_of_ble_eq_true rfl) dX2_endsPlace_70 (fun H locs hP hD hS => ?_)
      have hP : va_P D vwCl [(h0_, .inr (1, [.int (nI n_), .int (nI st_), .long mv_, .int (nI (us_ ||| (2 ^ dg_))), .int (nI dg_), .int (nI ic_), .int (nI dg_), .int (nI dg_)]))] H := hP
      have hD : va_D zA [(h0_, .inr (1, [.int (nI n_), .int (nI st_), .long mv_, .int (nI (us_ ||| (2 ^ dg_))), .int (nI dg_), .int (nI ic_), .int (nI dg_), .int (nI dg_)]))] := hD
      refine lv_aload_n hx hb dX2_endsPlace_73 rfl (lv_at hl 0 rfl) ?_
      refine lv_dup hx hb dX2_endsPlace_74 rfl ?_
      refine va_get (D := D) (ci := 1) (v := .int (nI ic_)) (C := RX2) (T := TX2) (N := 8) hx hb hts (fun w h => List.mem_cons_of_mem _ (zinX2 w h)) hown hK.1 hP 0 rfl rfl 5 (by decide) (hts _ (List.mem_cons_of_mem _ zw_67)) (fun _ h9 => h9) rfl dX2_endsPlace_75 ?_
      refine lv_iconst (v := nI 1) hx hb dX2_endsPlace_78 (by decide) ?_
      refine zi_add (v := nI (ic_ + 1)) hx hb dX2_endsPlace_79 (nI_add _ _) ?_
      refine va_put (D := D) (ci := 1) (v := .int (nI (ic_ + 1))) (ty := .int) (C := RX2) (T := TX2) (N := 8) hx hb hts (fun w h => List.mem_cons_of_mem _ (zinX2 w h)) tyX2 tyX2_ok nmX2 hown hK.1 hP hD hS 0 rfl rfl 5 (by decide) (hts _ (List.mem_cons_of_mem _ zw_67)) (fun _ h9 => h9) rfl (tyX2_ok 5 (by decide)) rfl rfl (Nat.le_of_ble_eq_true rfl) dX2_endsPlace_80 (fun H locs hP hD hS => ?_)
      have hP : va_P D vwCl [(h0_, .inr (1, [.int (nI n_), .int (nI st_), .long mv_, .int (nI (us_ ||| (2 ^ dg_))), .int (nI dg_), .int (nI (ic_ + 1)), .int (nI dg_), .int (nI dg_)]))] H := hP
      have hD : va_D zA [(h0_, .inr (1, [.int (nI n_), .int (nI st_), .long mv_, .int (nI (us_ ||| (2 ^ dg_))), .int (nI dg_), .int (nI (ic_ + 1)), .int (nI dg_), .int (nI dg_)]))] := hD
      refine lv_aload_n hx hb dX2_endsPlace_83 rfl (lv_at hl 0 rfl) ?_
      refine lv_iconst (v := nI 2) hx hb dX2_endsPlace_84 (by decide) ?_
      refine va_put (D := D) (ci := 1) (v := .int (nI 2)) (ty := .int) (C := RX2) (T := TX2) (N := 8) hx hb hts (fun w h => List.mem_cons_of_mem _ (zinX2 w h)) tyX2 tyX2_ok nmX2 hown hK.1 hP hD hS 0 rfl rfl 1 (by decide) (hts _ (List.mem_cons_of_mem _ zw_62)) (fun _ h9 => h9) rfl (tyX2_ok 1 (by decide)) rfl rfl (Nat.le_of_ble_eq_true rfl) dX2_endsPlace_85 (fun H locs hP hD hS => ?_)
      have hP : va_P D vwCl [(h0_, .inr (1, [.int (nI n_), .int (nI 2), .long mv_, .int (nI (us_ ||| (2 ^ dg_))), .int (nI dg_), .int (nI (ic_ + 1)), .int (nI dg_), .int (nI dg_)]))] H := hP
      have hD : va_D zA [(h0_, .inr (1, [.int (nI n_), .int (nI 2), .long mv_, .int (nI (us_ ||| (2 ^ dg_))), .int (nI dg_), .int (nI (ic_ + 1)), .int (nI dg_), .int (nI dg_)]))] := hD
      refine lv_iconst (v := nI 1) hx hb dX2_endsPlace_88 (by decide) ?_
      have e_ : endR n_ st_ mv_ us_ dg_ ic_ fi_ la_ = (true, (2, mv_, us_ ||| 2 ^ dg_, dg_, ic_ + 1, dg_, dg_)) := by rw [endR_t c8]; unfold endM endI; rw [if_pos c32, if_pos c32]
      rw [e_] at kr
      exact kr _ () _ _ _ _ dX2_endsPlace_89 rfl ⟨rfl, trivial⟩ hP hD hS
  · skip
    refine lv_iconst (v := nI 0) hx hb dX2_endsPlace_11 (by decide) ?_
    have e_ : endR n_ st_ mv_ us_ dg_ ic_ fi_ la_ = (false, (st_, mv_, us_, dg_, ic_, fi_, la_)) := endR_f c8
    rw [e_] at kr
    exact kr _ () _ _ _ _ dX2_endsPlace_12 rfl ⟨rfl, trivial⟩ hP hD hS
abbrev w_X2_closesCycle : List Cond := Cond.code yX2_closesCycle cX2_closesCycle 1 (some .boolean) :: zAll
abbrev r_X2_closesCycle : Room := { frames := 1, cells := 0, slots := 0, locals := 25 }
theorem zd_X2_closesCycle : yX2_closesCycle.cls = RX2 ∧ yX2_closesCycle.cls ≠ "java/lang/invoke/MethodHandle" ∧ yX2_closesCycle.cls ≠ "java/lang/invoke/VarHandle" ∧ (parseMethodDescriptor yX2_closesCycle.desc).map (fun d => d.parameters.length) = some 0 := by decide +kernel
set_option maxHeartbeats 4000000 in
set_option maxRecDepth 100000 in
theorem c_X2_closesCycle (l : Launch) (D : va_G) (cy : Nat → ClassId) (sz : Nat) (h0_ : Nat) (n_ : Nat) (st_ : Nat) (mv_ : Int64) (us_ : Nat) (dg_ : Nat) (ic_ : Nat) (fi_ : Nat) (la_ : Nat) (hla : la_ < 16) (hfi : fi_ < 16) : zWi l yX2_closesCycle w_X2_closesCycle r_X2_closesCycle D cy [(h0_, .inr (1, [.int (nI n_), .int (nI st_), .long mv_, .int (nI us_), .int (nI dg_), .int (nI ic_), .int (nI fi_), .int (nI la_)]))] sz [.ref h0_] (fun (r_ : Int32) (u : Unit) => r_ = (nI 1) ∧ True) (fun u : Unit => ([(h0_, .inr (1, [.int (nI n_), .int (nI 4), .long (wN mv_ la_ fi_), .int (nI us_), .int (nI dg_), .int (nI ic_), .int (nI fi_), .int (nI la_)]))] : va_W)) := by
  refine zOfW (cc := cX2_closesCycle) (maxL := 1) (ty := .boolean) (by decide) rfl (Nat.le_of_ble_eq_true rfl) ?_
  intro zp ze zs zm za zb zme zc hx hb hml hts hown hP hK zA hD hA Q kr ls hl
  have hS : va_S zA zs.heap zs.heap [] := va_S.rf
  have hown : zs.vm.findClass RX2 = some zm.cls := hown
  have hl : lv_has ls 1 [(0, .ref h0_)] := hl
  refine lv_aload_n hx hb dX2_closesCycle_0 rfl (lv_at hl 0 rfl) ?_
  refine lv_aload_n hx hb dX2_closesCycle_1 rfl (lv_at hl 0 rfl) ?_
  refine va_get (D := D) (ci := 1) (v := .long mv_) (C := RX2) (T := TX2) (N := 8) hx hb hts (fun w h => List.mem_cons_of_mem _ (zinX2 w h)) hown hK.1 hP 0 rfl rfl 2 (by decide) (hts _ (List.mem_cons_of_mem _ zw_64)) (fun _ h9 => h9) rfl dX2_closesCycle_2 ?_
  refine lv_aload_n hx hb dX2_closesCycle_5 rfl (lv_at hl 0 rfl) ?_
  refine va_get (D := D) (ci := 1) (v := .int (nI la_)) (C := RX2) (T := TX2) (N := 8) hx hb hts (fun w h => List.mem_cons_of_mem _ (zinX2 w h)) hown hK.1 hP 0 rfl rfl 7 (by decide) (hts _ (List.mem_cons_of_mem _ zw_69)) (fun _ h9 => h9) rfl dX2_closesCycle_6 ?_
  refine lv_aload_n hx hb dX2_closesCycle_9 rfl (lv_at hl 0 rfl) ?_
  refine va_get (D := D) (ci := 1) (v := .int (nI fi_)) (C := RX2) (T := TX2) (N := 8) hx hb hts (fun w h => List.mem_cons_of_mem _ (zinX2 w h)) hown hK.1 hP 0 rfl rfl 6 (by decide) (hts _ (List.mem_cons_of_mem _ zw_68)) (fun _ h9 => h9) rfl dX2_closesCycle_10 ?_
  refine zcSl (As := [.long mv_, .int (nI la_), .int (nI fi_)]) (rest := [.ref h0_]) ⟨hx, hb, hml, hown, hts⟩ (c_X3_with l D cy mv_ la_ fi_ (by omega) (by omega)) (va_cwS 3 hts (zG_S zw_169 zw_170 zw_171 zw_172) rfl rfl rfl zd_X3_with ⟨Nat.le_of_ble_eq_true rfl, Nat.le_of_ble_eq_true rfl⟩) hK hP [] rfl rfl hl.1 rfl (Nat.le_of_ble_eq_true rfl) dX2_closesCycle_13 ⟨Nat.zero_le _, Nat.zero_le _⟩ (fun r13 h13 => ?_)
  subst h13
  refine va_put (D := D) (ci := 1) (v := .long (wN mv_ la_ fi_)) (ty := .long) (C := RX2) (T := TX2) (N := 8) hx hb hts (fun w h => List.mem_cons_of_mem _ (zinX2 w h)) tyX2 tyX2_ok nmX2 hown hK.1 hP hD hS 0 rfl rfl 2 (by decide) (hts _ (List.mem_cons_of_mem _ zw_64)) (fun _ h9 => h9) rfl (tyX2_ok 2 (by decide)) rfl rfl (Nat.le_of_ble_eq_true rfl) dX2_closesCycle_16 (fun H locs hP hD hS => ?_)
  have hP : va_P D vwCl [(h0_, .inr (1, [.int (nI n_), .int (nI st_), .long (wN mv_ la_ fi_), .int (nI us_), .int (nI dg_), .int (nI ic_), .int (nI fi_), .int (nI la_)]))] H := hP
  have hD : va_D zA [(h0_, .inr (1, [.int (nI n_), .int (nI st_), .long (wN mv_ la_ fi_), .int (nI us_), .int (nI dg_), .int (nI ic_), .int (nI fi_), .int (nI la_)]))] := hD
  refine lv_aload_n hx hb dX2_closesCycle_19 rfl (lv_at hl 0 rfl) ?_
  refine lv_iconst (v := nI 4) hx hb dX2_closesCycle_20 (by decide) ?_
  refine va_put (D := D) (ci := 1) (v := .int (nI 4)) (ty := .int) (C := RX2) (T := TX2) (N := 8) hx hb hts (fun w h => List.mem_cons_of_mem _ (zinX2 w h)) tyX2 tyX2_ok nmX2 hown hK.1 hP hD hS 0 rfl rfl 1 (by decide) (hts _ (List.mem_cons_of_mem _ zw_62)) (fun _ h9 => h9) rfl (tyX2_ok 1 (by decide)) rfl rfl (Nat.le_of_ble_eq_true rfl) dX2_closesCycle_21 (fun H locs hP hD hS => ?_)
  have hP : va_P D vwCl [(h0_, .inr (1, [.int (nI n_), .int (nI 4), .long (wN mv_ la_ fi_), .int (nI us_), .int (nI dg_), .int (nI ic_), .int (nI fi_), .int (nI la_)]))] H := hP
  have hD : va_D zA [(h0_, .inr (1, [.int (nI n_), .int (nI 4), .long (wN mv_ la_ fi_), .int (nI us_), .int (nI dg_), .int (nI ic_), .int (nI fi_), .int (nI la_)]))] := hD
  refine lv_iconst (v := nI 1) hx hb dX2_closesCycle_24 (by decide) ?_
  exact kr _ () _ _ _ _ dX2_closesCycle_25 rfl ⟨rfl, trivial⟩ hP hD hS
abbrev w_X2_mayEnd : List Cond := Cond.code yX2_mayEnd cX2_mayEnd 1 (some .boolean) :: zAll
abbrev r_X2_mayEnd : Room := { frames := 0, cells := 0, slots := 0, locals := 0 }
theorem zd_X2_mayEnd : yX2_mayEnd.cls = RX2 ∧ yX2_mayEnd.cls ≠ "java/lang/invoke/MethodHandle" ∧ yX2_mayEnd.cls ≠ "java/lang/invoke/VarHandle" ∧ (parseMethodDescriptor yX2_mayEnd.desc).map (fun d => d.parameters.length) = some 0 := by decide +kernel
set_option maxHeartbeats 4000000 in
set_option maxRecDepth 100000 in
theorem c_X2_mayEnd (l : Launch) (D : va_G) (cy : Nat → ClassId) (h0_ : Nat) (n_ : Nat) (st_ : Nat) (mv_ : Int64) (us_ : Nat) (dg_ : Nat) (ic_ : Nat) (fi_ : Nat) (la_ : Nat) (hst : st_ ≤ 4) : zMi l yX2_mayEnd w_X2_mayEnd r_X2_mayEnd D cy [(h0_, .inr (1, [.int (nI n_), .int (nI st_), .long mv_, .int (nI us_), .int (nI dg_), .int (nI ic_), .int (nI fi_), .int (nI la_)]))] [.ref h0_] (fun r_ => r_ = (if (st_ = 1 ∨ st_ = 4) then 1 else 0)) := by
  refine zOfR (cc := cX2_mayEnd) (maxL := 1) (ty := .boolean) (by decide) rfl (Nat.le_of_ble_eq_true rfl) ?_
  intro zp ze zs zm za zb zme zc hx hb hml hts hown hP hK Q kr ls hl
  have hown : zs.vm.findClass RX2 = some zm.cls := hown
  have hl : lv_has ls 1 [(0, .ref h0_)] := hl
  refine lv_aload_n hx hb dX2_mayEnd_0 rfl (lv_at hl 0 rfl) ?_
  refine va_get (D := D) (ci := 1) (v := .int (nI st_)) (C := RX2) (T := TX2) (N := 8) hx hb hts (fun w h => List.mem_cons_of_mem _ (zinX2 w h)) hown hK.1 hP 0 rfl rfl 1 (by decide) (hts _ (List.mem_cons_of_mem _ zw_62)) (fun _ h9 => h9) rfl dX2_mayEnd_1 ?_
  refine lv_iconst (v := nI 1) hx hb dX2_mayEnd_4 (by decide) ?_
  refine zb_eq (a := st_) (b := 1) (tgt := 16) hx hb dX2_mayEnd_5 (by decide) (by omega) (by omega) (fun c5 => ?_) (fun c5 => ?_)
  · skip
    refine lv_iconst (v := nI 1) hx hb dX2_mayEnd_16 (by decide) ?_
    refine lv_goto (tgt := 21) hx hb dX2_mayEnd_17 (by decide) ?_
    exact kr _ _ _ dX2_mayEnd_21 rfl (by rw [if_pos (by omega)]; rfl)
  · skip
    refine lv_aload_n hx hb dX2_mayEnd_8 rfl (lv_at hl 0 rfl) ?_
    refine va_get (D := D) (ci := 1) (v := .int (nI st_)) (C := RX2) (T := TX2) (N := 8) hx hb hts (fun w h => List.mem_cons_of_mem _ (zinX2 w h)) hown hK.1 hP 0 rfl rfl 1 (by decide) (hts _ (List.mem_cons_of_mem _ zw_62)) (fun _ h9 => h9) rfl dX2_mayEnd_9 ?_
    refine lv_iconst (v := nI 4) hx hb dX2_mayEnd_12 (by decide) ?_
    refine zb_ne (a := st_) (b := 4) (tgt := 20) hx hb dX2_mayEnd_13 (by decide) (by omega) (by omega) (fun c13 => ?_) (fun c13 => ?_)
    · skip
      refine lv_iconst (v := nI 0) hx hb dX2_mayEnd_20 (by decide) ?_
      exact kr _ _ _ dX2_mayEnd_21 rfl (by rw [if_neg (by omega)]; rfl)
    · skip
      refine lv_iconst (v := nI 1) hx hb dX2_mayEnd_16 (by decide) ?_
      refine lv_goto (tgt := 21) hx hb dX2_mayEnd_17 (by decide) ?_
      exact kr _ _ _ dX2_mayEnd_21 rfl (by rw [if_pos (by omega)]; rfl)
abbrev w_X2_begin : List Cond := Cond.code yX2_begin cX2_begin 2 none :: zAll
abbrev r_X2_begin : Room := { frames := 0, cells := 0, slots := 0, locals := 0 }
theorem zd_X2_begin : yX2_begin.cls = RX2 ∧ yX2_begin.cls ≠ "java/lang/invoke/MethodHandle" ∧ yX2_begin.cls ≠ "java/lang/invoke/VarHandle" ∧ (parseMethodDescriptor yX2_begin.desc).map (fun d => d.parameters.length) = some 1 := by decide +kernel
set_option maxHeartbeats 4000000 in
set_option maxRecDepth 100000 in
theorem c_X2_begin (l : Launch) (D : va_G) (cy : Nat → ClassId) (sz : Nat) (h0_ : Nat) (n_ : Nat) (st_ : Nat) (mv_ : Int64) (us_ : Nat) (dg_ : Nat) (ic_ : Nat) (fi_ : Nat) (la_ : Nat) (v_ : Nat) : zWv l yX2_begin w_X2_begin r_X2_begin D cy [(h0_, .inr (1, [.int (nI n_), .int (nI st_), .long mv_, .int (nI us_), .int (nI dg_), .int (nI ic_), .int (nI fi_), .int (nI la_)]))] sz [.ref h0_, .int (nI v_)] (fun u : Unit => True) (fun u : Unit => ([(h0_, .inr (1, [.int (nI v_), .int (nI 0), .long stayL, .int (nI 0), .int (nI dg_), .int (nI ic_), .int (nI fi_), .int (nI la_)]))] : va_W)) 0 0 := by
  refine zOfV (cc := cX2_begin) (maxL := 2) (by decide) rfl (Nat.le_of_ble_eq_true rfl) ?_
  intro zp ze zs zm za zb zme zc hx hb hml hts hown hP hK zA hD hA Q kr ls hl hin
  have hS : va_S zA zs.heap zs.heap [] := va_S.rf
  have hown : zs.vm.findClass RX2 = some zm.cls := hown
  have hl : lv_has ls 2 [(0, .ref h0_), (1, .int (nI v_))] := hl
  refine lv_aload_n hx hb dX2_begin_0 rfl (lv_at hl 0 rfl) ?_
  refine lv_iload_n hx hb dX2_begin_1 rfl (lv_at hl 1 rfl) ?_
  refine va_put (D := D) (ci := 1) (v := .int (nI v_)) (ty := .int) (C := RX2) (T := TX2) (N := 8) hx hb hts (fun w h => List.mem_cons_of_mem _ (zinX2 w h)) tyX2 tyX2_ok nmX2 hown hK.1 hP hD hS 0 rfl rfl 0 (by decide) (hts _ (List.mem_cons_of_mem _ zw_61)) (fun _ h9 => h9) rfl (tyX2_ok 0 (by decide)) rfl rfl (Nat.le_of_ble_eq_true rfl) dX2_begin_2 (fun H locs hP hD hS => ?_)
  have hP : va_P D vwCl [(h0_, .inr (1, [.int (nI v_), .int (nI st_), .long mv_, .int (nI us_), .int (nI dg_), .int (nI ic_), .int (nI fi_), .int (nI la_)]))] H := hP
  have hD : va_D zA [(h0_, .inr (1, [.int (nI v_), .int (nI st_), .long mv_, .int (nI us_), .int (nI dg_), .int (nI ic_), .int (nI fi_), .int (nI la_)]))] := hD
  refine lv_aload_n hx hb dX2_begin_5 rfl (lv_at hl 0 rfl) ?_
  refine lv_iconst (v := nI 0) hx hb dX2_begin_6 (by decide) ?_
  refine va_put (D := D) (ci := 1) (v := .int (nI 0)) (ty := .int) (C := RX2) (T := TX2) (N := 8) hx hb hts (fun w h => List.mem_cons_of_mem _ (zinX2 w h)) tyX2 tyX2_ok nmX2 hown hK.1 hP hD hS 0 rfl rfl 1 (by decide) (hts _ (List.mem_cons_of_mem _ zw_62)) (fun _ h9 => h9) rfl (tyX2_ok 1 (by decide)) rfl rfl (Nat.le_of_ble_eq_true rfl) dX2_begin_7 (fun H locs hP hD hS => ?_)
  have hP : va_P D vwCl [(h0_, .inr (1, [.int (nI v_), .int (nI 0), .long mv_, .int (nI us_), .int (nI dg_), .int (nI ic_), .int (nI fi_), .int (nI la_)]))] H := hP
  have hD : va_D zA [(h0_, .inr (1, [.int (nI v_), .int (nI 0), .long mv_, .int (nI us_), .int (nI dg_), .int (nI ic_), .int (nI fi_), .int (nI la_)]))] := hD
  refine lv_aload_n hx hb dX2_begin_10 rfl (lv_at hl 0 rfl) ?_
  refine lv_ldc2 hx hb hown (hts _ (List.mem_cons_of_mem _ zw_63)) dX2_begin_11 ?_
  refine zl_top (v := stayL) rfl ?_
  refine va_put (D := D) (ci := 1) (v := .long stayL) (ty := .long) (C := RX2) (T := TX2) (N := 8) hx hb hts (fun w h => List.mem_cons_of_mem _ (zinX2 w h)) tyX2 tyX2_ok nmX2 hown hK.1 hP hD hS 0 rfl rfl 2 (by decide) (hts _ (List.mem_cons_of_mem _ zw_64)) (fun _ h9 => h9) rfl (tyX2_ok 2 (by decide)) rfl rfl (Nat.le_of_ble_eq_true rfl) dX2_begin_14 (fun H locs hP hD hS => ?_)
  have hP : va_P D vwCl [(h0_, .inr (1, [.int (nI v_), .int (nI 0), .long stayL, .int (nI us_), .int (nI dg_), .int (nI ic_), .int (nI fi_), .int (nI la_)]))] H := hP
  have hD : va_D zA [(h0_, .inr (1, [.int (nI v_), .int (nI 0), .long stayL, .int (nI us_), .int (nI dg_), .int (nI ic_), .int (nI fi_), .int (nI la_)]))] := hD
  refine lv_aload_n hx hb dX2_begin_17 rfl (lv_at hl 0 rfl) ?_
  refine lv_iconst (v := nI 0) hx hb dX2_begin_18 (by decide) ?_
  refine va_put (D := D) (ci := 1) (v := .int (nI 0)) (ty := .int) (C := RX2) (T := TX2) (N := 8) hx hb hts (fun w h => List.mem_cons_of_mem _ (zinX2 w h)) tyX2 tyX2_ok nmX2 hown hK.1 hP hD hS 0 rfl rfl 3 (by decide) (hts _ (List.mem_cons_of_mem _ zw_65)) (fun _ h9 => h9) rfl (tyX2_ok 3 (by decide)) rfl rfl (Nat.le_of_ble_eq_true rfl) dX2_begin_19 (fun H locs hP hD hS => ?_)
  have hP : va_P D vwCl [(h0_, .inr (1, [.int (nI v_), .int (nI 0), .long stayL, .int (nI 0), .int (nI dg_), .int (nI ic_), .int (nI fi_), .int (nI la_)]))] H := hP
  have hD : va_D zA [(h0_, .inr (1, [.int (nI v_), .int (nI 0), .long stayL, .int (nI 0), .int (nI dg_), .int (nI ic_), .int (nI fi_), .int (nI la_)]))] := hD
  exact kr () _ _ _ _ dX2_begin_22 trivial hP hD hS
abbrev w_X2_takes : List Cond := Cond.code yX2_takes cX2_takes 2 (some .boolean) :: zAll
abbrev r_X2_takes : Room := { frames := 3, cells := 0, slots := 0, locals := 66 }
theorem zd_X2_takes : yX2_takes.cls = RX2 ∧ yX2_takes.cls ≠ "java/lang/invoke/MethodHandle" ∧ yX2_takes.cls ≠ "java/lang/invoke/VarHandle" ∧ (parseMethodDescriptor yX2_takes.desc).map (fun d => d.parameters.length) = some 1 := by decide +kernel
set_option maxHeartbeats 4000000 in
set_option maxRecDepth 100000 in
theorem c_X2_takes (l : Launch) (D : va_G) (cy : Nat → ClassId) (sz : Nat) (h0_ : Nat) (n_ : Nat) (st_ : Nat) (mv_ : Int64) (us_ : Nat) (dg_ : Nat) (ic_ : Nat) (fi_ : Nat) (la_ : Nat) (ch_ : Nat) (hch : ch_ < 65536) (hn : n_ ≤ 16) (hus : us_ < 65536) (hst : st_ ≤ 4) (hdg : dg_ < 16) (hfi : fi_ < 16) (hla : la_ < 16) (hic : ic_ < 2 ^ 30) : zWi l yX2_takes w_X2_takes r_X2_takes D cy [(h0_, .inr (1, [.int (nI n_), .int (nI st_), .long mv_, .int (nI us_), .int (nI dg_), .int (nI ic_), .int (nI fi_), .int (nI la_)]))] sz [.ref h0_, .int (nI ch_)] (fun (r_ : Int32) (u : Unit) => r_ = (if (stepR n_ st_ mv_ us_ dg_ ic_ fi_ la_ ch_).1 = true then 1 else 0) ∧ True) (fun u : Unit => ([(h0_, .inr (1, [.int (nI n_), .int (nI ((stepR n_ st_ mv_ us_ dg_ ic_ fi_ la_ ch_).2.1)), .long ((stepR n_ st_ mv_ us_ dg_ ic_ fi_ la_ ch_).2.2.1), .int (nI ((stepR n_ st_ mv_ us_ dg_ ic_ fi_ la_ ch_).2.2.2.1)), .int (nI ((stepR n_ st_ mv_ us_ dg_ ic_ fi_ la_ ch_).2.2.2.2.1)), .int (nI ((stepR n_ st_ mv_ us_ dg_ ic_ fi_ la_ ch_).2.2.2.2.2.1)), .int (nI ((stepR n_ st_ mv_ us_ dg_ ic_ fi_ la_ ch_).2.2.2.2.2.2.1)), .int (nI ((stepR n_ st_ mv_ us_ dg_ ic_ fi_ la_ ch_).2.2.2.2.2.2.2))]))] : va_W)) := by
  refine zOfW (cc := cX2_takes) (maxL := 2) (ty := .boolean) (by decide) rfl (Nat.le_of_ble_eq_true rfl) ?_
  intro zp ze zs zm za zb zme zc hx hb hml hts hown hP hK zA hD hA Q kr ls hl
  have hS : va_S zA zs.heap zs.heap [] := va_S.rf
  have hown : zs.vm.findClass RX2 = some zm.cls := hown
  have hl : lv_has ls 2 [(0, .ref h0_), (1, .int (nI ch_))] := hl
  refine lv_aload_n hx hb dX2_takes_0 rfl (lv_at hl 0 rfl) ?_
  refine va_get (D := D) (ci := 1) (v := .int (nI st_)) (C := RX2) (T := TX2) (N := 8) hx hb hts (fun w h => List.mem_cons_of_mem _ (zinX2 w h)) hown hK.1 hP 0 rfl rfl 1 (by decide) (hts _ (List.mem_cons_of_mem _ zw_62)) (fun _ h9 => h9) rfl dX2_takes_1 ?_
  have hsw4 : (nI st_).toInt = ((st_ : Nat) : Int) := (nI_toInt (by omega))
  rcases (show ((st_ : Nat) : Int) = 0 ∨ ((st_ : Nat) : Int) = 1 ∨ ((st_ : Nat) : Int) = 2 ∨ ((st_ : Nat) : Int) = 3 ∨ ((st_ : Nat) : Int) = 4 by omega) with c4 | c4 | c4 | c4 | c4
  · refine lv_tableIn (tgt := 40) (off := 36) hx hb dX2_takes_4 (by rw [hsw4, c4]; decide) (by rw [hsw4, c4]; decide) (by rw [hsw4, c4]; rfl) (by decide) ?_
    refine lv_iload_n hx hb dX2_takes_40 rfl (lv_at hl 1 rfl) ?_
    refine lv_bipush (v := nI 101) hx hb dX2_takes_41 (by decide) ?_
    refine zb_ne (a := ch_) (b := 101) (tgt := 53) hx hb dX2_takes_43 (by decide) (by omega) (by omega) (fun c43 => ?_) (fun c43 => ?_)
    · skip
      refine lv_aload_n hx hb dX2_takes_53 rfl (lv_at hl 0 rfl) ?_
      refine lv_iload_n hx hb dX2_takes_54 rfl (lv_at hl 1 rfl) ?_
      refine zcWi (As := [.int (nI ch_)]) (rest := []) (wr := []) ⟨hx, hb, hml, hown, hts⟩ (c_X2_takesOpening l D cy zs.heap.size h0_ n_ st_ mv_ us_ dg_ ic_ fi_ la_ ch_ (by omega)) (cwV 1 hts (zG_V zw_149 zw_150 zw_151 zw_28 zw_152) rfl rfl rfl zd_X2_takesOpening ⟨Nat.le_of_ble_eq_true rfl, Nat.le_of_ble_eq_true rfl⟩) hK hP hD hS hA [0] [] [0] rfl (by decide) rfl (by decide) (by decide) (w2 := (fun u_ : Unit => ([(h0_, .inr (1, [.int (nI n_), .int (nI ((opnR st_ mv_ us_ dg_ ic_ fi_ la_ ch_).2.1)), .long ((opnR st_ mv_ us_ dg_ ic_ fi_ la_ ch_).2.2.1), .int (nI ((opnR st_ mv_ us_ dg_ ic_ fi_ la_ ch_).2.2.2.1)), .int (nI ((opnR st_ mv_ us_ dg_ ic_ fi_ la_ ch_).2.2.2.2.1)), .int (nI ((opnR st_ mv_ us_ dg_ ic_ fi_ la_ ch_).2.2.2.2.2.1)), .int (nI ((opnR st_ mv_ us_ dg_ ic_ fi_ la_ ch_).2.2.2.2.2.2.1)), .int (nI ((opnR st_ mv_ us_ dg_ ic_ fi_ la_ ch_).2.2.2.2.2.2.2))]))] : va_W))) (fun _ => rfl) (by decide) rfl rfl rfl rfl hl.1 rfl (Nat.le_of_ble_eq_true rfl) dX2_takes_55 ⟨Nat.zero_le _, Nat.zero_le _⟩ (fun r55 u55 H locs h55 hP hD hS => ?_)
      obtain ⟨hr55, h55⟩ := h55
      have hr55 : r55 = if (opnR st_ mv_ us_ dg_ ic_ fi_ la_ ch_).1 = true then 1 else 0 := hr55
      have h55 : True := h55
      subst hr55
      have hP : va_P D vwCl [(h0_, .inr (1, [.int (nI n_), .int (nI ((opnR st_ mv_ us_ dg_ ic_ fi_ la_ ch_).2.1)), .long ((opnR st_ mv_ us_ dg_ ic_ fi_ la_ ch_).2.2.1), .int (nI ((opnR st_ mv_ us_ dg_ ic_ fi_ la_ ch_).2.2.2.1)), .int (nI ((opnR st_ mv_ us_ dg_ ic_ fi_ la_ ch_).2.2.2.2.1)), .int (nI ((opnR st_ mv_ us_ dg_ ic_ fi_ la_ ch_).2.2.2.2.2.1)), .int (nI ((opnR st_ mv_ us_ dg_ ic_ fi_ la_ ch_).2.2.2.2.2.2.1)), .int (nI ((opnR st_ mv_ us_ dg_ ic_ fi_ la_ ch_).2.2.2.2.2.2.2))]))] H := hP
      have hD : va_D zA [(h0_, .inr (1, [.int (nI n_), .int (nI ((opnR st_ mv_ us_ dg_ ic_ fi_ la_ ch_).2.1)), .long ((opnR st_ mv_ us_ dg_ ic_ fi_ la_ ch_).2.2.1), .int (nI ((opnR st_ mv_ us_ dg_ ic_ fi_ la_ ch_).2.2.2.1)), .int (nI ((opnR st_ mv_ us_ dg_ ic_ fi_ la_ ch_).2.2.2.2.1)), .int (nI ((opnR st_ mv_ us_ dg_ ic_ fi_ la_ ch_).2.2.2.2.2.1)), .int (nI ((opnR st_ mv_ us_ dg_ ic_ fi_ la_ ch_).2.2.2.2.2.2.1)), .int (nI ((opnR st_ mv_ us_ dg_ ic_ fi_ la_ ch_).2.2.2.2.2.2.2))]))] := hD
      have hs_ : st_ = 0 := by omega
      have e_ : stepR n_ st_ mv_ us_ dg_ ic_ fi_ la_ ch_ = opnR st_ mv_ us_ dg_ ic_ fi_ la_ ch_ := by rw [hs_]; exact step0 c43
      rw [e_] at kr
      exact kr _ () _ _ _ _ dX2_takes_58 (zz_narb _) ⟨rfl, trivial⟩ hP hD hS
    · skip
      refine lv_aload_n hx hb dX2_takes_46 rfl (lv_at hl 0 rfl) ?_
      refine zcWi (As := []) (rest := []) (wr := []) ⟨hx, hb, hml, hown, hts⟩ (c_X2_takesStay l D cy zs.heap.size h0_ n_ st_ mv_ us_ dg_ ic_ fi_ la_) (cwV 0 hts (zG_V zw_145 zw_146 zw_147 zw_28 zw_148) rfl rfl rfl zd_X2_takesStay ⟨Nat.le_of_ble_eq_true rfl, Nat.le_of_ble_eq_true rfl⟩) hK hP hD hS hA [0] [] [0] rfl (by decide) rfl (by decide) (by decide) (w2 := (fun u_ : Unit => ([(h0_, .inr (1, [.int (nI n_), .int (nI 1), .long mv_, .int (nI us_), .int (nI dg_), .int (nI ic_), .int (nI fi_), .int (nI la_)]))] : va_W))) (fun _ => rfl) (by decide) rfl rfl rfl rfl hl.1 rfl (Nat.le_of_ble_eq_true rfl) dX2_takes_47 ⟨Nat.zero_le _, Nat.zero_le _⟩ (fun r47 u47 H locs h47 hP hD hS => ?_)
      obtain ⟨hr47, h47⟩ := h47
      have hr47 : r47 = nI 1 := hr47
      have h47 : True := h47
      subst hr47
      have hP : va_P D vwCl [(h0_, .inr (1, [.int (nI n_), .int (nI 1), .long mv_, .int (nI us_), .int (nI dg_), .int (nI ic_), .int (nI fi_), .int (nI la_)]))] H := hP
      have hD : va_D zA [(h0_, .inr (1, [.int (nI n_), .int (nI 1), .long mv_, .int (nI us_), .int (nI dg_), .int (nI ic_), .int (nI fi_), .int (nI la_)]))] := hD
      refine lv_goto (tgt := 58) hx hb dX2_takes_50 (by decide) ?_
      have hs_ : st_ = 0 := by omega
      have e_ : stepR n_ st_ mv_ us_ dg_ ic_ fi_ la_ ch_ = (true, (1, mv_, us_, dg_, ic_, fi_, la_)) := by rw [hs_, c43]; exact step0e
      rw [e_] at kr
      exact kr _ () _ _ _ _ dX2_takes_58 rfl ⟨rfl, trivial⟩ hP hD hS
  · refine lv_tableIn (tgt := 141) (off := 137) hx hb dX2_takes_4 (by rw [hsw4, c4]; decide) (by rw [hsw4, c4]; decide) (by rw [hsw4, c4]; rfl) (by decide) ?_
    refine lv_iconst (v := nI 0) hx hb dX2_takes_141 (by decide) ?_
    have hs_ : st_ = 1 := by omega
    have e_ : stepR n_ st_ mv_ us_ dg_ ic_ fi_ la_ ch_ = (false, (st_, mv_, us_, dg_, ic_, fi_, la_)) := by rw [hs_]; exact step1
    rw [e_] at kr
    exact kr _ () _ _ _ _ dX2_takes_142 rfl ⟨rfl, trivial⟩ hP hD hS
  · refine lv_tableIn (tgt := 65) (off := 61) hx hb dX2_takes_4 (by rw [hsw4, c4]; decide) (by rw [hsw4, c4]; decide) (by rw [hsw4, c4]; rfl) (by decide) ?_
    refine lv_aload_n hx hb dX2_takes_65 rfl (lv_at hl 0 rfl) ?_
    refine lv_iload_n hx hb dX2_takes_66 rfl (lv_at hl 1 rfl) ?_
    refine lv_iconst (v := nI 0) hx hb dX2_takes_67 (by decide) ?_
    refine zcWi (As := [.int (nI ch_), .int (nI 0)]) (rest := []) (wr := []) ⟨hx, hb, hml, hown, hts⟩ (c_X2_takesDigit l D cy zs.heap.size h0_ n_ st_ mv_ us_ dg_ ic_ fi_ la_ ch_ 0 (by omega) (by omega) (by omega) (by omega)) (cwV 2 hts (zG_V zw_153 zw_154 zw_155 zw_28 zw_156) rfl rfl rfl zd_X2_takesDigit ⟨Nat.le_of_ble_eq_true rfl, Nat.le_of_ble_eq_true rfl⟩) hK hP hD hS hA [0] [] [0] rfl (by decide) rfl (by decide) (by decide) (w2 := (fun u_ : Unit => ([(h0_, .inr (1, [.int (nI n_), .int (nI ((digR n_ st_ mv_ us_ dg_ ic_ fi_ la_ ch_ 0).2.1)), .long ((digR n_ st_ mv_ us_ dg_ ic_ fi_ la_ ch_ 0).2.2.1), .int (nI ((digR n_ st_ mv_ us_ dg_ ic_ fi_ la_ ch_ 0).2.2.2.1)), .int (nI ((digR n_ st_ mv_ us_ dg_ ic_ fi_ la_ ch_ 0).2.2.2.2.1)), .int (nI ((digR n_ st_ mv_ us_ dg_ ic_ fi_ la_ ch_ 0).2.2.2.2.2.1)), .int (nI ((digR n_ st_ mv_ us_ dg_ ic_ fi_ la_ ch_ 0).2.2.2.2.2.2.1)), .int (nI ((digR n_ st_ mv_ us_ dg_ ic_ fi_ la_ ch_ 0).2.2.2.2.2.2.2))]))] : va_W))) (fun _ => rfl) (by decide) rfl rfl rfl rfl hl.1 rfl (Nat.le_of_ble_eq_true rfl) dX2_takes_68 ⟨Nat.zero_le _, Nat.zero_le _⟩ (fun r68 u68 H locs h68 hP hD hS => ?_)
    obtain ⟨hr68, h68⟩ := h68
    have hr68 : r68 = if (digR n_ st_ mv_ us_ dg_ ic_ fi_ la_ ch_ 0).1 = true then 1 else 0 := hr68
    have h68 : True := h68
    subst hr68
    have hP : va_P D vwCl [(h0_, .inr (1, [.int (nI n_), .int (nI ((digR n_ st_ mv_ us_ dg_ ic_ fi_ la_ ch_ 0).2.1)), .long ((digR n_ st_ mv_ us_ dg_ ic_ fi_ la_ ch_ 0).2.2.1), .int (nI ((digR n_ st_ mv_ us_ dg_ ic_ fi_ la_ ch_ 0).2.2.2.1)), .int (nI ((digR n_ st_ mv_ us_ dg_ ic_ fi_ la_ ch_ 0).2.2.2.2.1)), .int (nI ((digR n_ st_ mv_ us_ dg_ ic_ fi_ la_ ch_ 0).2.2.2.2.2.1)), .int (nI ((digR n_ st_ mv_ us_ dg_ ic_ fi_ la_ ch_ 0).2.2.2.2.2.2.1)), .int (nI ((digR n_ st_ mv_ us_ dg_ ic_ fi_ la_ ch_ 0).2.2.2.2.2.2.2))]))] H := hP
    have hD : va_D zA [(h0_, .inr (1, [.int (nI n_), .int (nI ((digR n_ st_ mv_ us_ dg_ ic_ fi_ la_ ch_ 0).2.1)), .long ((digR n_ st_ mv_ us_ dg_ ic_ fi_ la_ ch_ 0).2.2.1), .int (nI ((digR n_ st_ mv_ us_ dg_ ic_ fi_ la_ ch_ 0).2.2.2.1)), .int (nI ((digR n_ st_ mv_ us_ dg_ ic_ fi_ la_ ch_ 0).2.2.2.2.1)), .int (nI ((digR n_ st_ mv_ us_ dg_ ic_ fi_ la_ ch_ 0).2.2.2.2.2.1)), .int (nI ((digR n_ st_ mv_ us_ dg_ ic_ fi_ la_ ch_ 0).2.2.2.2.2.2.1)), .int (nI ((digR n_ st_ mv_ us_ dg_ ic_ fi_ la_ ch_ 0).2.2.2.2.2.2.2))]))] := hD
    have hs_ : st_ = 2 := by omega
    have e_ : stepR n_ st_ mv_ us_ dg_ ic_ fi_ la_ ch_ = digR n_ st_ mv_ us_ dg_ ic_ fi_ la_ ch_ 0 := by rw [hs_]; exact step2
    rw [e_] at kr
    exact kr _ () _ _ _ _ dX2_takes_71 (zz_narb _) ⟨rfl, trivial⟩ hP hD hS
  · refine lv_tableIn (tgt := 72) (off := 68) hx hb dX2_takes_4 (by rw [hsw4, c4]; decide) (by rw [hsw4, c4]; decide) (by rw [hsw4, c4]; rfl) (by decide) ?_
    refine lv_iload_n hx hb dX2_takes_72 rfl (lv_at hl 1 rfl) ?_
    refine lv_bipush (v := nI 44) hx hb dX2_takes_73 (by decide) ?_
    refine zb_ne (a := ch_) (b := 44) (tgt := 83) hx hb dX2_takes_75 (by decide) (by omega) (by omega) (fun c75 => ?_) (fun c75 => ?_)
    · skip
      refine lv_iload_n hx hb dX2_takes_83 rfl (lv_at hl 1 rfl) ?_
      refine lv_bipush (v := nI 41) hx hb dX2_takes_84 (by decide) ?_
      refine zb_ne (a := ch_) (b := 41) (tgt := 116) hx hb dX2_takes_86 (by decide) (by omega) (by omega) (fun c86 => ?_) (fun c86 => ?_)
      · skip
        refine lv_aload_n hx hb dX2_takes_116 rfl (lv_at hl 0 rfl) ?_
        refine va_get (D := D) (ci := 1) (v := .int (nI dg_)) (C := RX2) (T := TX2) (N := 8) hx hb hts (fun w h => List.mem_cons_of_mem _ (zinX2 w h)) hown hK.1 hP 0 rfl rfl 4 (by decide) (hts _ (List.mem_cons_of_mem _ zw_66)) (fun _ h9 => h9) rfl dX2_takes_117 ?_
        refine zb0_le (a := dg_) (tgt := 139) hx hb dX2_takes_120 (by decide) (by omega) (fun c120 => ?_) (fun c120 => ?_)
        · skip
          refine lv_iconst (v := nI 0) hx hb dX2_takes_139 (by decide) ?_
          have hs_ : st_ = 3 := by omega
          have e_ : stepR n_ st_ mv_ us_ dg_ ic_ fi_ la_ ch_ = (false, (st_, mv_, us_, dg_, ic_, fi_, la_)) := by rw [hs_, step3]; exact inpN c75 c86 c120
          rw [e_] at kr
          exact kr _ () _ _ _ _ dX2_takes_140 rfl ⟨rfl, trivial⟩ hP hD hS
        · skip
          refine lv_aload_n hx hb dX2_takes_123 rfl (lv_at hl 0 rfl) ?_
          refine lv_iload_n hx hb dX2_takes_124 rfl (lv_at hl 1 rfl) ?_
          refine lv_aload_n hx hb dX2_takes_125 rfl (lv_at hl 0 rfl) ?_
          refine va_get (D := D) (ci := 1) (v := .int (nI dg_)) (C := RX2) (T := TX2) (N := 8) hx hb hts (fun w h => List.mem_cons_of_mem _ (zinX2 w h)) hown hK.1 hP 0 rfl rfl 4 (by decide) (hts _ (List.mem_cons_of_mem _ zw_66)) (fun _ h9 => h9) rfl dX2_takes_126 ?_
          refine zcWi (As := [.int (nI ch_), .int (nI dg_)]) (rest := []) (wr := []) ⟨hx, hb, hml, hown, hts⟩ (c_X2_takesDigit l D cy zs.heap.size h0_ n_ st_ mv_ us_ dg_ ic_ fi_ la_ ch_ dg_ (by omega) (by omega) (by omega) (by omega)) (cwV 2 hts (zG_V zw_153 zw_154 zw_155 zw_28 zw_156) rfl rfl rfl zd_X2_takesDigit ⟨Nat.le_of_ble_eq_true rfl, Nat.le_of_ble_eq_true rfl⟩) hK hP hD hS hA [0] [] [0] rfl (by decide) rfl (by decide) (by decide) (w2 := (fun u_ : Unit => ([(h0_, .inr (1, [.int (nI n_), .int (nI ((digR n_ st_ mv_ us_ dg_ ic_ fi_ la_ ch_ dg_).2.1)), .long ((digR n_ st_ mv_ us_ dg_ ic_ fi_ la_ ch_ dg_).2.2.1), .int (nI ((digR n_ st_ mv_ us_ dg_ ic_ fi_ la_ ch_ dg_).2.2.2.1)), .int (nI ((digR n_ st_ mv_ us_ dg_ ic_ fi_ la_ ch_ dg_).2.2.2.2.1)), .int (nI ((digR n_ st_ mv_ us_ dg_ ic_ fi_ la_ ch_ dg_).2.2.2.2.2.1)), .int (nI ((digR n_ st_ mv_ us_ dg_ ic_ fi_ la_ ch_ dg_).2.2.2.2.2.2.1)), .int (nI ((digR n_ st_ mv_ us_ dg_ ic_ fi_ la_ ch_ dg_).2.2.2.2.2.2.2))]))] : va_W))) (fun _ => rfl) (by decide) rfl rfl rfl rfl hl.1 rfl (Nat.le_of_ble_eq_true rfl) dX2_takes_129 ⟨Nat.zero_le _, Nat.zero_le _⟩ (fun r129 u129 H locs h129 hP hD hS => ?_)
          obtain ⟨hr129, h129⟩ := h129
          have hr129 : r129 = if (digR n_ st_ mv_ us_ dg_ ic_ fi_ la_ ch_ dg_).1 = true then 1 else 0 := hr129
          have h129 : True := h129
          subst hr129
          have hP : va_P D vwCl [(h0_, .inr (1, [.int (nI n_), .int (nI ((digR n_ st_ mv_ us_ dg_ ic_ fi_ la_ ch_ dg_).2.1)), .long ((digR n_ st_ mv_ us_ dg_ ic_ fi_ la_ ch_ dg_).2.2.1), .int (nI ((digR n_ st_ mv_ us_ dg_ ic_ fi_ la_ ch_ dg_).2.2.2.1)), .int (nI ((digR n_ st_ mv_ us_ dg_ ic_ fi_ la_ ch_ dg_).2.2.2.2.1)), .int (nI ((digR n_ st_ mv_ us_ dg_ ic_ fi_ la_ ch_ dg_).2.2.2.2.2.1)), .int (nI ((digR n_ st_ mv_ us_ dg_ ic_ fi_ la_ ch_ dg_).2.2.2.2.2.2.1)), .int (nI ((digR n_ st_ mv_ us_ dg_ ic_ fi_ la_ ch_ dg_).2.2.2.2.2.2.2))]))] H := hP
          have hD : va_D zA [(h0_, .inr (1, [.int (nI n_), .int (nI ((digR n_ st_ mv_ us_ dg_ ic_ fi_ la_ ch_ dg_).2.1)), .long ((digR n_ st_ mv_ us_ dg_ ic_ fi_ la_ ch_ dg_).2.2.1), .int (nI ((digR n_ st_ mv_ us_ dg_ ic_ fi_ la_ ch_ dg_).2.2.2.1)), .int (nI ((digR n_ st_ mv_ us_ dg_ ic_ fi_ la_ ch_ dg_).2.2.2.2.1)), .int (nI ((digR n_ st_ mv_ us_ dg_ ic_ fi_ la_ ch_ dg_).2.2.2.2.2.1)), .int (nI ((digR n_ st_ mv_ us_ dg_ ic_ fi_ la_ ch_ dg_).2.2.2.2.2.2.1)), .int (nI ((digR n_ st_ mv_ us_ dg_ ic_ fi_ la_ ch_ dg_).2.2.2.2.2.2.2))]))] := hD
          refine zq_eq (tgt := 139) hx hb dX2_takes_132 (by decide) (fun c132 => ?_) (fun c132 => ?_)
          · skip
            have e139_ : digR n_ st_ mv_ us_ dg_ ic_ fi_ la_ ch_ dg_ = _ := digR_1 (Bool.eq_false_iff.mpr c132)
            rw [e139_] at hP hD
            have hP : va_P D vwCl [(h0_, .inr (1, [.int (nI n_), .int (nI st_), .long mv_, .int (nI us_), .int (nI dg_), .int (nI ic_), .int (nI fi_), .int (nI la_)]))] H := hP
            have hD : va_D zA [(h0_, .inr (1, [.int (nI n_), .int (nI st_), .long mv_, .int (nI us_), .int (nI dg_), .int (nI ic_), .int (nI fi_), .int (nI la_)]))] := hD
            refine lv_iconst (v := nI 0) hx hb dX2_takes_139 (by decide) ?_
            have hs_ : st_ = 3 := by omega
            have e_ : stepR n_ st_ mv_ us_ dg_ ic_ fi_ la_ ch_ = (false, (st_, mv_, us_, dg_, ic_, fi_, la_)) := by rw [hs_, step3, inpD c75 c86 c120, ← hs_]; exact e139_
            rw [e_] at kr
            exact kr _ () _ _ _ _ dX2_takes_140 rfl ⟨rfl, trivial⟩ hP hD hS
          · skip
            refine lv_iconst (v := nI 1) hx hb dX2_takes_135 (by decide) ?_
            refine lv_goto (tgt := 140) hx hb dX2_takes_136 (by decide) ?_
            have hs_ : st_ = 3 := by omega
            have e_ : stepR n_ st_ mv_ us_ dg_ ic_ fi_ la_ ch_ = digR n_ st_ mv_ us_ dg_ ic_ fi_ la_ ch_ dg_ := by rw [hs_, step3]; exact inpD c75 c86 c120
            rw [e_] at kr
            exact kr _ () _ _ _ _ dX2_takes_140 rfl ⟨by rw [if_pos c132]; rfl, trivial⟩ hP hD hS
      · skip
        refine lv_aload_n hx hb dX2_takes_89 rfl (lv_at hl 0 rfl) ?_
        refine va_get (D := D) (ci := 1) (v := .int (nI ic_)) (C := RX2) (T := TX2) (N := 8) hx hb hts (fun w h => List.mem_cons_of_mem _ (zinX2 w h)) hown hK.1 hP 0 rfl rfl 5 (by decide) (hts _ (List.mem_cons_of_mem _ zw_67)) (fun _ h9 => h9) rfl dX2_takes_90 ?_
        refine zb0_le (a := ic_) (tgt := 114) hx hb dX2_takes_93 (by decide) (by omega) (fun c93 => ?_) (fun c93 => ?_)
        · skip
          refine lv_iconst (v := nI 0) hx hb dX2_takes_114 (by decide) ?_
          have hs_ : st_ = 3 := by omega
          have e_ : stepR n_ st_ mv_ us_ dg_ ic_ fi_ la_ ch_ = (false, (st_, mv_, us_, dg_, ic_, fi_, la_)) := by rw [hs_, c86, step3]; exact inp41f (fun q_ => absurd q_.1 (by omega))
          rw [e_] at kr
          exact kr _ () _ _ _ _ dX2_takes_115 rfl ⟨rfl, trivial⟩ hP hD hS
        · skip
          refine lv_aload_n hx hb dX2_takes_96 rfl (lv_at hl 0 rfl) ?_
          refine zcWi (As := []) (rest := []) (wr := []) ⟨hx, hb, hml, hown, hts⟩ (c_X2_endsPlace l D cy zs.heap.size h0_ n_ st_ mv_ us_ dg_ ic_ fi_ la_ (by omega) (by omega) (by omega) (by omega) (by omega)) (cwV 0 hts (zG_V zw_165 zw_166 zw_167 zw_28 zw_168) rfl rfl rfl zd_X2_endsPlace ⟨Nat.le_of_ble_eq_true rfl, Nat.le_of_ble_eq_true rfl⟩) hK hP hD hS hA [0] [] [0] rfl (by decide) rfl (by decide) (by decide) (w2 := (fun u_ : Unit => ([(h0_, .inr (1, [.int (nI n_), .int (nI ((endR n_ st_ mv_ us_ dg_ ic_ fi_ la_).2.1)), .long ((endR n_ st_ mv_ us_ dg_ ic_ fi_ la_).2.2.1), .int (nI ((endR n_ st_ mv_ us_ dg_ ic_ fi_ la_).2.2.2.1)), .int (nI ((endR n_ st_ mv_ us_ dg_ ic_ fi_ la_).2.2.2.2.1)), .int (nI ((endR n_ st_ mv_ us_ dg_ ic_ fi_ la_).2.2.2.2.2.1)), .int (nI ((endR n_ st_ mv_ us_ dg_ ic_ fi_ la_).2.2.2.2.2.2.1)), .int (nI ((endR n_ st_ mv_ us_ dg_ ic_ fi_ la_).2.2.2.2.2.2.2))]))] : va_W))) (fun _ => rfl) (by decide) rfl rfl rfl rfl hl.1 rfl (Nat.le_of_ble_eq_true rfl) dX2_takes_97 ⟨Nat.zero_le _, Nat.zero_le _⟩ (fun r97 u97 H locs h97 hP hD hS => ?_)
          obtain ⟨hr97, h97⟩ := h97
          have hr97 : r97 = if (endR n_ st_ mv_ us_ dg_ ic_ fi_ la_).1 = true then 1 else 0 := hr97
          have h97 : True := h97
          subst hr97
          have hP : va_P D vwCl [(h0_, .inr (1, [.int (nI n_), .int (nI ((endR n_ st_ mv_ us_ dg_ ic_ fi_ la_).2.1)), .long ((endR n_ st_ mv_ us_ dg_ ic_ fi_ la_).2.2.1), .int (nI ((endR n_ st_ mv_ us_ dg_ ic_ fi_ la_).2.2.2.1)), .int (nI ((endR n_ st_ mv_ us_ dg_ ic_ fi_ la_).2.2.2.2.1)), .int (nI ((endR n_ st_ mv_ us_ dg_ ic_ fi_ la_).2.2.2.2.2.1)), .int (nI ((endR n_ st_ mv_ us_ dg_ ic_ fi_ la_).2.2.2.2.2.2.1)), .int (nI ((endR n_ st_ mv_ us_ dg_ ic_ fi_ la_).2.2.2.2.2.2.2))]))] H := hP
          have hD : va_D zA [(h0_, .inr (1, [.int (nI n_), .int (nI ((endR n_ st_ mv_ us_ dg_ ic_ fi_ la_).2.1)), .long ((endR n_ st_ mv_ us_ dg_ ic_ fi_ la_).2.2.1), .int (nI ((endR n_ st_ mv_ us_ dg_ ic_ fi_ la_).2.2.2.1)), .int (nI ((endR n_ st_ mv_ us_ dg_ ic_ fi_ la_).2.2.2.2.1)), .int (nI ((endR n_ st_ mv_ us_ dg_ ic_ fi_ la_).2.2.2.2.2.1)), .int (nI ((endR n_ st_ mv_ us_ dg_ ic_ fi_ la_).2.2.2.2.2.2.1)), .int (nI ((endR n_ st_ mv_ us_ dg_ ic_ fi_ la_).2.2.2.2.2.2.2))]))] := hD
          refine zq_eq (tgt := 114) hx hb dX2_takes_100 (by decide) (fun c100 => ?_) (fun c100 => ?_)
          · skip
            have hf114 : ¬ frE n_ us_ dg_ = true := fun q_ => c100 (endR_1.mpr q_)
            have e114_ : endR n_ st_ mv_ us_ dg_ ic_ fi_ la_ = _ := endR_f hf114
            rw [e114_] at hP hD
            have hP : va_P D vwCl [(h0_, .inr (1, [.int (nI n_), .int (nI st_), .long mv_, .int (nI us_), .int (nI dg_), .int (nI ic_), .int (nI fi_), .int (nI la_)]))] H := hP
            have hD : va_D zA [(h0_, .inr (1, [.int (nI n_), .int (nI st_), .long mv_, .int (nI us_), .int (nI dg_), .int (nI ic_), .int (nI fi_), .int (nI la_)]))] := hD
            refine lv_iconst (v := nI 0) hx hb dX2_takes_114 (by decide) ?_
            have hs_ : st_ = 3 := by omega
            have e_ : stepR n_ st_ mv_ us_ dg_ ic_ fi_ la_ ch_ = (false, (st_, mv_, us_, dg_, ic_, fi_, la_)) := by rw [hs_, c86, step3]; exact inp41f (fun q_ => hf114 q_.2)
            rw [e_] at kr
            exact kr _ () _ _ _ _ dX2_takes_115 rfl ⟨rfl, trivial⟩ hP hD hS
          · skip
            have hf103 := endR_1.mp c100
            have e103_ : endR n_ st_ mv_ us_ dg_ ic_ fi_ la_ = _ := endR_t hf103
            rw [e103_] at hP hD
            have hP : va_P D vwCl [(h0_, .inr (1, [.int (nI n_), .int (nI 2), .long (endM mv_ ic_ la_ dg_), .int (nI (us_ ||| 2 ^ dg_)), .int (nI dg_), .int (nI (ic_ + 1)), .int (nI (endI ic_ fi_ dg_)), .int (nI dg_)]))] H := hP
            have hD : va_D zA [(h0_, .inr (1, [.int (nI n_), .int (nI 2), .long (endM mv_ ic_ la_ dg_), .int (nI (us_ ||| 2 ^ dg_)), .int (nI dg_), .int (nI (ic_ + 1)), .int (nI (endI ic_ fi_ dg_)), .int (nI dg_)]))] := hD
            have hei : endI ic_ fi_ dg_ < 16 := by unfold endI; split <;> assumption
            refine lv_aload_n hx hb dX2_takes_103 rfl (lv_at hl 0 rfl) ?_
            refine zcWi (As := []) (rest := []) (wr := []) ⟨hx, hb, hml, hown, hts⟩ (c_X2_closesCycle l D cy H.size h0_ n_ 2 (endM mv_ ic_ la_ dg_) (us_ ||| 2 ^ dg_) dg_ (ic_ + 1) (endI ic_ fi_ dg_) dg_ hdg hei) (cwV 0 hts (zG_V zw_175 zw_176 zw_177 zw_28 zw_178) rfl rfl rfl zd_X2_closesCycle ⟨Nat.le_of_ble_eq_true rfl, Nat.le_of_ble_eq_true rfl⟩) hK hP hD hS hA [0] [] [0] rfl (by decide) rfl (by decide) (by decide) (w2 := (fun u_ : Unit => ([(h0_, .inr (1, [.int (nI n_), .int (nI 4), .long (wN (endM mv_ ic_ la_ dg_) dg_ (endI ic_ fi_ dg_)), .int (nI (us_ ||| 2 ^ dg_)), .int (nI dg_), .int (nI (ic_ + 1)), .int (nI (endI ic_ fi_ dg_)), .int (nI dg_)]))] : va_W))) (fun _ => rfl) (by decide) rfl rfl rfl rfl hl.1 rfl (Nat.le_of_ble_eq_true rfl) dX2_takes_104 ⟨Nat.zero_le _, Nat.zero_le _⟩ (fun r104 u104 H locs h104 hP hD hS => ?_)
            obtain ⟨hr104, h104⟩ := h104
            have hr104 : r104 = nI 1 := hr104
            have h104 : True := h104
            subst hr104
            have hP : va_P D vwCl [(h0_, .inr (1, [.int (nI n_), .int (nI 4), .long (wN (endM mv_ ic_ la_ dg_) dg_ (endI ic_ fi_ dg_)), .int (nI (us_ ||| 2 ^ dg_)), .int (nI dg_), .int (nI (ic_ + 1)), .int (nI (endI ic_ fi_ dg_)), .int (nI dg_)]))] H := hP
            have hD : va_D zA [(h0_, .inr (1, [.int (nI n_), .int (nI 4), .long (wN (endM mv_ ic_ la_ dg_) dg_ (endI ic_ fi_ dg_)), .int (nI (us_ ||| 2 ^ dg_)), .int (nI dg_), .int (nI (ic_ + 1)), .int (nI (endI ic_ fi_ dg_)), .int (nI dg_)]))] := hD
            refine zb0_eq (a := 1) (tgt := 114) hx hb dX2_takes_107 (by decide) (by omega) (fun hd_ => absurd hd_ (by decide)) (fun c107 => ?_)
            refine lv_iconst (v := nI 1) hx hb dX2_takes_110 (by decide) ?_
            refine lv_goto (tgt := 115) hx hb dX2_takes_111 (by decide) ?_
            have hs_ : st_ = 3 := by omega
            have e_ : stepR n_ st_ mv_ us_ dg_ ic_ fi_ la_ ch_ = (true, (4, wN (endM mv_ ic_ la_ dg_) dg_ (endI ic_ fi_ dg_), us_ ||| 2 ^ dg_, dg_, ic_ + 1, endI ic_ fi_ dg_, dg_)) := by rw [hs_, c86, step3]; exact inp41t ⟨c93, hf103⟩
            rw [e_] at kr
            exact kr _ () _ _ _ _ dX2_takes_115 rfl ⟨rfl, trivial⟩ hP hD hS
    · skip
      refine lv_aload_n hx hb dX2_takes_78 rfl (lv_at hl 0 rfl) ?_
      refine zcWi (As := []) (rest := []) (wr := []) ⟨hx, hb, hml, hown, hts⟩ (c_X2_endsPlace l D cy zs.heap.size h0_ n_ st_ mv_ us_ dg_ ic_ fi_ la_ (by omega) (by omega) (by omega) (by omega) (by omega)) (cwV 0 hts (zG_V zw_165 zw_166 zw_167 zw_28 zw_168) rfl rfl rfl zd_X2_endsPlace ⟨Nat.le_of_ble_eq_true rfl, Nat.le_of_ble_eq_true rfl⟩) hK hP hD hS hA [0] [] [0] rfl (by decide) rfl (by decide) (by decide) (w2 := (fun u_ : Unit => ([(h0_, .inr (1, [.int (nI n_), .int (nI ((endR n_ st_ mv_ us_ dg_ ic_ fi_ la_).2.1)), .long ((endR n_ st_ mv_ us_ dg_ ic_ fi_ la_).2.2.1), .int (nI ((endR n_ st_ mv_ us_ dg_ ic_ fi_ la_).2.2.2.1)), .int (nI ((endR n_ st_ mv_ us_ dg_ ic_ fi_ la_).2.2.2.2.1)), .int (nI ((endR n_ st_ mv_ us_ dg_ ic_ fi_ la_).2.2.2.2.2.1)), .int (nI ((endR n_ st_ mv_ us_ dg_ ic_ fi_ la_).2.2.2.2.2.2.1)), .int (nI ((endR n_ st_ mv_ us_ dg_ ic_ fi_ la_).2.2.2.2.2.2.2))]))] : va_W))) (fun _ => rfl) (by decide) rfl rfl rfl rfl hl.1 rfl (Nat.le_of_ble_eq_true rfl) dX2_takes_79 ⟨Nat.zero_le _, Nat.zero_le _⟩ (fun r79 u79 H locs h79 hP hD hS => ?_)
      obtain ⟨hr79, h79⟩ := h79
      have hr79 : r79 = if (endR n_ st_ mv_ us_ dg_ ic_ fi_ la_).1 = true then 1 else 0 := hr79
      have h79 : True := h79
      subst hr79
      have hP : va_P D vwCl [(h0_, .inr (1, [.int (nI n_), .int (nI ((endR n_ st_ mv_ us_ dg_ ic_ fi_ la_).2.1)), .long ((endR n_ st_ mv_ us_ dg_ ic_ fi_ la_).2.2.1), .int (nI ((endR n_ st_ mv_ us_ dg_ ic_ fi_ la_).2.2.2.1)), .int (nI ((endR n_ st_ mv_ us_ dg_ ic_ fi_ la_).2.2.2.2.1)), .int (nI ((endR n_ st_ mv_ us_ dg_ ic_ fi_ la_).2.2.2.2.2.1)), .int (nI ((endR n_ st_ mv_ us_ dg_ ic_ fi_ la_).2.2.2.2.2.2.1)), .int (nI ((endR n_ st_ mv_ us_ dg_ ic_ fi_ la_).2.2.2.2.2.2.2))]))] H := hP
      have hD : va_D zA [(h0_, .inr (1, [.int (nI n_), .int (nI ((endR n_ st_ mv_ us_ dg_ ic_ fi_ la_).2.1)), .long ((endR n_ st_ mv_ us_ dg_ ic_ fi_ la_).2.2.1), .int (nI ((endR n_ st_ mv_ us_ dg_ ic_ fi_ la_).2.2.2.1)), .int (nI ((endR n_ st_ mv_ us_ dg_ ic_ fi_ la_).2.2.2.2.1)), .int (nI ((endR n_ st_ mv_ us_ dg_ ic_ fi_ la_).2.2.2.2.2.1)), .int (nI ((endR n_ st_ mv_ us_ dg_ ic_ fi_ la_).2.2.2.2.2.2.1)), .int (nI ((endR n_ st_ mv_ us_ dg_ ic_ fi_ la_).2.2.2.2.2.2.2))]))] := hD
      have hs_ : st_ = 3 := by omega
      have e_ : stepR n_ st_ mv_ us_ dg_ ic_ fi_ la_ ch_ = endR n_ st_ mv_ us_ dg_ ic_ fi_ la_ := by rw [hs_, c75, step3]; exact inp44
      rw [e_] at kr
      exact kr _ () _ _ _ _ dX2_takes_82 (zz_narb _) ⟨rfl, trivial⟩ hP hD hS
  · refine lv_tableIn (tgt := 59) (off := 55) hx hb dX2_takes_4 (by rw [hsw4, c4]; decide) (by rw [hsw4, c4]; decide) (by rw [hsw4, c4]; rfl) (by decide) ?_
    refine lv_aload_n hx hb dX2_takes_59 rfl (lv_at hl 0 rfl) ?_
    refine lv_iload_n hx hb dX2_takes_60 rfl (lv_at hl 1 rfl) ?_
    refine zcWi (As := [.int (nI ch_)]) (rest := []) (wr := []) ⟨hx, hb, hml, hown, hts⟩ (c_X2_takesOpening l D cy zs.heap.size h0_ n_ st_ mv_ us_ dg_ ic_ fi_ la_ ch_ (by omega)) (cwV 1 hts (zG_V zw_149 zw_150 zw_151 zw_28 zw_152) rfl rfl rfl zd_X2_takesOpening ⟨Nat.le_of_ble_eq_true rfl, Nat.le_of_ble_eq_true rfl⟩) hK hP hD hS hA [0] [] [0] rfl (by decide) rfl (by decide) (by decide) (w2 := (fun u_ : Unit => ([(h0_, .inr (1, [.int (nI n_), .int (nI ((opnR st_ mv_ us_ dg_ ic_ fi_ la_ ch_).2.1)), .long ((opnR st_ mv_ us_ dg_ ic_ fi_ la_ ch_).2.2.1), .int (nI ((opnR st_ mv_ us_ dg_ ic_ fi_ la_ ch_).2.2.2.1)), .int (nI ((opnR st_ mv_ us_ dg_ ic_ fi_ la_ ch_).2.2.2.2.1)), .int (nI ((opnR st_ mv_ us_ dg_ ic_ fi_ la_ ch_).2.2.2.2.2.1)), .int (nI ((opnR st_ mv_ us_ dg_ ic_ fi_ la_ ch_).2.2.2.2.2.2.1)), .int (nI ((opnR st_ mv_ us_ dg_ ic_ fi_ la_ ch_).2.2.2.2.2.2.2))]))] : va_W))) (fun _ => rfl) (by decide) rfl rfl rfl rfl hl.1 rfl (Nat.le_of_ble_eq_true rfl) dX2_takes_61 ⟨Nat.zero_le _, Nat.zero_le _⟩ (fun r61 u61 H locs h61 hP hD hS => ?_)
    obtain ⟨hr61, h61⟩ := h61
    have hr61 : r61 = if (opnR st_ mv_ us_ dg_ ic_ fi_ la_ ch_).1 = true then 1 else 0 := hr61
    have h61 : True := h61
    subst hr61
    have hP : va_P D vwCl [(h0_, .inr (1, [.int (nI n_), .int (nI ((opnR st_ mv_ us_ dg_ ic_ fi_ la_ ch_).2.1)), .long ((opnR st_ mv_ us_ dg_ ic_ fi_ la_ ch_).2.2.1), .int (nI ((opnR st_ mv_ us_ dg_ ic_ fi_ la_ ch_).2.2.2.1)), .int (nI ((opnR st_ mv_ us_ dg_ ic_ fi_ la_ ch_).2.2.2.2.1)), .int (nI ((opnR st_ mv_ us_ dg_ ic_ fi_ la_ ch_).2.2.2.2.2.1)), .int (nI ((opnR st_ mv_ us_ dg_ ic_ fi_ la_ ch_).2.2.2.2.2.2.1)), .int (nI ((opnR st_ mv_ us_ dg_ ic_ fi_ la_ ch_).2.2.2.2.2.2.2))]))] H := hP
    have hD : va_D zA [(h0_, .inr (1, [.int (nI n_), .int (nI ((opnR st_ mv_ us_ dg_ ic_ fi_ la_ ch_).2.1)), .long ((opnR st_ mv_ us_ dg_ ic_ fi_ la_ ch_).2.2.1), .int (nI ((opnR st_ mv_ us_ dg_ ic_ fi_ la_ ch_).2.2.2.1)), .int (nI ((opnR st_ mv_ us_ dg_ ic_ fi_ la_ ch_).2.2.2.2.1)), .int (nI ((opnR st_ mv_ us_ dg_ ic_ fi_ la_ ch_).2.2.2.2.2.1)), .int (nI ((opnR st_ mv_ us_ dg_ ic_ fi_ la_ ch_).2.2.2.2.2.2.1)), .int (nI ((opnR st_ mv_ us_ dg_ ic_ fi_ la_ ch_).2.2.2.2.2.2.2))]))] := hD
    have hs_ : st_ = 4 := by omega
    have e_ : stepR n_ st_ mv_ us_ dg_ ic_ fi_ la_ ch_ = opnR st_ mv_ us_ dg_ ic_ fi_ la_ ch_ := by rw [hs_]; exact step4
    rw [e_] at kr
    exact kr _ () _ _ _ _ dX2_takes_64 (zz_narb _) ⟨rfl, trivial⟩ hP hD hS

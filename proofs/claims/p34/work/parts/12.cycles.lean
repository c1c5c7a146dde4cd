abbrev w_X1_add : List Cond := Cond.code yX1_add cX1_add 2 none :: zAll
abbrev r_X1_add : Room := { frames := 0, cells := 0, slots := 0, locals := 0 }
theorem zd_X1_add : yX1_add.cls = RX1 ∧ yX1_add.cls ≠ "java/lang/invoke/MethodHandle" ∧ yX1_add.cls ≠ "java/lang/invoke/VarHandle" ∧ (parseMethodDescriptor yX1_add.desc).map (fun d => d.parameters.length) = some 1 := by decide +kernel
set_option maxHeartbeats 4000000 in
set_option maxRecDepth 100000 in
theorem c_X1_add (l : Launch) (D : va_G) (cy : Nat → ClassId) (sz : Nat) (h0_ : Nat) (h1_ : Nat) (c_ : Nat → Nat) (L_ : Nat) (hL : L_ < 17) : zWv l yX1_add w_X1_add r_X1_add D cy [(h0_, .inr (0, [.ref h1_])), (h1_, .inl (cy 0, 17, .inl (nIf c_)))] sz [.ref h0_, .int (nI L_)] (fun u : Unit => True) (fun u : Unit => ([(h0_, .inr (0, [.ref h1_])), (h1_, .inl (cy 0, 17, .inl (nIf (uN1 c_ L_ (c_ L_ + 1)))))] : va_W)) 0 0 := by
  refine zOfV (cc := cX1_add) (maxL := 2) (by decide) rfl (Nat.le_of_ble_eq_true rfl) ?_
  intro zp ze zs zm za zb zme zc hx hb hml hts hown hP hK zA hD hA Q kr ls hl hin
  have hS : va_S zA zs.heap zs.heap [] := va_S.rf
  have hown : zs.vm.findClass RX1 = some zm.cls := hown
  have hl : lv_has ls 2 [(0, .ref h0_), (1, .int (nI L_))] := hl
  refine lv_iload_n hx hb dX1_add_0 rfl (lv_at hl 1 rfl) ?_
  refine zb0_lt (a := L_) (tgt := 23) hx hb dX1_add_1 (by decide) (by omega) (fun hd_ => absurd hd_ (by omega)) (fun c1 => ?_)
  refine lv_iload_n hx hb dX1_add_4 rfl (lv_at hl 1 rfl) ?_
  refine lv_aload_n hx hb dX1_add_5 rfl (lv_at hl 0 rfl) ?_
  refine va_get (D := D) (ci := 0) (v := .ref h1_) (C := RX1) (T := TX1) (N := 1) hx hb hts (fun w h => List.mem_cons_of_mem _ (zinX1 w h)) hown hK.1 hP 0 rfl rfl 0 (by decide) (hts _ (List.mem_cons_of_mem _ zw_53)) (fun _ h9 => h9) rfl dX1_add_6 ?_
  refine zi_alen hx hb hK hP 1 0 rfl rfl dX1_add_9 ?_
  refine zb_ge (a := L_) (b := 17) (tgt := 23) hx hb dX1_add_10 (by decide) (by omega) (by omega) (fun hd_ => absurd hd_ (by omega)) (fun c10 => ?_)
  refine lv_aload_n hx hb dX1_add_13 rfl (lv_at hl 0 rfl) ?_
  refine va_get (D := D) (ci := 0) (v := .ref h1_) (C := RX1) (T := TX1) (N := 1) hx hb hts (fun w h => List.mem_cons_of_mem _ (zinX1 w h)) hown hK.1 hP 0 rfl rfl 0 (by decide) (hts _ (List.mem_cons_of_mem _ zw_53)) (fun _ h9 => h9) rfl dX1_add_14 ?_
  refine lv_iload_n hx hb dX1_add_17 rfl (lv_at hl 1 rfl) ?_
  refine lv_dup2_11 hx hb dX1_add_18 rfl rfl ?_
  refine zi_iald (v := nI (c_ L_)) hx hb hK hP 1 rfl (by omega) (by omega) rfl dX1_add_19 ?_
  refine lv_iconst (v := nI 1) hx hb dX1_add_20 (by decide) ?_
  refine zi_add (v := nI ((c_ L_) + 1)) hx hb dX1_add_21 (nI_add _ _) ?_
  refine zi_iast hx hb hK hP hD hS 1 rfl (by omega) (by omega) dX1_add_22 (fun H locs hP hD hS => ?_)
  rw [upd_nIf] at hP hD
  have hP : va_P D vwCl [(h0_, .inr (0, [.ref h1_])), (h1_, .inl (cy 0, 17, .inl (nIf (uN1 c_ L_ ((c_ L_) + 1)))))] H := hP
  have hD : va_D zA [(h0_, .inr (0, [.ref h1_])), (h1_, .inl (cy 0, 17, .inl (nIf (uN1 c_ L_ ((c_ L_) + 1)))))] := hD
  exact kr () _ _ _ _ dX1_add_23 trivial hP hD hS
abbrev w_X1_howMany : List Cond := Cond.code yX1_howMany cX1_howMany 3 (some .int) :: zAll
abbrev r_X1_howMany : Room := { frames := 0, cells := 0, slots := 0, locals := 0 }
theorem zd_X1_howMany : yX1_howMany.cls = RX1 ∧ yX1_howMany.cls ≠ "java/lang/invoke/MethodHandle" ∧ yX1_howMany.cls ≠ "java/lang/invoke/VarHandle" ∧ (parseMethodDescriptor yX1_howMany.desc).map (fun d => d.parameters.length) = some 0 := by decide +kernel
set_option maxHeartbeats 4000000 in
set_option maxRecDepth 100000 in
theorem c_X1_howMany (l : Launch) (D : va_G) (cy : Nat → ClassId) (h0_ : Nat) (h1_ : Nat) (c_ : Nat → Nat) : zMi l yX1_howMany w_X1_howMany r_X1_howMany D cy [(h0_, .inr (0, [.ref h1_])), (h1_, .inl (cy 0, 17, .inl (nIf c_)))] [.ref h0_] (fun r_ => r_ = (nI (sm1 c_ 17))) := by
  refine zOfR (cc := cX1_howMany) (maxL := 3) (ty := .int) (by decide) rfl (Nat.le_of_ble_eq_true rfl) ?_
  intro zp ze zs zm za zb zme zc hx hb hml hts hown hP hK Q kr ls hl
  have hown : zs.vm.findClass RX1 = some zm.cls := hown
  have hl : lv_has ls 3 [(0, .ref h0_)] := hl
  refine lv_iconst (v := nI 0) hx hb dX1_howMany_0 (by decide) ?_
  refine zi_top (v := nI (sm1 c_ 1)) rfl ?_
  refine lv_istore_n (lv' := [(1, .int (nI (sm1 c_ 1))), (0, .ref h0_)]) hx hb dX1_howMany_1 rfl hl (by decide) rfl (fun ls hl => ?_)
  refine lv_iconst (v := nI 1) hx hb dX1_howMany_2 (by decide) ?_
  refine lv_istore_n (lv' := [(2, .int (nI 1)), (1, .int (nI (sm1 c_ 1))), (0, .ref h0_)]) hx hb dX1_howMany_3 rfl hl (by decide) rfl (fun ls hl => ?_)
  have L4 : ∀ (kf_ : Nat) (i_ : Nat) (h0 : 0 < i_) (hi : i_ ≤ 17), 17 - i_ < kf_ → ∀ ls : Array Slot, lv_has ls 3 [(0, .ref h0_), (1, .int (nI (sm1 c_ i_))), (2, .int (nI i_))] → W zp l ze r_X1_howMany zs zm za zb zme zc zs.heap [] 0 0 Q (F0 zm 4 ls []) := by
    intro kf_
    induction kf_ with
    | zero => intro i_ h0 hi hk_; exact absurd hk_ (Nat.not_lt_zero _)
    | succ kf_ ih4 =>
      intro i_ h0 hi hk_ ls hl
      refine lv_iload_n hx hb dX1_howMany_4 rfl (lv_at hl 2 rfl) ?_
      refine lv_aload_n hx hb dX1_howMany_5 rfl (lv_at hl 0 rfl) ?_
      refine va_get (D := D) (ci := 0) (v := .ref h1_) (C := RX1) (T := TX1) (N := 1) hx hb hts (fun w h => List.mem_cons_of_mem _ (zinX1 w h)) hown hK.1 hP 0 rfl rfl 0 (by decide) (hts _ (List.mem_cons_of_mem _ zw_53)) (fun _ h9 => h9) rfl dX1_howMany_6 ?_
      refine zi_alen hx hb hK hP 1 0 rfl rfl dX1_howMany_9 ?_
      refine zb_ge (a := i_) (b := 17) (tgt := 28) hx hb dX1_howMany_10 (by decide) (by omega) (by omega) (fun c10 => ?_) (fun c10 => ?_)
      · skip
        refine lv_iload_n hx hb dX1_howMany_28 rfl (lv_at hl 1 rfl) ?_
        exact kr _ _ _ dX1_howMany_29 (vp_nar_int _) (by rw [show i_ = 17 by omega])
      · skip
        refine lv_iload_n hx hb dX1_howMany_13 rfl (lv_at hl 1 rfl) ?_
        refine lv_aload_n hx hb dX1_howMany_14 rfl (lv_at hl 0 rfl) ?_
        refine va_get (D := D) (ci := 0) (v := .ref h1_) (C := RX1) (T := TX1) (N := 1) hx hb hts (fun w h => List.mem_cons_of_mem _ (zinX1 w h)) hown hK.1 hP 0 rfl rfl 0 (by decide) (hts _ (List.mem_cons_of_mem _ zw_53)) (fun _ h9 => h9) rfl dX1_howMany_15 ?_
        refine lv_iload_n hx hb dX1_howMany_18 rfl (lv_at hl 2 rfl) ?_
        refine zi_iald (v := nI (c_ i_)) hx hb hK hP 1 rfl (by omega) (by omega) rfl dX1_howMany_19 ?_
        refine zi_add (v := nI (sm1 c_ (i_ + 1))) hx hb dX1_howMany_20 (by rw [nI_add, ← sm1_s c_ h0]) ?_
        refine lv_istore_n (lv' := [(1, .int (nI (sm1 c_ (i_ + 1)))), (0, .ref h0_), (2, .int (nI i_))]) hx hb dX1_howMany_21 rfl hl (by decide) rfl (fun ls hl => ?_)
        refine lv_iinc (v := nI (i_ + 1)) (lv' := [(2, .int (nI (i_ + 1))), (1, .int (nI (sm1 c_ (i_ + 1)))), (0, .ref h0_)]) hx hb dX1_howMany_22 hl (k := 2) rfl (nI_1 _) (by decide) rfl (fun ls hl => ?_)
        refine lv_goto (tgt := 4) hx hb dX1_howMany_25 (by decide) ?_
        exact ih4 (i_ + 1) (by omega) (by omega) (by omega) _ (lv_sub hl [2, 1, 0] rfl)
  exact L4 (17 - 1 + 1) 1 (by omega) (by omega) (Nat.lt_succ_self _) _ (lv_sub hl [2, 1, 0] rfl)
abbrev w_X1_longest : List Cond := Cond.code yX1_longest cX1_longest 3 (some .int) :: zAll
abbrev r_X1_longest : Room := { frames := 0, cells := 0, slots := 0, locals := 0 }
theorem zd_X1_longest : yX1_longest.cls = RX1 ∧ yX1_longest.cls ≠ "java/lang/invoke/MethodHandle" ∧ yX1_longest.cls ≠ "java/lang/invoke/VarHandle" ∧ (parseMethodDescriptor yX1_longest.desc).map (fun d => d.parameters.length) = some 0 := by decide +kernel
set_option maxHeartbeats 4000000 in
set_option maxRecDepth 100000 in
theorem c_X1_longest (l : Launch) (D : va_G) (cy : Nat → ClassId) (h0_ : Nat) (h1_ : Nat) (c_ : Nat → Nat) (hc_ : ∀ q_, q_ < 17 → c_ q_ ≤ 16) : zMi l yX1_longest w_X1_longest r_X1_longest D cy [(h0_, .inr (0, [.ref h1_])), (h1_, .inl (cy 0, 17, .inl (nIf c_)))] [.ref h0_] (fun r_ => r_ = (nI (lgst c_ 17))) := by
  refine zOfR (cc := cX1_longest) (maxL := 3) (ty := .int) (by decide) rfl (Nat.le_of_ble_eq_true rfl) ?_
  intro zp ze zs zm za zb zme zc hx hb hml hts hown hP hK Q kr ls hl
  have hown : zs.vm.findClass RX1 = some zm.cls := hown
  have hl : lv_has ls 3 [(0, .ref h0_)] := hl
  refine lv_iconst (v := nI 0) hx hb dX1_longest_0 (by decide) ?_
  refine zi_top (v := nI (lgst c_ 1)) rfl ?_
  refine lv_istore_n (lv' := [(1, .int (nI (lgst c_ 1))), (0, .ref h0_)]) hx hb dX1_longest_1 rfl hl (by decide) rfl (fun ls hl => ?_)
  refine lv_iconst (v := nI 1) hx hb dX1_longest_2 (by decide) ?_
  refine lv_istore_n (lv' := [(2, .int (nI 1)), (1, .int (nI (lgst c_ 1))), (0, .ref h0_)]) hx hb dX1_longest_3 rfl hl (by decide) rfl (fun ls hl => ?_)
  have L4 : ∀ (kf_ : Nat) (i_ : Nat) (h0 : 0 < i_) (hi : i_ ≤ 17), 17 - i_ < kf_ → ∀ ls : Array Slot, lv_has ls 3 [(0, .ref h0_), (1, .int (nI (lgst c_ i_))), (2, .int (nI i_))] → W zp l ze r_X1_longest zs zm za zb zme zc zs.heap [] 0 0 Q (F0 zm 4 ls []) := by
    intro kf_
    induction kf_ with
    | zero => intro i_ h0 hi hk_; exact absurd hk_ (Nat.not_lt_zero _)
    | succ kf_ ih4 =>
      intro i_ h0 hi hk_ ls hl
      refine lv_iload_n hx hb dX1_longest_4 rfl (lv_at hl 2 rfl) ?_
      refine lv_aload_n hx hb dX1_longest_5 rfl (lv_at hl 0 rfl) ?_
      refine va_get (D := D) (ci := 0) (v := .ref h1_) (C := RX1) (T := TX1) (N := 1) hx hb hts (fun w h => List.mem_cons_of_mem _ (zinX1 w h)) hown hK.1 hP 0 rfl rfl 0 (by decide) (hts _ (List.mem_cons_of_mem _ zw_53)) (fun _ h9 => h9) rfl dX1_longest_6 ?_
      refine zi_alen hx hb hK hP 1 0 rfl rfl dX1_longest_9 ?_
      refine zb_ge (a := i_) (b := 17) (tgt := 30) hx hb dX1_longest_10 (by decide) (by omega) (by omega) (fun c10 => ?_) (fun c10 => ?_)
      · skip
        refine lv_iload_n hx hb dX1_longest_30 rfl (lv_at hl 1 rfl) ?_
        exact kr _ _ _ dX1_longest_31 (vp_nar_int _) (by rw [show i_ = 17 by omega])
      · skip
        refine lv_aload_n hx hb dX1_longest_13 rfl (lv_at hl 0 rfl) ?_
        refine va_get (D := D) (ci := 0) (v := .ref h1_) (C := RX1) (T := TX1) (N := 1) hx hb hts (fun w h => List.mem_cons_of_mem _ (zinX1 w h)) hown hK.1 hP 0 rfl rfl 0 (by decide) (hts _ (List.mem_cons_of_mem _ zw_53)) (fun _ h9 => h9) rfl dX1_longest_14 ?_
        refine lv_iload_n hx hb dX1_longest_17 rfl (lv_at hl 2 rfl) ?_
        refine zi_iald (v := nI (c_ i_)) hx hb hK hP 1 rfl (by omega) (by omega) rfl dX1_longest_18 ?_
        have hb19 := hc_ i_ (by omega)
        refine zb0_le (a := c_ i_) (tgt := 24) hx hb dX1_longest_19 (by decide) (by omega) (fun c19 => ?_) (fun c19 => ?_)
        · skip
          have e_ : nI (lgst c_ i_) = nI (lgst c_ (i_ + 1)) := (congrArg nI (lgst_no c19).symm)
          rw [e_] at hl
          refine lv_iinc (v := nI (i_ + 1)) (lv' := [(2, .int (nI (i_ + 1))), (0, .ref h0_), (1, .int (nI (lgst c_ (i_ + 1))))]) hx hb dX1_longest_24 hl (k := 2) rfl (nI_1 _) (by decide) rfl (fun ls hl => ?_)
          refine lv_goto (tgt := 4) hx hb dX1_longest_27 (by decide) ?_
          exact ih4 (i_ + 1) (by omega) (by omega) (by omega) _ (lv_sub hl [1, 2, 0] rfl)
        · skip
          refine lv_iload_n hx hb dX1_longest_22 rfl (lv_at hl 2 rfl) ?_
          refine zi_top (v := nI (lgst c_ (i_ + 1))) (congrArg nI (lgst_yes h0 c19).symm) ?_
          refine lv_istore_n (lv' := [(1, .int (nI (lgst c_ (i_ + 1)))), (0, .ref h0_), (2, .int (nI i_))]) hx hb dX1_longest_23 rfl hl (by decide) rfl (fun ls hl => ?_)
          refine lv_iinc (v := nI (i_ + 1)) (lv' := [(2, .int (nI (i_ + 1))), (1, .int (nI (lgst c_ (i_ + 1)))), (0, .ref h0_)]) hx hb dX1_longest_24 hl (k := 2) rfl (nI_1 _) (by decide) rfl (fun ls hl => ?_)
          refine lv_goto (tgt := 4) hx hb dX1_longest_27 (by decide) ?_
          exact ih4 (i_ + 1) (by omega) (by omega) (by omega) _ (lv_sub hl [2, 1, 0] rfl)
  exact L4 (17 - 1 + 1) 1 (by omega) (by omega) (Nat.lt_succ_self _) _ (lv_sub hl [2, 1, 0] rfl)
abbrev w_X1_leastMultiple : List Cond := Cond.code yX1_leastMultiple cX1_leastMultiple 3 (some .int) :: zAll
abbrev r_X1_leastMultiple : Room := { frames := 0, cells := 0, slots := 0, locals := 0 }
theorem zd_X1_leastMultiple : yX1_leastMultiple.cls ≠ "java/lang/invoke/MethodHandle" ∧ yX1_leastMultiple.cls ≠ "java/lang/invoke/VarHandle" ∧ (parseMethodDescriptor yX1_leastMultiple.desc).map (fun d => d.parameters.length) = some 2 := by decide +kernel
set_option maxHeartbeats 4000000 in
set_option maxRecDepth 100000 in
theorem c_X1_leastMultiple (l : Launch) (D : va_G) (cy : Nat → ClassId) (a_ : Nat) (b_ : Nat) (ha : 0 < a_) (ha2 : a_ ≤ 720720) (hb_ : 0 < b_) (hb2 : b_ ≤ 16) : zMi l yX1_leastMultiple w_X1_leastMultiple r_X1_leastMultiple D cy [] [.int (nI a_), .int (nI b_)] (fun r_ => r_ = (nI (Nat.lcm a_ b_))) := by
  refine zOfR (cc := cX1_leastMultiple) (maxL := 3) (ty := .int) (by decide) rfl (Nat.le_of_ble_eq_true rfl) ?_
  intro zp ze zs zm za zb zme zc hx hb hml hts hown hP hK Q kr ls hl
  have hown : zs.vm.findClass RX1 = some zm.cls := hown
  have hl : lv_has ls 3 [(0, .int (nI a_)), (1, .int (nI b_))] := hl
  refine lv_iconst (v := nI 1) hx hb dX1_leastMultiple_0 (by decide) ?_
  refine lv_istore_n (lv' := [(2, .int (nI 1)), (0, .int (nI a_)), (1, .int (nI b_))]) hx hb dX1_leastMultiple_1 rfl hl (by decide) rfl (fun ls hl => ?_)
  have L2 : ∀ (kf_ : Nat) (t_ : Nat) (h0 : 0 < t_) (ht : t_ ≤ b_) (hl_ : ∀ j_, 0 < j_ → j_ < t_ → a_ * j_ % b_ ≠ 0), b_ - t_ < kf_ → ∀ ls : Array Slot, lv_has ls 3 [(0, .int (nI a_)), (1, .int (nI b_)), (2, .int (nI t_))] → W zp l ze r_X1_leastMultiple zs zm za zb zme zc zs.heap [] 0 0 Q (F0 zm 2 ls []) := by
    intro kf_
    induction kf_ with
    | zero => intro t_ h0 ht hl_ hk_; exact absurd hk_ (Nat.not_lt_zero _)
    | succ kf_ ih2 =>
      intro t_ h0 ht hl_ hk_ ls hl
      refine lv_iload_n hx hb dX1_leastMultiple_2 rfl (lv_at hl 2 rfl) ?_
      refine lv_iload_n hx hb dX1_leastMultiple_3 rfl (lv_at hl 1 rfl) ?_
      refine zb_ge (a := t_) (b := b_) (tgt := 25) hx hb dX1_leastMultiple_4 (by decide) (by omega) (by omega) (fun c4 => ?_) (fun c4 => ?_)
      · skip
        refine lv_iload_n hx hb dX1_leastMultiple_25 rfl (lv_at hl 0 rfl) ?_
        refine lv_iload_n hx hb dX1_leastMultiple_26 rfl (lv_at hl 1 rfl) ?_
        refine zi_mul (v := nI (a_ * b_)) hx hb dX1_leastMultiple_27 (pk_mul _ _) ?_
        exact kr _ _ _ dX1_leastMultiple_28 (vp_nar_int _) (congrArg nI (lcm_found ha hb_ hb_ (Nat.mul_mod_left _ _) (fun j_ h1_ h2_ => hl_ j_ h1_ (by omega))))
      · skip
        have hm7 : a_ * t_ ≤ 720720 * 16 := Nat.mul_le_mul ha2 (by omega)
        have hr7 : a_ * t_ % b_ < b_ := Nat.mod_lt _ hb_
        refine lv_iload_n hx hb dX1_leastMultiple_7 rfl (lv_at hl 0 rfl) ?_
        refine lv_iload_n hx hb dX1_leastMultiple_8 rfl (lv_at hl 2 rfl) ?_
        refine zi_mul (v := nI (a_ * t_)) hx hb dX1_leastMultiple_9 (pk_mul _ _) ?_
        refine lv_iload_n hx hb dX1_leastMultiple_10 rfl (lv_at hl 1 rfl) ?_
        refine zi_rem (v := nI ((a_ * t_) % b_)) hx hb dX1_leastMultiple_11 (nI_ne0 (by omega) (by omega)) (pk_rem (by omega) (by omega) (by omega)) ?_
        refine zb0_ne (a := (a_ * t_) % b_) (tgt := 19) hx hb dX1_leastMultiple_12 (by decide) (by omega) (fun c12 => ?_) (fun c12 => ?_)
        · skip
          refine lv_iinc (v := nI (t_ + 1)) (lv' := [(2, .int (nI (t_ + 1))), (0, .int (nI a_)), (1, .int (nI b_))]) hx hb dX1_leastMultiple_19 hl (k := 2) rfl (nI_1 _) (by decide) rfl (fun ls hl => ?_)
          refine lv_goto (tgt := 2) hx hb dX1_leastMultiple_22 (by decide) ?_
          exact ih2 (t_ + 1) (by omega) (by omega) (fun j_ h1_ h2_ => by rcases Nat.lt_or_ge j_ t_ with q_ | q_; exact hl_ j_ h1_ q_; rw [show j_ = t_ by omega]; exact c12) (by omega) _ (lv_sub hl [1, 2, 0] rfl)
        · skip
          refine lv_iload_n hx hb dX1_leastMultiple_15 rfl (lv_at hl 0 rfl) ?_
          refine lv_iload_n hx hb dX1_leastMultiple_16 rfl (lv_at hl 2 rfl) ?_
          refine zi_mul (v := nI (a_ * t_)) hx hb dX1_leastMultiple_17 (pk_mul _ _) ?_
          exact kr _ _ _ dX1_leastMultiple_18 (vp_nar_int _) (congrArg nI (lcm_found ha hb_ h0 c12 hl_))
  exact L2 (b_ - 1 + 1) 1 (by omega) (by omega) (fun j_ h1_ h2_ => by omega) (Nat.lt_succ_self _) _ (lv_sub hl [1, 2, 0] rfl)
abbrev w_X1_order : List Cond := Cond.code yX1_order cX1_order 3 (some .int) :: zAll
abbrev r_X1_order : Room := { frames := 1, cells := 0, slots := 0, locals := 22 }
theorem zd_X1_order : yX1_order.cls = RX1 ∧ yX1_order.cls ≠ "java/lang/invoke/MethodHandle" ∧ yX1_order.cls ≠ "java/lang/invoke/VarHandle" ∧ (parseMethodDescriptor yX1_order.desc).map (fun d => d.parameters.length) = some 0 := by decide +kernel
set_option maxHeartbeats 4000000 in
set_option maxRecDepth 100000 in
theorem c_X1_order (l : Launch) (D : va_G) (cy : Nat → ClassId) (h0_ : Nat) (h1_ : Nat) (c_ : Nat → Nat) (hc_ : ∀ q_, q_ < 17 → c_ q_ ≤ 16) : zMi l yX1_order w_X1_order r_X1_order D cy [(h0_, .inr (0, [.ref h1_])), (h1_, .inl (cy 0, 17, .inl (nIf c_)))] [.ref h0_] (fun r_ => r_ = (nI (ordF c_ 17))) := by
  refine zOfR (cc := cX1_order) (maxL := 3) (ty := .int) (by decide) rfl (Nat.le_of_ble_eq_true rfl) ?_
  intro zp ze zs zm za zb zme zc hx hb hml hts hown hP hK Q kr ls hl
  have hown : zs.vm.findClass RX1 = some zm.cls := hown
  have hl : lv_has ls 3 [(0, .ref h0_)] := hl
  refine lv_iconst (v := nI 1) hx hb dX1_order_0 (by decide) ?_
  refine zi_top (v := nI (ordF c_ 1)) rfl ?_
  refine lv_istore_n (lv' := [(1, .int (nI (ordF c_ 1))), (0, .ref h0_)]) hx hb dX1_order_1 rfl hl (by decide) rfl (fun ls hl => ?_)
  refine lv_iconst (v := nI 1) hx hb dX1_order_2 (by decide) ?_
  refine lv_istore_n (lv' := [(2, .int (nI 1)), (1, .int (nI (ordF c_ 1))), (0, .ref h0_)]) hx hb dX1_order_3 rfl hl (by decide) rfl (fun ls hl => ?_)
  have L4 : ∀ (kf_ : Nat) (i_ : Nat) (h0 : 0 < i_) (hi : i_ ≤ 17), 17 - i_ < kf_ → ∀ ls : Array Slot, lv_has ls 3 [(0, .ref h0_), (1, .int (nI (ordF c_ i_))), (2, .int (nI i_))] → W zp l ze r_X1_order zs zm za zb zme zc zs.heap [] 0 0 Q (F0 zm 4 ls []) := by
    intro kf_
    induction kf_ with
    | zero => intro i_ h0 hi hk_; exact absurd hk_ (Nat.not_lt_zero _)
    | succ kf_ ih4 =>
      intro i_ h0 hi hk_ ls hl
      refine lv_iload_n hx hb dX1_order_4 rfl (lv_at hl 2 rfl) ?_
      refine lv_aload_n hx hb dX1_order_5 rfl (lv_at hl 0 rfl) ?_
      refine va_get (D := D) (ci := 0) (v := .ref h1_) (C := RX1) (T := TX1) (N := 1) hx hb hts (fun w h => List.mem_cons_of_mem _ (zinX1 w h)) hown hK.1 hP 0 rfl rfl 0 (by decide) (hts _ (List.mem_cons_of_mem _ zw_53)) (fun _ h9 => h9) rfl dX1_order_6 ?_
      refine zi_alen hx hb hK hP 1 0 rfl rfl dX1_order_9 ?_
      refine zb_ge (a := i_) (b := 17) (tgt := 34) hx hb dX1_order_10 (by decide) (by omega) (by omega) (fun c10 => ?_) (fun c10 => ?_)
      · skip
        refine lv_iload_n hx hb dX1_order_34 rfl (lv_at hl 1 rfl) ?_
        exact kr _ _ _ dX1_order_35 (vp_nar_int _) (by rw [show i_ = 17 by omega])
      · skip
        refine lv_aload_n hx hb dX1_order_13 rfl (lv_at hl 0 rfl) ?_
        refine va_get (D := D) (ci := 0) (v := .ref h1_) (C := RX1) (T := TX1) (N := 1) hx hb hts (fun w h => List.mem_cons_of_mem _ (zinX1 w h)) hown hK.1 hP 0 rfl rfl 0 (by decide) (hts _ (List.mem_cons_of_mem _ zw_53)) (fun _ h9 => h9) rfl dX1_order_14 ?_
        refine lv_iload_n hx hb dX1_order_17 rfl (lv_at hl 2 rfl) ?_
        refine zi_iald (v := nI (c_ i_)) hx hb hK hP 1 rfl (by omega) (by omega) rfl dX1_order_18 ?_
        have hb19 := hc_ i_ (by omega)
        refine zb0_le (a := c_ i_) (tgt := 28) hx hb dX1_order_19 (by decide) (by omega) (fun c19 => ?_) (fun c19 => ?_)
        · skip
          have e_ : nI (ordF c_ i_) = nI (ordF c_ (i_ + 1)) := (congrArg nI (ordF_no c19).symm)
          rw [e_] at hl
          refine lv_iinc (v := nI (i_ + 1)) (lv' := [(2, .int (nI (i_ + 1))), (0, .ref h0_), (1, .int (nI (ordF c_ (i_ + 1))))]) hx hb dX1_order_28 hl (k := 2) rfl (nI_1 _) (by decide) rfl (fun ls hl => ?_)
          refine lv_goto (tgt := 4) hx hb dX1_order_31 (by decide) ?_
          exact ih4 (i_ + 1) (by omega) (by omega) (by omega) _ (lv_sub hl [1, 2, 0] rfl)
        · skip
          refine lv_iload_n hx hb dX1_order_22 rfl (lv_at hl 1 rfl) ?_
          refine lv_iload_n hx hb dX1_order_23 rfl (lv_at hl 2 rfl) ?_
          refine zcSi (As := [.int (nI (ordF c_ i_)), .int (nI i_)]) (rest := []) ⟨hx, hb, hml, hown, hts⟩ (c_X1_leastMultiple l D cy (ordF c_ i_) i_ (ordF_pos c_ hi) (ordF_le c_ hi) (by omega) (by omega)) (va_cwS 2 hts (zG_S zw_316 zw_317 zw_20 zw_318) rfl rfl rfl zd_X1_leastMultiple ⟨Nat.le_of_ble_eq_true rfl, Nat.le_of_ble_eq_true rfl⟩) hK hP [] rfl rfl hl.1 rfl (Nat.le_of_ble_eq_true rfl) dX1_order_24 ⟨Nat.zero_le _, Nat.zero_le _⟩ (fun r24 h24 => ?_)
          subst h24
          refine zi_top (v := nI (ordF c_ (i_ + 1))) (congrArg nI (ordF_yes h0 c19).symm) ?_
          refine lv_istore_n (lv' := [(1, .int (nI (ordF c_ (i_ + 1)))), (0, .ref h0_), (2, .int (nI i_))]) hx hb dX1_order_27 rfl hl (by decide) rfl (fun ls hl => ?_)
          refine lv_iinc (v := nI (i_ + 1)) (lv' := [(2, .int (nI (i_ + 1))), (1, .int (nI (ordF c_ (i_ + 1)))), (0, .ref h0_)]) hx hb dX1_order_28 hl (k := 2) rfl (nI_1 _) (by decide) rfl (fun ls hl => ?_)
          refine lv_goto (tgt := 4) hx hb dX1_order_31 (by decide) ?_
          exact ih4 (i_ + 1) (by omega) (by omega) (by omega) _ (lv_sub hl [2, 1, 0] rfl)
  exact L4 (17 - 1 + 1) 1 (by omega) (by omega) (Nat.lt_succ_self _) _ (lv_sub hl [2, 1, 0] rfl)
abbrev w_X1_marksThatCommute : List Cond := Cond.code yX1_marksThatCommute cX1_marksThatCommute 5 (some .long) :: zAll
abbrev r_X1_marksThatCommute : Room := { frames := 0, cells := 0, slots := 0, locals := 0 }
theorem zd_X1_marksThatCommute : yX1_marksThatCommute.cls = RX1 ∧ yX1_marksThatCommute.cls ≠ "java/lang/invoke/MethodHandle" ∧ yX1_marksThatCommute.cls ≠ "java/lang/invoke/VarHandle" ∧ (parseMethodDescriptor yX1_marksThatCommute.desc).map (fun d => d.parameters.length) = some 0 := by decide +kernel
set_option maxHeartbeats 4000000 in
set_option maxRecDepth 100000 in
theorem c_X1_marksThatCommute (l : Launch) (D : va_G) (cy : Nat → ClassId) (h0_ : Nat) (h1_ : Nat) (c_ : Nat → Nat) (hc_ : ∀ q_, q_ < 17 → c_ q_ ≤ 16) : zMl l yX1_marksThatCommute w_X1_marksThatCommute r_X1_marksThatCommute D cy [(h0_, .inr (0, [.ref h1_])), (h1_, .inl (cy 0, 17, .inl (nIf c_)))] [.ref h0_] (fun r_ => r_ = (coutL c_ 17)) := by
  refine zOfRl (cc := cX1_marksThatCommute) (maxL := 5) (by decide) rfl (Nat.le_of_ble_eq_true rfl) ?_
  intro zp ze zs zm za zb zme zc hx hb hml hts hown hP hK Q kr ls hl
  have hown : zs.vm.findClass RX1 = some zm.cls := hown
  have hl : lv_has ls 5 [(0, .ref h0_)] := hl
  refine lv_lconst (v := lN 1) hx hb dX1_marksThatCommute_0 rfl ?_
  refine zl_top (v := coutL c_ 1) rfl ?_
  refine lv_lstore_n (lv' := [(1, .long (coutL c_ 1)), (0, .ref h0_)]) hx hb dX1_marksThatCommute_1 rfl hl (by decide) rfl (fun ls hl => ?_)
  refine lv_iconst (v := nI 1) hx hb dX1_marksThatCommute_2 (by decide) ?_
  refine lv_istore_n (lv' := [(3, .int (nI 1)), (1, .long (coutL c_ 1)), (0, .ref h0_)]) hx hb dX1_marksThatCommute_3 rfl hl (by decide) rfl (fun ls hl => ?_)
  have L4 : ∀ (kf_ : Nat) (L_ : Nat) (h0 : 0 < L_) (hi : L_ ≤ 17), 17 - L_ < kf_ → ∀ ls : Array Slot, lv_has ls 5 [(0, .ref h0_), (1, .long (coutL c_ L_)), (3, .int (nI L_))] → W zp l ze r_X1_marksThatCommute zs zm za zb zme zc zs.heap [] 0 0 Q (F0 zm 4 ls []) := by
    intro kf_
    induction kf_ with
    | zero => intro L_ h0 hi hk_; exact absurd hk_ (Nat.not_lt_zero _)
    | succ kf_ ih4 =>
      intro L_ h0 hi hk_ ls hl
      refine lv_iload_n hx hb dX1_marksThatCommute_4 rfl (lv_at hl 2 rfl) ?_
      refine lv_aload_n hx hb dX1_marksThatCommute_5 rfl (lv_at hl 0 rfl) ?_
      refine va_get (D := D) (ci := 0) (v := .ref h1_) (C := RX1) (T := TX1) (N := 1) hx hb hts (fun w h => List.mem_cons_of_mem _ (zinX1 w h)) hown hK.1 hP 0 rfl rfl 0 (by decide) (hts _ (List.mem_cons_of_mem _ zw_53)) (fun _ h9 => h9) rfl dX1_marksThatCommute_6 ?_
      refine zi_alen hx hb hK hP 1 0 rfl rfl dX1_marksThatCommute_9 ?_
      refine zb_ge (a := L_) (b := 17) (tgt := 48) hx hb dX1_marksThatCommute_10 (by decide) (by omega) (by omega) (fun c10 => ?_) (fun c10 => ?_)
      · skip
        refine lv_lload_n hx hb dX1_marksThatCommute_48 rfl (lv_at hl 1 rfl) ?_
        exact kr _ _ _ dX1_marksThatCommute_49 (by rw [show L_ = 17 by omega])
      · skip
        have hb13 := hc_ L_ (by omega)
        refine lv_iconst (v := nI 1) hx hb dX1_marksThatCommute_13 (by decide) ?_
        have e_ : coutL c_ L_ = cinL (coutL c_ L_) L_ (1 - 1) := rfl
        rw [e_] at hl
        refine lv_istore (lv' := [(4, .int (nI 1)), (0, .ref h0_), (1, .long (cinL (coutL c_ L_) L_ (1 - 1))), (3, .int (nI L_))]) hx hb dX1_marksThatCommute_14 hl (by decide) rfl (fun ls hl => ?_)
        have L16 : ∀ (kf_ : Nat) (i_ : Nat) (h1 : 0 < i_) (hj : i_ ≤ c_ L_ + 1), c_ L_ + 1 - i_ < kf_ → ∀ ls : Array Slot, lv_has ls 5 [(0, .ref h0_), (1, .long (cinL (coutL c_ L_) L_ (i_ - 1))), (3, .int (nI L_)), (4, .int (nI i_))] → W zp l ze r_X1_marksThatCommute zs zm za zb zme zc zs.heap [] 0 0 Q (F0 zm 16 ls []) := by
          intro kf_
          induction kf_ with
          | zero => intro i_ h1 hj hk_; exact absurd hk_ (Nat.not_lt_zero _)
          | succ kf_ ih16 =>
            intro i_ h1 hj hk_ ls hl
            refine lv_iload hx hb dX1_marksThatCommute_16 (lv_at hl 3 rfl) ?_
            refine lv_aload_n hx hb dX1_marksThatCommute_18 rfl (lv_at hl 0 rfl) ?_
            refine va_get (D := D) (ci := 0) (v := .ref h1_) (C := RX1) (T := TX1) (N := 1) hx hb hts (fun w h => List.mem_cons_of_mem _ (zinX1 w h)) hown hK.1 hP 0 rfl rfl 0 (by decide) (hts _ (List.mem_cons_of_mem _ zw_53)) (fun _ h9 => h9) rfl dX1_marksThatCommute_19 ?_
            refine lv_iload_n hx hb dX1_marksThatCommute_22 rfl (lv_at hl 2 rfl) ?_
            refine zi_iald (v := nI (c_ L_)) hx hb hK hP 1 rfl (by omega) (by omega) rfl dX1_marksThatCommute_23 ?_
            refine zb_gt (a := i_) (b := c_ L_) (tgt := 42) hx hb dX1_marksThatCommute_24 (by decide) (by omega) (by omega) (fun c24 => ?_) (fun c24 => ?_)
            · skip
              have e_ : cinL (coutL c_ L_) L_ (i_ - 1) = coutL c_ (L_ + 1) := by rw [show i_ - 1 = c_ L_ by omega, coutL_s c_ h0]
              rw [e_] at hl
              refine lv_iinc (v := nI (L_ + 1)) (lv' := [(3, .int (nI (L_ + 1))), (0, .ref h0_), (1, .long (coutL c_ (L_ + 1))), (4, .int (nI i_))]) hx hb dX1_marksThatCommute_42 hl (k := 2) rfl (nI_1 _) (by decide) rfl (fun ls hl => ?_)
              refine lv_goto (tgt := 4) hx hb dX1_marksThatCommute_45 (by decide) ?_
              exact ih4 (L_ + 1) (by omega) (by omega) (by omega) _ (lv_sub hl [1, 2, 0] rfl)
            · skip
              refine lv_lload_n hx hb dX1_marksThatCommute_27 rfl (lv_at hl 1 rfl) ?_
              refine lv_iload_n hx hb dX1_marksThatCommute_28 rfl (lv_at hl 2 rfl) ?_
              refine lv_i2l (v := lN L_) hx hb dX1_marksThatCommute_29 (nI_l (by omega)) ?_
              refine zl_mul (v := (cinL (coutL c_ L_) L_ (i_ - 1)) * (lN L_)) hx hb dX1_marksThatCommute_30 rfl ?_
              refine lv_iload hx hb dX1_marksThatCommute_31 (lv_at hl 3 rfl) ?_
              refine lv_i2l (v := lN i_) hx hb dX1_marksThatCommute_33 (nI_l (by omega)) ?_
              refine zl_mul (v := cinL (coutL c_ L_) L_ (i_ + 1 - 1)) hx hb dX1_marksThatCommute_34 (by obtain ⟨j_, rfl⟩ : ∃ j_, i_ = j_ + 1 := ⟨i_ - 1, by omega⟩; rfl) ?_
              refine lv_lstore_n (lv' := [(1, .long (cinL (coutL c_ L_) L_ (i_ + 1 - 1))), (0, .ref h0_), (3, .int (nI L_)), (4, .int (nI i_))]) hx hb dX1_marksThatCommute_35 rfl hl (by decide) rfl (fun ls hl => ?_)
              refine lv_iinc (v := nI (i_ + 1)) (lv' := [(4, .int (nI (i_ + 1))), (1, .long (cinL (coutL c_ L_) L_ (i_ + 1 - 1))), (0, .ref h0_), (3, .int (nI L_))]) hx hb dX1_marksThatCommute_36 hl (k := 3) rfl (nI_1 _) (by decide) rfl (fun ls hl => ?_)
              refine lv_goto (tgt := 16) hx hb dX1_marksThatCommute_39 (by decide) ?_
              exact ih16 (i_ + 1) (by omega) (by omega) (by omega) _ (lv_sub hl [2, 1, 3, 0] rfl)
        exact L16 (c_ L_ + 1 - 1 + 1) 1 (by omega) (by omega) (Nat.lt_succ_self _) _ (lv_sub hl [1, 2, 3, 0] rfl)
  exact L4 (17 - 1 + 1) 1 (by omega) (by omega) (Nat.lt_succ_self _) _ (lv_sub hl [2, 1, 0] rfl)
abbrev w_X1_tell : List Cond := Cond.code yX1_tell cX1_tell 9 none :: zAll
abbrev r_X1_tell : Room := { frames := 2, cells := 0, slots := 0, locals := 46 }
theorem zd_X1_tell : yX1_tell.cls = RX1 ∧ yX1_tell.cls ≠ "java/lang/invoke/MethodHandle" ∧ yX1_tell.cls ≠ "java/lang/invoke/VarHandle" ∧ (parseMethodDescriptor yX1_tell.desc).map (fun d => d.parameters.length) = some 2 := by decide +kernel
set_option maxHeartbeats 4000000 in
set_option maxRecDepth 100000 in
theorem c_X1_tell (l : Launch) (D : va_G) (cy : Nat → ClassId) (sz : Nat) (h0_ : Nat) (h1_ : Nat) (c_ : Nat → Nat) (x_ : Int64) (n_ : Nat) (hx_ : P16 (nb x_)) (hn : n_ ≤ 16) : zWv l yX1_tell w_X1_tell r_X1_tell D cy [(h0_, .inr (0, [.ref h1_])), (h1_, .inl (cy 0, 17, .inl (nIf c_)))] sz [.ref h0_, .long x_, .int (nI n_)] (fun u : (Nat → Nat) => CntI x_ n_ u) (fun u : (Nat → Nat) => ([(h0_, .inr (0, [.ref h1_])), (h1_, .inl (cy 0, 17, .inl (nIf u)))] : va_W)) 0 0 := by
  refine zOfV (cc := cX1_tell) (maxL := 9) (by decide) rfl (Nat.le_of_ble_eq_true rfl) ?_
  intro zp ze zs zm za zb zme zc hx hb hml hts hown hP hK zA hD hA Q kr ls hl hin
  have hS : va_S zA zs.heap zs.heap [] := va_S.rf
  have hown : zs.vm.findClass RX1 = some zm.cls := hown
  have hl : lv_has ls 9 [(0, .ref h0_), (1, .long x_), (3, .int (nI n_))] := hl
  refine lv_iconst (v := nI 0) hx hb dX1_tell_0 (by decide) ?_
  refine lv_istore (lv' := [(4, .int (nI 0)), (0, .ref h0_), (1, .long x_), (3, .int (nI n_))]) hx hb dX1_tell_1 hl (by decide) rfl (fun ls hl => ?_)
  have L3 : ∀ (kf_ : Nat) (i_ : Nat) (c_ : Nat → Nat) (hi : i_ ≤ 17) (hz : ∀ q_, q_ < i_ → c_ q_ = 0), 17 - i_ < kf_ → ∀ (H : Heap) (locs : List Loc), va_P D vwCl [(h0_, .inr (0, [.ref h1_])), (h1_, .inl (cy 0, 17, .inl (nIf c_)))] H → va_D zA [(h0_, .inr (0, [.ref h1_])), (h1_, .inl (cy 0, 17, .inl (nIf c_)))] → va_S zA zs.heap H locs → ∀ ls : Array Slot, lv_has ls 9 [(0, .ref h0_), (1, .long x_), (3, .int (nI n_)), (4, .int (nI i_))] → W zp l ze r_X1_tell zs zm za zb zme zc H locs 0 0 Q (F0 zm 3 ls []) := by
    intro kf_
    induction kf_ with
    | zero => intro i_ c_ hi hz hk_; exact absurd hk_ (Nat.not_lt_zero _)
    | succ kf_ ih3 =>
      intro i_ c_ hi hz hk_ H locs hP hD hS ls hl
      refine lv_iload hx hb dX1_tell_3 (lv_at hl 3 rfl) ?_
      refine lv_aload_n hx hb dX1_tell_5 rfl (lv_at hl 0 rfl) ?_
      refine va_get (D := D) (ci := 0) (v := .ref h1_) (C := RX1) (T := TX1) (N := 1) hx hb hts (fun w h => List.mem_cons_of_mem _ (zinX1 w h)) hown hK.1 hP 0 rfl rfl 0 (by decide) (hts _ (List.mem_cons_of_mem _ zw_53)) (fun _ h9 => h9) rfl dX1_tell_6 ?_
      refine zi_alen hx hb hK hP 1 0 rfl rfl dX1_tell_9 ?_
      refine zb_ge (a := i_) (b := 17) (tgt := 27) hx hb dX1_tell_10 (by decide) (by omega) (by omega) (fun c10 => ?_) (fun c10 => ?_)
      · skip
        refine lv_iconst (v := nI 0) hx hb dX1_tell_27 (by decide) ?_
        refine lv_istore (lv' := [(4, .int (nI 0)), (0, .ref h0_), (1, .long x_), (3, .int (nI n_))]) hx hb dX1_tell_28 hl (by decide) rfl (fun ls hl => ?_)
        refine lv_iconst (v := nI 0) hx hb dX1_tell_30 (by decide) ?_
        refine lv_istore (lv' := [(5, .int (nI 0)), (4, .int (nI 0)), (0, .ref h0_), (1, .long x_), (3, .int (nI n_))]) hx hb dX1_tell_31 hl (by decide) rfl (fun ls hl => ?_)
        have L33 : ∀ (kf_ : Nat) (i_ : Nat) (s_ : Nat) (c_ : Nat → Nat) (hi : i_ ≤ n_) (hsb : s_ < 65536) (hs : SeenP x_ i_ s_.testBit) (hc_ : CntI x_ i_ c_), n_ - i_ < kf_ → ∀ (H : Heap) (locs : List Loc), va_P D vwCl [(h0_, .inr (0, [.ref h1_])), (h1_, .inl (cy 0, 17, .inl (nIf c_)))] H → va_D zA [(h0_, .inr (0, [.ref h1_])), (h1_, .inl (cy 0, 17, .inl (nIf c_)))] → va_S zA zs.heap H locs → ∀ ls : Array Slot, lv_has ls 9 [(0, .ref h0_), (1, .long x_), (3, .int (nI n_)), (4, .int (nI s_)), (5, .int (nI i_))] → W zp l ze r_X1_tell zs zm za zb zme zc H locs 0 0 Q (F0 zm 33 ls []) := by
          intro kf_
          induction kf_ with
          | zero => intro i_ s_ c_ hi hsb hs hc_ hk_; exact absurd hk_ (Nat.not_lt_zero _)
          | succ kf_ ih33 =>
            intro i_ s_ c_ hi hsb hs hc_ hk_ H locs hP hD hS ls hl
            refine lv_iload hx hb dX1_tell_33 (lv_at hl 4 rfl) ?_
            refine lv_iload_n hx hb dX1_tell_35 rfl (lv_at hl 2 rfl) ?_
            refine zb_ge (a := i_) (b := n_) (tgt := 106) hx hb dX1_tell_36 (by decide) (by omega) (by omega) (fun c36 => ?_) (fun c36 => ?_)
            · skip
              exact kr c_ _ _ _ _ dX1_tell_106 ((show i_ = n_ by omega) ▸ hc_) hP hD hS
            · skip
              refine lv_iload hx hb dX1_tell_39 (lv_at hl 3 rfl) ?_
              refine lv_iload hx hb dX1_tell_41 (lv_at hl 4 rfl) ?_
              refine zi_shr (v := nI (s_ / 2 ^ i_)) hx hb dX1_tell_43 (zz_shr (by omega) (by omega)) ?_
              refine lv_iconst (v := nI 1) hx hb dX1_tell_44 (by decide) ?_
              refine zi_and (v := if s_.testBit i_ = true then 1 else 0) hx hb dX1_tell_45 (zz_tb s_ i_) ?_
              refine zq_ne (tgt := 100) hx hb dX1_tell_46 (by decide) (fun c46 => ?_) (fun c46 => ?_)
              · skip
                have hs100 : SeenP x_ (i_ + 1) s_.testBit ∧ CntI x_ (i_ + 1) c_ := ⟨(seen_yes hx_ (by omega) hs c46).1, cnt_yes (seen_yes hx_ (by omega) hs c46).2 hc_⟩
                refine lv_iinc (v := nI (i_ + 1)) (lv' := [(5, .int (nI (i_ + 1))), (0, .ref h0_), (1, .long x_), (3, .int (nI n_)), (4, .int (nI s_))]) hx hb dX1_tell_100 hl (k := 4) rfl (nI_1 _) (by decide) rfl (fun ls hl => ?_)
                refine lv_goto (tgt := 33) hx hb dX1_tell_103 (by decide) ?_
                exact ih33 (i_ + 1) s_ c_ (by omega) (by omega) hs100.1 hs100.2 (by omega) _ _ hP hD hS _ (lv_sub hl [1, 2, 3, 4, 0] rfl)
              · skip
                refine lv_lload_n hx hb dX1_tell_49 rfl (lv_at hl 1 rfl) ?_
                refine lv_iload hx hb dX1_tell_50 (lv_at hl 4 rfl) ?_
                refine zcSi (As := [.long x_, .int (nI i_)]) (rest := []) ⟨hx, hb, hml, hown, hts⟩ (c_X3_cycleLength l D cy x_ i_ (by omega)) (va_cwS 2 hts (zG_S zw_306 zw_173 zw_119 zw_174) rfl rfl rfl zd_X3_cycleLength ⟨Nat.le_of_ble_eq_true rfl, Nat.le_of_ble_eq_true rfl⟩) hK hP [] rfl rfl hl.1 rfl (Nat.le_of_ble_eq_true rfl) dX1_tell_52 ⟨Nat.zero_le _, Nat.zero_le _⟩ (fun r52 h52 => ?_)
                subst h52
                refine lv_istore (lv' := [(6, .int (nI (cl (nb x_) i_))), (0, .ref h0_), (1, .long x_), (3, .int (nI n_)), (4, .int (nI s_)), (5, .int (nI i_))]) hx hb dX1_tell_55 hl (by decide) rfl (fun ls hl => ?_)
                refine lv_iload hx hb dX1_tell_57 (lv_at hl 5 rfl) ?_
                refine zi_top (v := nI (it (nb x_) 0 i_)) rfl ?_
                refine lv_istore (lv' := [(7, .int (nI (it (nb x_) 0 i_))), (6, .int (nI (cl (nb x_) i_))), (0, .ref h0_), (1, .long x_), (3, .int (nI n_)), (4, .int (nI s_)), (5, .int (nI i_))]) hx hb dX1_tell_59 hl (by decide) rfl (fun ls hl => ?_)
                refine lv_iconst (v := nI 0) hx hb dX1_tell_61 (by decide) ?_
                refine lv_istore (lv' := [(8, .int (nI 0)), (7, .int (nI (it (nb x_) 0 i_))), (6, .int (nI (cl (nb x_) i_))), (0, .ref h0_), (1, .long x_), (3, .int (nI n_)), (4, .int (nI s_)), (5, .int (nI i_))]) hx hb dX1_tell_62 hl (by decide) rfl (fun ls hl => ?_)
                have L64 : ∀ (kf_ : Nat) (j_ : Nat) (m_ : Nat) (hj : j_ ≤ cl (nb x_) i_) (hmb : m_ < 65536) (hm_ : ∀ q_, q_ < 16 → (m_.testBit q_ = true ↔ s_.testBit q_ = true ∨ ∃ t_, t_ < j_ ∧ it (nb x_) t_ i_ = q_)), cl (nb x_) i_ - j_ < kf_ → ∀ (H : Heap) (locs : List Loc), va_P D vwCl [(h0_, .inr (0, [.ref h1_])), (h1_, .inl (cy 0, 17, .inl (nIf c_)))] H → va_D zA [(h0_, .inr (0, [.ref h1_])), (h1_, .inl (cy 0, 17, .inl (nIf c_)))] → va_S zA zs.heap H locs → ∀ ls : Array Slot, lv_has ls 9 [(0, .ref h0_), (1, .long x_), (3, .int (nI n_)), (4, .int (nI m_)), (5, .int (nI i_)), (6, .int (nI (cl (nb x_) i_))), (7, .int (nI (it (nb x_) j_ i_))), (8, .int (nI j_))] → W zp l ze r_X1_tell zs zm za zb zme zc H locs 0 0 Q (F0 zm 64 ls []) := by
                  intro kf_
                  induction kf_ with
                  | zero => intro j_ m_ hj hmb hm_ hk_; exact absurd hk_ (Nat.not_lt_zero _)
                  | succ kf_ ih64 =>
                    intro j_ m_ hj hmb hm_ hk_ H locs hP hD hS ls hl
                    have hL64 := cl_le (nb x_) i_
                    have hL65 := cl_pos (nb x_) i_
                    refine lv_iload hx hb dX1_tell_64 (lv_at hl 7 rfl) ?_
                    refine lv_iload hx hb dX1_tell_66 (lv_at hl 5 rfl) ?_
                    refine zb_ge (a := j_) (b := cl (nb x_) i_) (tgt := 94) hx hb dX1_tell_68 (by decide) (by omega) (by omega) (fun c68 => ?_) (fun c68 => ?_)
                    · skip
                      have hs94 : SeenP x_ (i_ + 1) m_.testBit := seen_add hs (fun q_ hq_ => by rw [hm_ q_ hq_, show j_ = cl (nb x_) i_ by omega, inC_cl hx_ (by omega)])
                      have hlead := seen_no hx_ (by omega) hs c46
                      refine lv_aload_n hx hb dX1_tell_94 rfl (lv_at hl 0 rfl) ?_
                      refine lv_iload hx hb dX1_tell_95 (lv_at hl 5 rfl) ?_
                      refine zcWv (As := [.int (nI (cl (nb x_) i_))]) (rest := []) (wr := []) ⟨hx, hb, hml, hown, hts⟩ (c_X1_add l D cy H.size h0_ h1_ c_ (cl (nb x_) i_) (by have := cl_le (nb x_) i_; omega)) (cwV 1 hts (zG_V zw_308 zw_309 zw_310 zw_20 zw_311) rfl rfl rfl zd_X1_add ⟨Nat.le_of_ble_eq_true rfl, Nat.le_of_ble_eq_true rfl⟩) hK hP hD hS hA [0, 1] [] [0, 1] rfl (by decide) rfl (by decide) (by decide) (w2 := (fun uq_ : Unit => ([(h0_, .inr (0, [.ref h1_])), (h1_, .inl (cy 0, 17, .inl (nIf (uN1 c_ (cl (nb x_) i_) (c_ (cl (nb x_) i_) + 1)))))] : va_W))) (fun _ => rfl) (by decide) rfl rfl rfl rfl hl.1 rfl (Nat.le_of_ble_eq_true rfl) dX1_tell_97 ⟨Nat.zero_le _, Nat.zero_le _⟩ (fun  u97 H locs h97 hP hD hS => ?_)
                      have h97 : True := h97
                      have hP : va_P D vwCl [(h0_, .inr (0, [.ref h1_])), (h1_, .inl (cy 0, 17, .inl (nIf (uN1 c_ (cl (nb x_) i_) (c_ (cl (nb x_) i_) + 1)))))] H := hP
                      have hD : va_D zA [(h0_, .inr (0, [.ref h1_])), (h1_, .inl (cy 0, 17, .inl (nIf (uN1 c_ (cl (nb x_) i_) (c_ (cl (nb x_) i_) + 1)))))] := hD
                      have hs100 : SeenP x_ (i_ + 1) m_.testBit ∧ CntI x_ (i_ + 1) (uN1 c_ (cl (nb x_) i_) (c_ (cl (nb x_) i_) + 1)) := ⟨hs94, cnt_no hlead hc_⟩
                      refine lv_iinc (v := nI (i_ + 1)) (lv' := [(5, .int (nI (i_ + 1))), (0, .ref h0_), (1, .long x_), (3, .int (nI n_)), (4, .int (nI m_)), (6, .int (nI (cl (nb x_) i_))), (7, .int (nI (it (nb x_) j_ i_))), (8, .int (nI j_))]) hx hb dX1_tell_100 hl (k := 4) rfl (nI_1 _) (by decide) rfl (fun ls hl => ?_)
                      refine lv_goto (tgt := 33) hx hb dX1_tell_103 (by decide) ?_
                      exact ih33 (i_ + 1) m_ (uN1 c_ (cl (nb x_) i_) (c_ (cl (nb x_) i_) + 1)) (by omega) (by omega) hs100.1 hs100.2 (by omega) _ _ hP hD hS _ (lv_sub hl [1, 2, 3, 4, 0] rfl)
                    · skip
                      have hw71 : it (nb x_) j_ i_ < 16 := it_lt (fun q_ _ => nb_lt x_ q_) (by omega)
                      refine lv_iload hx hb dX1_tell_71 (lv_at hl 3 rfl) ?_
                      refine lv_iconst (v := nI 1) hx hb dX1_tell_73 (by decide) ?_
                      refine lv_iload hx hb dX1_tell_74 (lv_at hl 6 rfl) ?_
                      refine zi_shl (v := nI (2 ^ (it (nb x_) j_ i_))) hx hb dX1_tell_76 (zz_shl1 (by omega)) ?_
                      refine zi_or (v := nI (m_ ||| 2 ^ it (nb x_) j_ i_)) hx hb dX1_tell_77 (fa_or _ _) ?_
                      refine lv_istore (lv' := [(4, .int (nI (m_ ||| 2 ^ it (nb x_) j_ i_))), (0, .ref h0_), (1, .long x_), (3, .int (nI n_)), (5, .int (nI i_)), (6, .int (nI (cl (nb x_) i_))), (7, .int (nI (it (nb x_) j_ i_))), (8, .int (nI j_))]) hx hb dX1_tell_78 hl (by decide) rfl (fun ls hl => ?_)
                      refine lv_lload_n hx hb dX1_tell_80 rfl (lv_at hl 2 rfl) ?_
                      refine lv_iload hx hb dX1_tell_81 (lv_at hl 6 rfl) ?_
                      refine zcSi (As := [.long x_, .int (nI (it (nb x_) j_ i_))]) (rest := []) ⟨hx, hb, hml, hown, hts⟩ (c_X3_to l D cy x_ (it (nb x_) j_ i_) hw71) (va_cwS 2 hts (zG_S zw_307 zw_122 zw_119 zw_123) rfl rfl rfl zd_X3_to ⟨Nat.le_of_ble_eq_true rfl, Nat.le_of_ble_eq_true rfl⟩) hK hP [] rfl rfl hl.1 rfl (Nat.le_of_ble_eq_true rfl) dX1_tell_83 ⟨Nat.zero_le _, Nat.zero_le _⟩ (fun r83 h83 => ?_)
                      subst h83
                      refine zi_top (v := nI (it (nb x_) (j_ + 1) i_)) (congrArg nI (it_succ _ _ _).symm) ?_
                      refine lv_istore (lv' := [(7, .int (nI (it (nb x_) (j_ + 1) i_))), (4, .int (nI (m_ ||| 2 ^ it (nb x_) j_ i_))), (0, .ref h0_), (1, .long x_), (3, .int (nI n_)), (5, .int (nI i_)), (6, .int (nI (cl (nb x_) i_))), (8, .int (nI j_))]) hx hb dX1_tell_86 hl (by decide) rfl (fun ls hl => ?_)
                      refine lv_iinc (v := nI (j_ + 1)) (lv' := [(8, .int (nI (j_ + 1))), (7, .int (nI (it (nb x_) (j_ + 1) i_))), (4, .int (nI (m_ ||| 2 ^ it (nb x_) j_ i_))), (0, .ref h0_), (1, .long x_), (3, .int (nI n_)), (5, .int (nI i_)), (6, .int (nI (cl (nb x_) i_)))]) hx hb dX1_tell_88 hl (k := 7) rfl (nI_1 _) (by decide) rfl (fun ls hl => ?_)
                      refine lv_goto (tgt := 64) hx hb dX1_tell_91 (by decide) ?_
                      exact ih64 (j_ + 1) (m_ ||| 2 ^ it (nb x_) j_ i_) (by omega) (Nat.or_lt_two_pow (n := 16) hmb (Nat.pow_lt_pow_right (by decide) hw71)) (fun q_ hq_ => seenJ_s (hm_ q_ hq_)) (by omega) _ _ hP hD hS _ (lv_sub hl [3, 4, 5, 2, 6, 7, 1, 0] rfl)
                exact L64 (cl (nb x_) i_ - 0 + 1) 0 s_ (Nat.zero_le _) hsb (fun q_ _ => ⟨fun h_ => Or.inl h_, fun h_ => h_.elim id (fun ⟨t_, ht_, _⟩ => absurd ht_ (Nat.not_lt_zero _))⟩) (Nat.lt_succ_self _) _ _ hP hD hS _ (lv_sub hl [3, 4, 5, 6, 7, 2, 1, 0] rfl)
        exact L33 (n_ - 0 + 1) 0 0 c_ (by omega) (by omega) (seen_0 x_ (fun q_ _ => Nat.zero_testBit q_)) (cnt_0 x_ (fun q_ hq_ => hz q_ (by omega))) (Nat.lt_succ_self _) _ _ hP hD hS _ (lv_sub hl [2, 3, 4, 1, 0] rfl)
      · skip
        refine lv_aload_n hx hb dX1_tell_13 rfl (lv_at hl 0 rfl) ?_
        refine va_get (D := D) (ci := 0) (v := .ref h1_) (C := RX1) (T := TX1) (N := 1) hx hb hts (fun w h => List.mem_cons_of_mem _ (zinX1 w h)) hown hK.1 hP 0 rfl rfl 0 (by decide) (hts _ (List.mem_cons_of_mem _ zw_53)) (fun _ h9 => h9) rfl dX1_tell_14 ?_
        refine lv_iload hx hb dX1_tell_17 (lv_at hl 3 rfl) ?_
        refine lv_iconst (v := nI 0) hx hb dX1_tell_19 (by decide) ?_
        refine zi_iast hx hb hK hP hD hS 1 rfl (by omega) (by omega) dX1_tell_20 (fun H locs hP hD hS => ?_)
        rw [upd_nIf] at hP hD
        have hP : va_P D vwCl [(h0_, .inr (0, [.ref h1_])), (h1_, .inl (cy 0, 17, .inl (nIf (uN1 c_ i_ 0))))] H := hP
        have hD : va_D zA [(h0_, .inr (0, [.ref h1_])), (h1_, .inl (cy 0, 17, .inl (nIf (uN1 c_ i_ 0))))] := hD
        refine lv_iinc (v := nI (i_ + 1)) (lv' := [(4, .int (nI (i_ + 1))), (0, .ref h0_), (1, .long x_), (3, .int (nI n_))]) hx hb dX1_tell_21 hl (k := 3) rfl (nI_1 _) (by decide) rfl (fun ls hl => ?_)
        refine lv_goto (tgt := 3) hx hb dX1_tell_24 (by decide) ?_
        exact ih3 (i_ + 1) (uN1 c_ i_ 0) (by omega) (fun q_ hq_ => by unfold uN1; split; rfl; exact hz q_ (by omega)) (by omega) _ _ hP hD hS _ (lv_sub hl [1, 2, 3, 0] rfl)
  exact L3 (17 - 0 + 1) 0 c_ (by omega) (fun q_ hq_ => absurd hq_ (Nat.not_lt_zero _)) (Nat.lt_succ_self _) _ _ hP hD hS _ (lv_sub hl [1, 2, 3, 0] rfl)

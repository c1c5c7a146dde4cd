abbrev w_X6_hasPlace : List Cond := Cond.code yX6_hasPlace cX6_hasPlace 2 (some .boolean) :: zAll
abbrev r_X6_hasPlace : Room := { frames := 0, cells := 0, slots := 0, locals := 0 }
theorem zd_X6_hasPlace : yX6_hasPlace.cls = RX6 ∧ yX6_hasPlace.cls ≠ "java/lang/invoke/MethodHandle" ∧ yX6_hasPlace.cls ≠ "java/lang/invoke/VarHandle" ∧ (parseMethodDescriptor yX6_hasPlace.desc).map (fun d => d.parameters.length) = some 1 := by decide +kernel
set_option maxHeartbeats 4000000 in
set_option maxRecDepth 100000 in
theorem c_X6_hasPlace (l : Launch) (D : va_G) (cy : Nat → ClassId) (h0_ : Nat) (h1_ : Nat) (n_ : Nat) (P_ : Int64) (T_ : Int64) (k_ : Nat) (x_ : Int32) (hn : n_ ≤ 16) : zMi l yX6_hasPlace w_X6_hasPlace r_X6_hasPlace D cy [(h0_, .inr (3, [.int (nI n_), .long P_, .long T_, .int (nI k_), .ref h1_]))] [.ref h0_, .int x_] (fun r_ => r_ = (if (0 ≤ x_.toInt ∧ x_.toInt < (n_ : Int)) then 1 else 0)) := by
  refine zOfR (cc := cX6_hasPlace) (maxL := 2) (ty := .boolean) (by decide) rfl (Nat.le_of_ble_eq_true rfl) ?_
  intro zp ze zs zm za zb zme zc hx hb hml hts hown hP hK Q kr ls hl
  have hown : zs.vm.findClass RX6 = some zm.cls := hown
  have hl : lv_has ls 2 [(0, .ref h0_), (1, .int x_)] := hl
  refine lv_iload_n hx hb dX6_hasPlace_0 rfl (lv_at hl 1 rfl) ?_
  refine zt0_lt (a := (x_).toInt) (tgt := 16) hx hb dX6_hasPlace_1 (by decide) rfl (fun c1 => ?_) (fun c1 => ?_)
  · skip
    refine lv_iconst (v := nI 0) hx hb dX6_hasPlace_16 (by decide) ?_
    exact kr _ _ _ dX6_hasPlace_17 rfl (by rw [if_neg (by omega)]; rfl)
  · skip
    refine lv_iload_n hx hb dX6_hasPlace_4 rfl (lv_at hl 1 rfl) ?_
    refine lv_aload_n hx hb dX6_hasPlace_5 rfl (lv_at hl 0 rfl) ?_
    refine va_get (D := D) (ci := 3) (v := .int (nI n_)) (C := RX6) (T := TX6) (N := 5) hx hb hts (fun w h => List.mem_cons_of_mem _ (zinX6 w h)) hown hK.1 hP 0 rfl rfl 0 (by decide) (hts _ (List.mem_cons_of_mem _ zw_34)) (fun _ h9 => h9) rfl dX6_hasPlace_6 ?_
    refine zt_ge (a := (x_).toInt) (b := ((n_ : Nat) : Int)) (tgt := 16) hx hb dX6_hasPlace_9 (by decide) rfl (nI_toInt (by omega)) (fun c9 => ?_) (fun c9 => ?_)
    · skip
      refine lv_iconst (v := nI 0) hx hb dX6_hasPlace_16 (by decide) ?_
      exact kr _ _ _ dX6_hasPlace_17 rfl (by rw [if_neg (by omega)]; rfl)
    · skip
      refine lv_iconst (v := nI 1) hx hb dX6_hasPlace_12 (by decide) ?_
      refine lv_goto (tgt := 17) hx hb dX6_hasPlace_13 (by decide) ?_
      exact kr _ _ _ dX6_hasPlace_17 rfl (by rw [if_pos (by omega)]; rfl)
abbrev w_X6_hasMark : List Cond := Cond.code yX6_hasMark cX6_hasMark 2 (some .boolean) :: zAll
abbrev r_X6_hasMark : Room := { frames := 0, cells := 0, slots := 0, locals := 0 }
theorem zd_X6_hasMark : yX6_hasMark.cls = RX6 ∧ yX6_hasMark.cls ≠ "java/lang/invoke/MethodHandle" ∧ yX6_hasMark.cls ≠ "java/lang/invoke/VarHandle" ∧ (parseMethodDescriptor yX6_hasMark.desc).map (fun d => d.parameters.length) = some 1 := by decide +kernel
set_option maxHeartbeats 4000000 in
set_option maxRecDepth 100000 in
theorem c_X6_hasMark (l : Launch) (D : va_G) (cy : Nat → ClassId) (h0_ : Nat) (h1_ : Nat) (n_ : Nat) (P_ : Int64) (T_ : Int64) (k_ : Nat) (x_ : Int32) (hk : k_ ≤ 6) : zMi l yX6_hasMark w_X6_hasMark r_X6_hasMark D cy [(h0_, .inr (3, [.int (nI n_), .long P_, .long T_, .int (nI k_), .ref h1_]))] [.ref h0_, .int x_] (fun r_ => r_ = (if (0 ≤ x_.toInt ∧ x_.toInt < (k_ : Int)) then 1 else 0)) := by
  refine zOfR (cc := cX6_hasMark) (maxL := 2) (ty := .boolean) (by decide) rfl (Nat.le_of_ble_eq_true rfl) ?_
  intro zp ze zs zm za zb zme zc hx hb hml hts hown hP hK Q kr ls hl
  have hown : zs.vm.findClass RX6 = some zm.cls := hown
  have hl : lv_has ls 2 [(0, .ref h0_), (1, .int x_)] := hl
  refine lv_iload_n hx hb dX6_hasMark_0 rfl (lv_at hl 1 rfl) ?_
  refine zt0_lt (a := (x_).toInt) (tgt := 16) hx hb dX6_hasMark_1 (by decide) rfl (fun c1 => ?_) (fun c1 => ?_)
  · skip
    refine lv_iconst (v := nI 0) hx hb dX6_hasMark_16 (by decide) ?_
    exact kr _ _ _ dX6_hasMark_17 rfl (by rw [if_neg (by omega)]; rfl)
  · skip
    refine lv_iload_n hx hb dX6_hasMark_4 rfl (lv_at hl 1 rfl) ?_
    refine lv_aload_n hx hb dX6_hasMark_5 rfl (lv_at hl 0 rfl) ?_
    refine va_get (D := D) (ci := 3) (v := .int (nI k_)) (C := RX6) (T := TX6) (N := 5) hx hb hts (fun w h => List.mem_cons_of_mem _ (zinX6 w h)) hown hK.1 hP 0 rfl rfl 3 (by decide) (hts _ (List.mem_cons_of_mem _ zw_38)) (fun _ h9 => h9) rfl dX6_hasMark_6 ?_
    refine zt_ge (a := (x_).toInt) (b := ((k_ : Nat) : Int)) (tgt := 16) hx hb dX6_hasMark_9 (by decide) rfl (nI_toInt (by omega)) (fun c9 => ?_) (fun c9 => ?_)
    · skip
      refine lv_iconst (v := nI 0) hx hb dX6_hasMark_16 (by decide) ?_
      exact kr _ _ _ dX6_hasMark_17 rfl (by rw [if_neg (by omega)]; rfl)
    · skip
      refine lv_iconst (v := nI 1) hx hb dX6_hasMark_12 (by decide) ?_
      refine lv_goto (tgt := 17) hx hb dX6_hasMark_13 (by decide) ?_
      exact kr _ _ _ dX6_hasMark_17 rfl (by rw [if_pos (by omega)]; rfl)
abbrev w_X6_movesOf : List Cond := Cond.code yX6_movesOf cX6_movesOf 2 (some .long) :: zAll
abbrev r_X6_movesOf : Room := { frames := 0, cells := 0, slots := 0, locals := 0 }
theorem zd_X6_movesOf : yX6_movesOf.cls = RX6 ∧ yX6_movesOf.cls ≠ "java/lang/invoke/MethodHandle" ∧ yX6_movesOf.cls ≠ "java/lang/invoke/VarHandle" ∧ (parseMethodDescriptor yX6_movesOf.desc).map (fun d => d.parameters.length) = some 1 := by decide +kernel
set_option maxHeartbeats 4000000 in
set_option maxRecDepth 100000 in
theorem c_X6_movesOf (l : Launch) (D : va_G) (cy : Nat → ClassId) (h0_ : Nat) (h1_ : Nat) (n_ : Nat) (P_ : Int64) (T_ : Int64) (k_ : Nat) (mk_ : Nat → Int64) (m_ : Nat) (hm : m_ < 6) : zMl l yX6_movesOf w_X6_movesOf r_X6_movesOf D cy [(h0_, .inr (3, [.int (nI n_), .long P_, .long T_, .int (nI k_), .ref h1_])), (h1_, .inl (cy 1, 6, .inr (.inl mk_)))] [.ref h0_, .int (nI m_)] (fun r_ => r_ = (mk_ m_)) := by
  refine zOfRl (cc := cX6_movesOf) (maxL := 2) (by decide) rfl (Nat.le_of_ble_eq_true rfl) ?_
  intro zp ze zs zm za zb zme zc hx hb hml hts hown hP hK Q kr ls hl
  have hown : zs.vm.findClass RX6 = some zm.cls := hown
  have hl : lv_has ls 2 [(0, .ref h0_), (1, .int (nI m_))] := hl
  refine lv_iload_n hx hb dX6_movesOf_0 rfl (lv_at hl 1 rfl) ?_
  refine zb0_lt (a := m_) (tgt := 22) hx hb dX6_movesOf_1 (by decide) (by omega) (fun hd_ => absurd hd_ (by omega)) (fun c1 => ?_)
  refine lv_iload_n hx hb dX6_movesOf_4 rfl (lv_at hl 1 rfl) ?_
  refine lv_aload_n hx hb dX6_movesOf_5 rfl (lv_at hl 0 rfl) ?_
  refine va_get (D := D) (ci := 3) (v := .ref h1_) (C := RX6) (T := TX6) (N := 5) hx hb hts (fun w h => List.mem_cons_of_mem _ (zinX6 w h)) hown hK.1 hP 0 rfl rfl 4 (by decide) (hts _ (List.mem_cons_of_mem _ zw_40)) (fun _ h9 => h9) rfl dX6_movesOf_6 ?_
  refine zi_alen hx hb hK hP 1 1 rfl rfl dX6_movesOf_9 ?_
  refine zb_ge (a := m_) (b := 6) (tgt := 22) hx hb dX6_movesOf_10 (by decide) (by omega) (by omega) (fun hd_ => absurd hd_ (by omega)) (fun c10 => ?_)
  refine lv_aload_n hx hb dX6_movesOf_13 rfl (lv_at hl 0 rfl) ?_
  refine va_get (D := D) (ci := 3) (v := .ref h1_) (C := RX6) (T := TX6) (N := 5) hx hb hts (fun w h => List.mem_cons_of_mem _ (zinX6 w h)) hown hK.1 hP 0 rfl rfl 4 (by decide) (hts _ (List.mem_cons_of_mem _ zw_40)) (fun _ h9 => h9) rfl dX6_movesOf_14 ?_
  refine lv_iload_n hx hb dX6_movesOf_17 rfl (lv_at hl 1 rfl) ?_
  refine zi_lald (v := mk_ m_) hx hb hK hP 1 rfl (by omega) (by omega) rfl dX6_movesOf_18 ?_
  refine lv_goto (tgt := 25) hx hb dX6_movesOf_19 (by decide) ?_
  exact kr _ _ _ dX6_movesOf_25 rfl
abbrev w_X6_lowestMark : List Cond := Cond.code yX6_lowestMark cX6_lowestMark 4 (some .int) :: zAll
abbrev r_X6_lowestMark : Room := { frames := 0, cells := 0, slots := 0, locals := 0 }
theorem zd_X6_lowestMark : yX6_lowestMark.cls = RX6 ∧ yX6_lowestMark.cls ≠ "java/lang/invoke/MethodHandle" ∧ yX6_lowestMark.cls ≠ "java/lang/invoke/VarHandle" ∧ (parseMethodDescriptor yX6_lowestMark.desc).map (fun d => d.parameters.length) = some 1 := by decide +kernel
set_option maxHeartbeats 4000000 in
set_option maxRecDepth 100000 in
theorem c_X6_lowestMark (l : Launch) (D : va_G) (cy : Nat → ClassId) (h0_ : Nat) (h1_ : Nat) (n_ : Nat) (P_ : Int64) (T_ : Int64) (k_ : Nat) (mk_ : Nat → Int64) (x_ : Int64) (hk : k_ ≤ 6) : zMi l yX6_lowestMark w_X6_lowestMark r_X6_lowestMark D cy [(h0_, .inr (3, [.int (nI n_), .long P_, .long T_, .int (nI k_), .ref h1_])), (h1_, .inl (cy 1, 6, .inr (.inl mk_)))] [.ref h0_, .long x_] (fun r_ => r_ = (lowM mk_ k_ x_)) := by
  refine zOfR (cc := cX6_lowestMark) (maxL := 4) (ty := .int) (by decide) rfl (Nat.le_of_ble_eq_true rfl) ?_
  intro zp ze zs zm za zb zme zc hx hb hml hts hown hP hK Q kr ls hl
  have hown : zs.vm.findClass RX6 = some zm.cls := hown
  have hl : lv_has ls 4 [(0, .ref h0_), (1, .long x_)] := hl
  refine lv_iconst (v := nI 0) hx hb dX6_lowestMark_0 (by decide) ?_
  refine lv_istore_n (lv' := [(3, .int (nI 0)), (0, .ref h0_), (1, .long x_)]) hx hb dX6_lowestMark_1 rfl hl (by decide) rfl (fun ls hl => ?_)
  have L2 : ∀ (kf_ : Nat) (i_ : Nat) (hi : i_ ≤ k_) (hl_ : ∀ j_, j_ < i_ → mk_ j_ ≠ x_), k_ - i_ < kf_ → ∀ ls : Array Slot, lv_has ls 4 [(0, .ref h0_), (1, .long x_), (3, .int (nI i_))] → W zp l ze r_X6_lowestMark zs zm za zb zme zc zs.heap [] 0 0 Q (F0 zm 2 ls []) := by
    intro kf_
    induction kf_ with
    | zero => intro i_ hi hl_ hk_; exact absurd hk_ (Nat.not_lt_zero _)
    | succ kf_ ih2 =>
      intro i_ hi hl_ hk_ ls hl
      refine lv_iload_n hx hb dX6_lowestMark_2 rfl (lv_at hl 2 rfl) ?_
      refine lv_aload_n hx hb dX6_lowestMark_3 rfl (lv_at hl 0 rfl) ?_
      refine va_get (D := D) (ci := 3) (v := .int (nI k_)) (C := RX6) (T := TX6) (N := 5) hx hb hts (fun w h => List.mem_cons_of_mem _ (zinX6 w h)) hown hK.1 hP 0 rfl rfl 3 (by decide) (hts _ (List.mem_cons_of_mem _ zw_38)) (fun _ h9 => h9) rfl dX6_lowestMark_4 ?_
      refine zb_ge (a := i_) (b := k_) (tgt := 38) hx hb dX6_lowestMark_7 (by decide) (by omega) (by omega) (fun c7 => ?_) (fun c7 => ?_)
      · skip
        refine lv_bipush (v := (-6)) hx hb dX6_lowestMark_38 (by decide) ?_
        exact kr _ _ _ dX6_lowestMark_40 (vp_nar_int _) (lowM_no (fun j_ hj_ => hl_ j_ (by omega)))
      · skip
        refine lv_iload_n hx hb dX6_lowestMark_10 rfl (lv_at hl 2 rfl) ?_
        refine lv_aload_n hx hb dX6_lowestMark_11 rfl (lv_at hl 0 rfl) ?_
        refine va_get (D := D) (ci := 3) (v := .ref h1_) (C := RX6) (T := TX6) (N := 5) hx hb hts (fun w h => List.mem_cons_of_mem _ (zinX6 w h)) hown hK.1 hP 0 rfl rfl 4 (by decide) (hts _ (List.mem_cons_of_mem _ zw_40)) (fun _ h9 => h9) rfl dX6_lowestMark_12 ?_
        refine zi_alen hx hb hK hP 1 1 rfl rfl dX6_lowestMark_15 ?_
        refine zb_ge (a := i_) (b := 6) (tgt := 38) hx hb dX6_lowestMark_16 (by decide) (by omega) (by omega) (fun hd_ => absurd hd_ (by omega)) (fun c16 => ?_)
        refine lv_aload_n hx hb dX6_lowestMark_19 rfl (lv_at hl 0 rfl) ?_
        refine va_get (D := D) (ci := 3) (v := .ref h1_) (C := RX6) (T := TX6) (N := 5) hx hb hts (fun w h => List.mem_cons_of_mem _ (zinX6 w h)) hown hK.1 hP 0 rfl rfl 4 (by decide) (hts _ (List.mem_cons_of_mem _ zw_40)) (fun _ h9 => h9) rfl dX6_lowestMark_20 ?_
        refine lv_iload_n hx hb dX6_lowestMark_23 rfl (lv_at hl 2 rfl) ?_
        refine zi_lald (v := mk_ i_) hx hb hK hP 1 rfl (by omega) (by omega) rfl dX6_lowestMark_24 ?_
        refine lv_lload_n hx hb dX6_lowestMark_25 rfl (lv_at hl 1 rfl) ?_
        refine W.lcmp hx hb dX6_lowestMark_26 ?_
        refine zc_ne (tgt := 32) hx hb dX6_lowestMark_27 (by decide) (fun c27 => ?_) (fun c27 => ?_)
        · skip
          refine lv_iinc (v := nI (i_ + 1)) (lv' := [(3, .int (nI (i_ + 1))), (0, .ref h0_), (1, .long x_)]) hx hb dX6_lowestMark_32 hl (k := 2) rfl (nI_1 _) (by decide) rfl (fun ls hl => ?_)
          refine lv_goto (tgt := 2) hx hb dX6_lowestMark_35 (by decide) ?_
          exact ih2 (i_ + 1) (by omega) (fun j_ hj_ => by rcases Nat.lt_or_ge j_ i_ with q_ | q_; exact hl_ j_ q_; rw [show j_ = i_ by omega]; exact c27) (by omega) _ (lv_sub hl [1, 2, 0] rfl)
        · skip
          refine lv_iload_n hx hb dX6_lowestMark_30 rfl (lv_at hl 2 rfl) ?_
          exact kr _ _ _ dX6_lowestMark_31 (vp_nar_int _) (lowM_yes (by omega) c27 hl_)
  exact L2 (k_ - 0 + 1) 0 (by omega) (fun j_ hj_ => absurd hj_ (Nat.not_lt_zero _)) (Nat.lt_succ_self _) _ (lv_sub hl [1, 2, 0] rfl)
abbrev w_X6_layInOrder : List Cond := Cond.code yX6_layInOrder cX6_layInOrder 2 none :: zAll
abbrev r_X6_layInOrder : Room := { frames := 0, cells := 0, slots := 0, locals := 0 }
theorem zd_X6_layInOrder : yX6_layInOrder.cls = RX6 ∧ yX6_layInOrder.cls ≠ "java/lang/invoke/MethodHandle" ∧ yX6_layInOrder.cls ≠ "java/lang/invoke/VarHandle" ∧ (parseMethodDescriptor yX6_layInOrder.desc).map (fun d => d.parameters.length) = some 1 := by decide +kernel
set_option maxHeartbeats 4000000 in
set_option maxRecDepth 100000 in
theorem c_X6_layInOrder (l : Launch) (D : va_G) (cy : Nat → ClassId) (sz : Nat) (h0_ : Nat) (h1_ : Nat) (n_ : Nat) (P_ : Int64) (T_ : Int64) (k_ : Nat) (v_ : Nat) : zWv l yX6_layInOrder w_X6_layInOrder r_X6_layInOrder D cy [(h0_, .inr (3, [.int (nI n_), .long P_, .long T_, .int (nI k_), .ref h1_]))] sz [.ref h0_, .int (nI v_)] (fun u : Unit => True) (fun u : Unit => ([(h0_, .inr (3, [.int (nI v_), .long stayL, .long stayL, .int (nI 0), .ref h1_]))] : va_W)) 0 0 := by
  refine zOfV (cc := cX6_layInOrder) (maxL := 2) (by decide) rfl (Nat.le_of_ble_eq_true rfl) ?_
  intro zp ze zs zm za zb zme zc hx hb hml hts hown hP hK zA hD hA Q kr ls hl hin
  have hS : va_S zA zs.heap zs.heap [] := va_S.rf
  have hown : zs.vm.findClass RX6 = some zm.cls := hown
  have hl : lv_has ls 2 [(0, .ref h0_), (1, .int (nI v_))] := hl
  refine lv_aload_n hx hb dX6_layInOrder_0 rfl (lv_at hl 0 rfl) ?_
  refine lv_iload_n hx hb dX6_layInOrder_1 rfl (lv_at hl 1 rfl) ?_
  refine va_put (D := D) (ci := 3) (v := .int (nI v_)) (ty := .int) (C := RX6) (T := TX6) (N := 5) hx hb hts (fun w h => List.mem_cons_of_mem _ (zinX6 w h)) tyX6 tyX6_ok nmX6 hown hK.1 hP hD hS 0 rfl rfl 0 (by decide) (hts _ (List.mem_cons_of_mem _ zw_34)) (fun _ h9 => h9) rfl (tyX6_ok 0 (by decide)) rfl rfl (Nat.le_of_ble_eq_true rfl) dX6_layInOrder_2 (fun H locs hP hD hS => ?_)
  have hP : va_P D vwCl [(h0_, .inr (3, [.int (nI v_), .long P_, .long T_, .int (nI k_), .ref h1_]))] H := hP
  have hD : va_D zA [(h0_, .inr (3, [.int (nI v_), .long P_, .long T_, .int (nI k_), .ref h1_]))] := hD
  refine lv_aload_n hx hb dX6_layInOrder_5 rfl (lv_at hl 0 rfl) ?_
  refine lv_ldc2 hx hb hown (hts _ (List.mem_cons_of_mem _ zw_35)) dX6_layInOrder_6 ?_
  refine zl_top (v := stayL) rfl ?_
  refine va_put (D := D) (ci := 3) (v := .long stayL) (ty := .long) (C := RX6) (T := TX6) (N := 5) hx hb hts (fun w h => List.mem_cons_of_mem _ (zinX6 w h)) tyX6 tyX6_ok nmX6 hown hK.1 hP hD hS 0 rfl rfl 1 (by decide) (hts _ (List.mem_cons_of_mem _ zw_36)) (fun _ h9 => h9) rfl (tyX6_ok 1 (by decide)) rfl rfl (Nat.le_of_ble_eq_true rfl) dX6_layInOrder_9 (fun H locs hP hD hS => ?_)
  have hP : va_P D vwCl [(h0_, .inr (3, [.int (nI v_), .long stayL, .long T_, .int (nI k_), .ref h1_]))] H := hP
  have hD : va_D zA [(h0_, .inr (3, [.int (nI v_), .long stayL, .long T_, .int (nI k_), .ref h1_]))] := hD
  refine lv_aload_n hx hb dX6_layInOrder_12 rfl (lv_at hl 0 rfl) ?_
  refine lv_ldc2 hx hb hown (hts _ (List.mem_cons_of_mem _ zw_35)) dX6_layInOrder_13 ?_
  refine zl_top (v := stayL) rfl ?_
  refine va_put (D := D) (ci := 3) (v := .long stayL) (ty := .long) (C := RX6) (T := TX6) (N := 5) hx hb hts (fun w h => List.mem_cons_of_mem _ (zinX6 w h)) tyX6 tyX6_ok nmX6 hown hK.1 hP hD hS 0 rfl rfl 2 (by decide) (hts _ (List.mem_cons_of_mem _ zw_37)) (fun _ h9 => h9) rfl (tyX6_ok 2 (by decide)) rfl rfl (Nat.le_of_ble_eq_true rfl) dX6_layInOrder_16 (fun H locs hP hD hS => ?_)
  have hP : va_P D vwCl [(h0_, .inr (3, [.int (nI v_), .long stayL, .long stayL, .int (nI k_), .ref h1_]))] H := hP
  have hD : va_D zA [(h0_, .inr (3, [.int (nI v_), .long stayL, .long stayL, .int (nI k_), .ref h1_]))] := hD
  refine lv_aload_n hx hb dX6_layInOrder_19 rfl (lv_at hl 0 rfl) ?_
  refine lv_iconst (v := nI 0) hx hb dX6_layInOrder_20 (by decide) ?_
  refine va_put (D := D) (ci := 3) (v := .int (nI 0)) (ty := .int) (C := RX6) (T := TX6) (N := 5) hx hb hts (fun w h => List.mem_cons_of_mem _ (zinX6 w h)) tyX6 tyX6_ok nmX6 hown hK.1 hP hD hS 0 rfl rfl 3 (by decide) (hts _ (List.mem_cons_of_mem _ zw_38)) (fun _ h9 => h9) rfl (tyX6_ok 3 (by decide)) rfl rfl (Nat.le_of_ble_eq_true rfl) dX6_layInOrder_21 (fun H locs hP hD hS => ?_)
  have hP : va_P D vwCl [(h0_, .inr (3, [.int (nI v_), .long stayL, .long stayL, .int (nI 0), .ref h1_]))] H := hP
  have hD : va_D zA [(h0_, .inr (3, [.int (nI v_), .long stayL, .long stayL, .int (nI 0), .ref h1_]))] := hD
  exact kr () _ _ _ _ dX6_layInOrder_24 trivial hP hD hS
abbrev w_X6_addMark : List Cond := Cond.code yX6_addMark cX6_addMark 4 (some .int) :: zAll
abbrev r_X6_addMark : Room := { frames := 0, cells := 0, slots := 0, locals := 0 }
theorem zd_X6_addMark : yX6_addMark.cls = RX6 ∧ yX6_addMark.cls ≠ "java/lang/invoke/MethodHandle" ∧ yX6_addMark.cls ≠ "java/lang/invoke/VarHandle" ∧ (parseMethodDescriptor yX6_addMark.desc).map (fun d => d.parameters.length) = some 1 := by decide +kernel
set_option maxHeartbeats 4000000 in
set_option maxRecDepth 100000 in
theorem c_X6_addMark (l : Launch) (D : va_G) (cy : Nat → ClassId) (sz : Nat) (h0_ : Nat) (h1_ : Nat) (n_ : Nat) (P_ : Int64) (T_ : Int64) (k_ : Nat) (mk_ : Nat → Int64) (x_ : Int64) (hk : k_ < 6) : zWi l yX6_addMark w_X6_addMark r_X6_addMark D cy [(h0_, .inr (3, [.int (nI n_), .long P_, .long T_, .int (nI k_), .ref h1_])), (h1_, .inl (cy 1, 6, .inr (.inl mk_)))] sz [.ref h0_, .long x_] (fun (r_ : Int32) (u : Unit) => r_ = (nI k_) ∧ True) (fun u : Unit => ([(h0_, .inr (3, [.int (nI n_), .long P_, .long T_, .int (nI (k_ + 1)), .ref h1_])), (h1_, .inl (cy 1, 6, .inr (.inl (vp_updL mk_ k_ x_))))] : va_W)) := by
  refine zOfW (cc := cX6_addMark) (maxL := 4) (ty := .int) (by decide) rfl (Nat.le_of_ble_eq_true rfl) ?_
  intro zp ze zs zm za zb zme zc hx hb hml hts hown hP hK zA hD hA Q kr ls hl
  have hS : va_S zA zs.heap zs.heap [] := va_S.rf
  have hown : zs.vm.findClass RX6 = some zm.cls := hown
  have hl : lv_has ls 4 [(0, .ref h0_), (1, .long x_)] := hl
  refine lv_aload_n hx hb dX6_addMark_0 rfl (lv_at hl 0 rfl) ?_
  refine va_get (D := D) (ci := 3) (v := .int (nI k_)) (C := RX6) (T := TX6) (N := 5) hx hb hts (fun w h => List.mem_cons_of_mem _ (zinX6 w h)) hown hK.1 hP 0 rfl rfl 3 (by decide) (hts _ (List.mem_cons_of_mem _ zw_38)) (fun _ h9 => h9) rfl dX6_addMark_1 ?_
  refine lv_istore_n (lv' := [(3, .int (nI k_)), (0, .ref h0_), (1, .long x_)]) hx hb dX6_addMark_4 rfl hl (by decide) rfl (fun ls hl => ?_)
  refine lv_iload_n hx hb dX6_addMark_5 rfl (lv_at hl 0 rfl) ?_
  refine zb0_lt (a := k_) (tgt := 35) hx hb dX6_addMark_6 (by decide) (by omega) (fun hd_ => absurd hd_ (by omega)) (fun c6 => ?_)
  refine lv_iload_n hx hb dX6_addMark_9 rfl (lv_at hl 0 rfl) ?_
  refine lv_aload_n hx hb dX6_addMark_10 rfl (lv_at hl 1 rfl) ?_
  refine va_get (D := D) (ci := 3) (v := .ref h1_) (C := RX6) (T := TX6) (N := 5) hx hb hts (fun w h => List.mem_cons_of_mem _ (zinX6 w h)) hown hK.1 hP 0 rfl rfl 4 (by decide) (hts _ (List.mem_cons_of_mem _ zw_40)) (fun _ h9 => h9) rfl dX6_addMark_11 ?_
  refine zi_alen hx hb hK hP 1 1 rfl rfl dX6_addMark_14 ?_
  refine zb_ge (a := k_) (b := 6) (tgt := 35) hx hb dX6_addMark_15 (by decide) (by omega) (by omega) (fun hd_ => absurd hd_ (by omega)) (fun c15 => ?_)
  refine lv_aload_n hx hb dX6_addMark_18 rfl (lv_at hl 1 rfl) ?_
  refine va_get (D := D) (ci := 3) (v := .ref h1_) (C := RX6) (T := TX6) (N := 5) hx hb hts (fun w h => List.mem_cons_of_mem _ (zinX6 w h)) hown hK.1 hP 0 rfl rfl 4 (by decide) (hts _ (List.mem_cons_of_mem _ zw_40)) (fun _ h9 => h9) rfl dX6_addMark_19 ?_
  refine lv_iload_n hx hb dX6_addMark_22 rfl (lv_at hl 0 rfl) ?_
  refine lv_lload_n hx hb dX6_addMark_23 rfl (lv_at hl 2 rfl) ?_
  refine zi_last hx hb hK hP hD hS 1 rfl (by omega) (by omega) dX6_addMark_24 (fun H locs hP hD hS => ?_)
  have hP : va_P D vwCl [(h0_, .inr (3, [.int (nI n_), .long P_, .long T_, .int (nI k_), .ref h1_])), (h1_, .inl (cy 1, 6, .inr (.inl (vp_updL mk_ k_ x_))))] H := hP
  have hD : va_D zA [(h0_, .inr (3, [.int (nI n_), .long P_, .long T_, .int (nI k_), .ref h1_])), (h1_, .inl (cy 1, 6, .inr (.inl (vp_updL mk_ k_ x_))))] := hD
  refine lv_aload_n hx hb dX6_addMark_25 rfl (lv_at hl 1 rfl) ?_
  refine lv_dup hx hb dX6_addMark_26 rfl ?_
  refine va_get (D := D) (ci := 3) (v := .int (nI k_)) (C := RX6) (T := TX6) (N := 5) hx hb hts (fun w h => List.mem_cons_of_mem _ (zinX6 w h)) hown hK.1 hP 0 rfl rfl 3 (by decide) (hts _ (List.mem_cons_of_mem _ zw_38)) (fun _ h9 => h9) rfl dX6_addMark_27 ?_
  refine lv_iconst (v := nI 1) hx hb dX6_addMark_30 (by decide) ?_
  refine zi_add (v := nI (k_ + 1)) hx hb dX6_addMark_31 (nI_add _ _) ?_
  refine va_put (D := D) (ci := 3) (v := .int (nI (k_ + 1))) (ty := .int) (C := RX6) (T := TX6) (N := 5) hx hb hts (fun w h => List.mem_cons_of_mem _ (zinX6 w h)) tyX6 tyX6_ok nmX6 hown hK.1 hP hD hS 0 rfl rfl 3 (by decide) (hts _ (List.mem_cons_of_mem _ zw_38)) (fun _ h9 => h9) rfl (tyX6_ok 3 (by decide)) rfl rfl (Nat.le_of_ble_eq_true rfl) dX6_addMark_32 (fun H locs hP hD hS => ?_)
  have hP : va_P D vwCl [(h0_, .inr (3, [.int (nI n_), .long P_, .long T_, .int (nI (k_ + 1)), .ref h1_])), (h1_, .inl (cy 1, 6, .inr (.inl (vp_updL mk_ k_ x_))))] H := hP
  have hD : va_D zA [(h0_, .inr (3, [.int (nI n_), .long P_, .long T_, .int (nI (k_ + 1)), .ref h1_])), (h1_, .inl (cy 1, 6, .inr (.inl (vp_updL mk_ k_ x_))))] := hD
  refine lv_iload_n hx hb dX6_addMark_35 rfl (lv_at hl 0 rfl) ?_
  exact kr _ () _ _ _ _ dX6_addMark_36 (vp_nar_int _) ⟨rfl, trivial⟩ hP hD hS
abbrev w_X6_removeMark : List Cond := Cond.code yX6_removeMark cX6_removeMark 3 none :: zAll
abbrev r_X6_removeMark : Room := { frames := 0, cells := 0, slots := 0, locals := 0 }
theorem zd_X6_removeMark : yX6_removeMark.cls = RX6 ∧ yX6_removeMark.cls ≠ "java/lang/invoke/MethodHandle" ∧ yX6_removeMark.cls ≠ "java/lang/invoke/VarHandle" ∧ (parseMethodDescriptor yX6_removeMark.desc).map (fun d => d.parameters.length) = some 1 := by decide +kernel
set_option maxHeartbeats 4000000 in
set_option maxRecDepth 100000 in
theorem c_X6_removeMark (l : Launch) (D : va_G) (cy : Nat → ClassId) (sz : Nat) (h0_ : Nat) (h1_ : Nat) (n_ : Nat) (P_ : Int64) (T_ : Int64) (k_ : Nat) (mk_ : Nat → Int64) (m_ : Nat) (hm : m_ < k_) (hk : k_ ≤ 6) : zWv l yX6_removeMark w_X6_removeMark r_X6_removeMark D cy [(h0_, .inr (3, [.int (nI n_), .long P_, .long T_, .int (nI k_), .ref h1_])), (h1_, .inl (cy 1, 6, .inr (.inl mk_)))] sz [.ref h0_, .int (nI m_)] (fun u : Unit => True) (fun u : Unit => ([(h0_, .inr (3, [.int (nI n_), .long P_, .long T_, .int (nI (k_ - 1)), .ref h1_])), (h1_, .inl (cy 1, 6, .inr (.inl (rmL mk_ m_ 5))))] : va_W)) 0 0 := by
  refine zOfV (cc := cX6_removeMark) (maxL := 3) (by decide) rfl (Nat.le_of_ble_eq_true rfl) ?_
  intro zp ze zs zm za zb zme zc hx hb hml hts hown hP hK zA hD hA Q kr ls hl hin
  have hS : va_S zA zs.heap zs.heap [] := va_S.rf
  have hown : zs.vm.findClass RX6 = some zm.cls := hown
  have hl : lv_has ls 3 [(0, .ref h0_), (1, .int (nI m_))] := hl
  refine lv_iload_n hx hb dX6_removeMark_0 rfl (lv_at hl 1 rfl) ?_
  have hP := zP_rowJ hP 1 (rmL mk_ m_ m_) rfl (fun j_ _ => congrFun (rmL_0 mk_ m_) j_)
  have hP : va_P D vwCl [(h0_, .inr (3, [.int (nI n_), .long P_, .long T_, .int (nI k_), .ref h1_])), (h1_, .inl (cy 1, 6, .inr (.inl (rmL mk_ m_ m_))))] zs.heap := hP
  have hD : va_D zA [(h0_, .inr (3, [.int (nI n_), .long P_, .long T_, .int (nI k_), .ref h1_])), (h1_, .inl (cy 1, 6, .inr (.inl (rmL mk_ m_ m_))))] := hD.set (p := 1) rfl
  refine lv_istore_n (lv' := [(2, .int (nI m_)), (0, .ref h0_), (1, .int (nI m_))]) hx hb dX6_removeMark_1 rfl hl (by decide) rfl (fun ls hl => ?_)
  have L2 : ∀ (kf_ : Nat) (i_ : Nat) (hi0 : m_ ≤ i_) (hi : i_ ≤ 5), 5 - i_ < kf_ → ∀ (H : Heap) (locs : List Loc), va_P D vwCl [(h0_, .inr (3, [.int (nI n_), .long P_, .long T_, .int (nI k_), .ref h1_])), (h1_, .inl (cy 1, 6, .inr (.inl (rmL mk_ m_ i_))))] H → va_D zA [(h0_, .inr (3, [.int (nI n_), .long P_, .long T_, .int (nI k_), .ref h1_])), (h1_, .inl (cy 1, 6, .inr (.inl (rmL mk_ m_ i_))))] → va_S zA zs.heap H locs → ∀ ls : Array Slot, lv_has ls 3 [(0, .ref h0_), (1, .int (nI m_)), (2, .int (nI i_))] → W zp l ze r_X6_removeMark zs zm za zb zme zc H locs 0 0 Q (F0 zm 2 ls []) := by
    intro kf_
    induction kf_ with
    | zero => intro i_ hi0 hi hk_; exact absurd hk_ (Nat.not_lt_zero _)
    | succ kf_ ih2 =>
      intro i_ hi0 hi hk_ H locs hP hD hS ls hl
      refine lv_iload_n hx hb dX6_removeMark_2 rfl (lv_at hl 2 rfl) ?_
      refine zb0_lt (a := i_) (tgt := 37) hx hb dX6_removeMark_3 (by decide) (by omega) (fun hd_ => absurd hd_ (by omega)) (fun c3 => ?_)
      refine lv_iload_n hx hb dX6_removeMark_6 rfl (lv_at hl 2 rfl) ?_
      refine lv_iconst (v := nI 1) hx hb dX6_removeMark_7 (by decide) ?_
      refine zi_add (v := nI (i_ + 1)) hx hb dX6_removeMark_8 (nI_add _ _) ?_
      refine lv_aload_n hx hb dX6_removeMark_9 rfl (lv_at hl 0 rfl) ?_
      refine va_get (D := D) (ci := 3) (v := .ref h1_) (C := RX6) (T := TX6) (N := 5) hx hb hts (fun w h => List.mem_cons_of_mem _ (zinX6 w h)) hown hK.1 hP 0 rfl rfl 4 (by decide) (hts _ (List.mem_cons_of_mem _ zw_40)) (fun _ h9 => h9) rfl dX6_removeMark_10 ?_
      refine zi_alen hx hb hK hP 1 1 rfl rfl dX6_removeMark_13 ?_
      refine zb_ge (a := i_ + 1) (b := 6) (tgt := 37) hx hb dX6_removeMark_14 (by decide) (by omega) (by omega) (fun c14 => ?_) (fun c14 => ?_)
      · skip
        have hP := zP_rowJ hP 1 (rmL mk_ m_ 5) rfl (fun j_ _ => by rw [show i_ = 5 by omega])
        have hP : va_P D vwCl [(h0_, .inr (3, [.int (nI n_), .long P_, .long T_, .int (nI k_), .ref h1_])), (h1_, .inl (cy 1, 6, .inr (.inl (rmL mk_ m_ 5))))] H := hP
        have hD : va_D zA [(h0_, .inr (3, [.int (nI n_), .long P_, .long T_, .int (nI k_), .ref h1_])), (h1_, .inl (cy 1, 6, .inr (.inl (rmL mk_ m_ 5))))] := hD.set (p := 1) rfl
        refine lv_aload_n hx hb dX6_removeMark_37 rfl (lv_at hl 0 rfl) ?_
        refine lv_dup hx hb dX6_removeMark_38 rfl ?_
        refine va_get (D := D) (ci := 3) (v := .int (nI k_)) (C := RX6) (T := TX6) (N := 5) hx hb hts (fun w h => List.mem_cons_of_mem _ (zinX6 w h)) hown hK.1 hP 0 rfl rfl 3 (by decide) (hts _ (List.mem_cons_of_mem _ zw_38)) (fun _ h9 => h9) rfl dX6_removeMark_39 ?_
        refine lv_iconst (v := nI 1) hx hb dX6_removeMark_42 (by decide) ?_
        refine zi_sub (v := nI (k_ - 1)) hx hb dX6_removeMark_43 (pk_sub (by omega)) ?_
        refine va_put (D := D) (ci := 3) (v := .int (nI (k_ - 1))) (ty := .int) (C := RX6) (T := TX6) (N := 5) hx hb hts (fun w h => List.mem_cons_of_mem _ (zinX6 w h)) tyX6 tyX6_ok nmX6 hown hK.1 hP hD hS 0 rfl rfl 3 (by decide) (hts _ (List.mem_cons_of_mem _ zw_38)) (fun _ h9 => h9) rfl (tyX6_ok 3 (by decide)) rfl rfl (Nat.le_of_ble_eq_true rfl) dX6_removeMark_44 (fun H locs hP hD hS => ?_)
        have hP : va_P D vwCl [(h0_, .inr (3, [.int (nI n_), .long P_, .long T_, .int (nI (k_ - 1)), .ref h1_])), (h1_, .inl (cy 1, 6, .inr (.inl (rmL mk_ m_ 5))))] H := hP
        have hD : va_D zA [(h0_, .inr (3, [.int (nI n_), .long P_, .long T_, .int (nI (k_ - 1)), .ref h1_])), (h1_, .inl (cy 1, 6, .inr (.inl (rmL mk_ m_ 5))))] := hD
        exact kr () _ _ _ _ dX6_removeMark_47 trivial hP hD hS
      · skip
        refine lv_aload_n hx hb dX6_removeMark_17 rfl (lv_at hl 0 rfl) ?_
        refine va_get (D := D) (ci := 3) (v := .ref h1_) (C := RX6) (T := TX6) (N := 5) hx hb hts (fun w h => List.mem_cons_of_mem _ (zinX6 w h)) hown hK.1 hP 0 rfl rfl 4 (by decide) (hts _ (List.mem_cons_of_mem _ zw_40)) (fun _ h9 => h9) rfl dX6_removeMark_18 ?_
        refine lv_iload_n hx hb dX6_removeMark_21 rfl (lv_at hl 2 rfl) ?_
        refine lv_aload_n hx hb dX6_removeMark_22 rfl (lv_at hl 0 rfl) ?_
        refine va_get (D := D) (ci := 3) (v := .ref h1_) (C := RX6) (T := TX6) (N := 5) hx hb hts (fun w h => List.mem_cons_of_mem _ (zinX6 w h)) hown hK.1 hP 0 rfl rfl 4 (by decide) (hts _ (List.mem_cons_of_mem _ zw_40)) (fun _ h9 => h9) rfl dX6_removeMark_23 ?_
        refine lv_iload_n hx hb dX6_removeMark_26 rfl (lv_at hl 2 rfl) ?_
        refine lv_iconst (v := nI 1) hx hb dX6_removeMark_27 (by decide) ?_
        refine zi_add (v := nI (i_ + 1)) hx hb dX6_removeMark_28 (nI_add _ _) ?_
        refine zi_lald (v := mk_ (i_ + 1)) hx hb hK hP 1 rfl (by omega) (by omega) (rmL_n _ _ _) dX6_removeMark_29 ?_
        refine zi_last hx hb hK hP hD hS 1 rfl (by omega) (by omega) dX6_removeMark_30 (fun H locs hP hD hS => ?_)
        have hP : va_P D vwCl [(h0_, .inr (3, [.int (nI n_), .long P_, .long T_, .int (nI k_), .ref h1_])), (h1_, .inl (cy 1, 6, .inr (.inl (vp_updL (rmL mk_ m_ i_) i_ (mk_ (i_ + 1))))))] H := hP
        have hD : va_D zA [(h0_, .inr (3, [.int (nI n_), .long P_, .long T_, .int (nI k_), .ref h1_])), (h1_, .inl (cy 1, 6, .inr (.inl (vp_updL (rmL mk_ m_ i_) i_ (mk_ (i_ + 1))))))] := hD
        have e30_ : (vp_updL (rmL mk_ m_ i_) i_ (mk_ (i_ + 1))) = rmL mk_ m_ (i_ + 1) := (rmL_s _ hi0)
        rw [e30_] at hP hD
        refine lv_iinc (v := nI (i_ + 1)) (lv' := [(2, .int (nI (i_ + 1))), (0, .ref h0_), (1, .int (nI m_))]) hx hb dX6_removeMark_31 hl (k := 2) rfl (nI_1 _) (by decide) rfl (fun ls hl => ?_)
        refine lv_goto (tgt := 2) hx hb dX6_removeMark_34 (by decide) ?_
        exact ih2 (i_ + 1) (by omega) (by omega) (by omega) _ _ hP hD hS _ (lv_sub hl [1, 2, 0] rfl)
  exact L2 (5 - m_ + 1) m_ (by omega) (by omega) (Nat.lt_succ_self _) _ _ hP hD hS _ (lv_sub hl [1, 2, 0] rfl)
abbrev w_X6_copyFrom : List Cond := Cond.code yX6_copyFrom cX6_copyFrom 3 none :: zAll
abbrev r_X6_copyFrom : Room := { frames := 0, cells := 0, slots := 0, locals := 0 }
theorem zd_X6_copyFrom : yX6_copyFrom.cls = RX6 ∧ yX6_copyFrom.cls ≠ "java/lang/invoke/MethodHandle" ∧ yX6_copyFrom.cls ≠ "java/lang/invoke/VarHandle" ∧ (parseMethodDescriptor yX6_copyFrom.desc).map (fun d => d.parameters.length) = some 1 := by decide +kernel
set_option maxHeartbeats 4000000 in
set_option maxRecDepth 100000 in
theorem c_X6_copyFrom (l : Launch) (D : va_G) (cy : Nat → ClassId) (sz : Nat) (h0_ : Nat) (h1_ : Nat) (n_ : Nat) (P_ : Int64) (T_ : Int64) (k_ : Nat) (mk_ : Nat → Int64) (h2_ : Nat) (h3_ : Nat) (n2_ : Nat) (P2_ : Int64) (T2_ : Int64) (k2_ : Nat) (mk2_ : Nat → Int64) : zWv l yX6_copyFrom w_X6_copyFrom r_X6_copyFrom D cy [(h0_, .inr (3, [.int (nI n_), .long P_, .long T_, .int (nI k_), .ref h1_])), (h1_, .inl (cy 1, 6, .inr (.inl mk_))), (h2_, .inr (3, [.int (nI n2_), .long P2_, .long T2_, .int (nI k2_), .ref h3_])), (h3_, .inl (cy 1, 6, .inr (.inl mk2_)))] sz [.ref h0_, .ref h2_] (fun u : Unit => True) (fun u : Unit => ([(h0_, .inr (3, [.int (nI n2_), .long P2_, .long T2_, .int (nI k2_), .ref h1_])), (h1_, .inl (cy 1, 6, .inr (.inl mk2_))), (h2_, .inr (3, [.int (nI n2_), .long P2_, .long T2_, .int (nI k2_), .ref h3_])), (h3_, .inl (cy 1, 6, .inr (.inl mk2_)))] : va_W)) 0 0 := by
  refine zOfV (cc := cX6_copyFrom) (maxL := 3) (by decide) rfl (Nat.le_of_ble_eq_true rfl) ?_
  intro zp ze zs zm za zb zme zc hx hb hml hts hown hP hK zA hD hA Q kr ls hl hin
  have hS : va_S zA zs.heap zs.heap [] := va_S.rf
  have hown : zs.vm.findClass RX6 = some zm.cls := hown
  have hl : lv_has ls 3 [(0, .ref h0_), (1, .ref h2_)] := hl
  refine lv_aload_n hx hb dX6_copyFrom_0 rfl (lv_at hl 0 rfl) ?_
  refine lv_aload_n hx hb dX6_copyFrom_1 rfl (lv_at hl 1 rfl) ?_
  refine va_get (D := D) (ci := 3) (v := .int (nI n2_)) (C := RX6) (T := TX6) (N := 5) hx hb hts (fun w h => List.mem_cons_of_mem _ (zinX6 w h)) hown hK.1 hP 2 rfl rfl 0 (by decide) (hts _ (List.mem_cons_of_mem _ zw_34)) (fun _ h9 => h9) rfl dX6_copyFrom_2 ?_
  refine va_put (D := D) (ci := 3) (v := .int (nI n2_)) (ty := .int) (C := RX6) (T := TX6) (N := 5) hx hb hts (fun w h => List.mem_cons_of_mem _ (zinX6 w h)) tyX6 tyX6_ok nmX6 hown hK.1 hP hD hS 0 rfl rfl 0 (by decide) (hts _ (List.mem_cons_of_mem _ zw_34)) (fun _ h9 => h9) rfl (tyX6_ok 0 (by decide)) rfl rfl (Nat.le_of_ble_eq_true rfl) dX6_copyFrom_5 (fun H locs hP hD hS => ?_)
  have hP : va_P D vwCl [(h0_, .inr (3, [.int (nI n2_), .long P_, .long T_, .int (nI k_), .ref h1_])), (h1_, .inl (cy 1, 6, .inr (.inl mk_))), (h2_, .inr (3, [.int (nI n2_), .long P2_, .long T2_, .int (nI k2_), .ref h3_])), (h3_, .inl (cy 1, 6, .inr (.inl mk2_)))] H := hP
  have hD : va_D zA [(h0_, .inr (3, [.int (nI n2_), .long P_, .long T_, .int (nI k_), .ref h1_])), (h1_, .inl (cy 1, 6, .inr (.inl mk_))), (h2_, .inr (3, [.int (nI n2_), .long P2_, .long T2_, .int (nI k2_), .ref h3_])), (h3_, .inl (cy 1, 6, .inr (.inl mk2_)))] := hD
  refine lv_aload_n hx hb dX6_copyFrom_8 rfl (lv_at hl 0 rfl) ?_
  refine lv_aload_n hx hb dX6_copyFrom_9 rfl (lv_at hl 1 rfl) ?_
  refine va_get (D := D) (ci := 3) (v := .long P2_) (C := RX6) (T := TX6) (N := 5) hx hb hts (fun w h => List.mem_cons_of_mem _ (zinX6 w h)) hown hK.1 hP 2 rfl rfl 1 (by decide) (hts _ (List.mem_cons_of_mem _ zw_36)) (fun _ h9 => h9) rfl dX6_copyFrom_10 ?_
  refine va_put (D := D) (ci := 3) (v := .long P2_) (ty := .long) (C := RX6) (T := TX6) (N := 5) hx hb hts (fun w h => List.mem_cons_of_mem _ (zinX6 w h)) tyX6 tyX6_ok nmX6 hown hK.1 hP hD hS 0 rfl rfl 1 (by decide) (hts _ (List.mem_cons_of_mem _ zw_36)) (fun _ h9 => h9) rfl (tyX6_ok 1 (by decide)) rfl rfl (Nat.le_of_ble_eq_true rfl) dX6_copyFrom_13 (fun H locs hP hD hS => ?_)
  have hP : va_P D vwCl [(h0_, .inr (3, [.int (nI n2_), .long P2_, .long T_, .int (nI k_), .ref h1_])), (h1_, .inl (cy 1, 6, .inr (.inl mk_))), (h2_, .inr (3, [.int (nI n2_), .long P2_, .long T2_, .int (nI k2_), .ref h3_])), (h3_, .inl (cy 1, 6, .inr (.inl mk2_)))] H := hP
  have hD : va_D zA [(h0_, .inr (3, [.int (nI n2_), .long P2_, .long T_, .int (nI k_), .ref h1_])), (h1_, .inl (cy 1, 6, .inr (.inl mk_))), (h2_, .inr (3, [.int (nI n2_), .long P2_, .long T2_, .int (nI k2_), .ref h3_])), (h3_, .inl (cy 1, 6, .inr (.inl mk2_)))] := hD
  refine lv_aload_n hx hb dX6_copyFrom_16 rfl (lv_at hl 0 rfl) ?_
  refine lv_aload_n hx hb dX6_copyFrom_17 rfl (lv_at hl 1 rfl) ?_
  refine va_get (D := D) (ci := 3) (v := .long T2_) (C := RX6) (T := TX6) (N := 5) hx hb hts (fun w h => List.mem_cons_of_mem _ (zinX6 w h)) hown hK.1 hP 2 rfl rfl 2 (by decide) (hts _ (List.mem_cons_of_mem _ zw_37)) (fun _ h9 => h9) rfl dX6_copyFrom_18 ?_
  refine va_put (D := D) (ci := 3) (v := .long T2_) (ty := .long) (C := RX6) (T := TX6) (N := 5) hx hb hts (fun w h => List.mem_cons_of_mem _ (zinX6 w h)) tyX6 tyX6_ok nmX6 hown hK.1 hP hD hS 0 rfl rfl 2 (by decide) (hts _ (List.mem_cons_of_mem _ zw_37)) (fun _ h9 => h9) rfl (tyX6_ok 2 (by decide)) rfl rfl (Nat.le_of_ble_eq_true rfl) dX6_copyFrom_21 (fun H locs hP hD hS => ?_)
  have hP : va_P D vwCl [(h0_, .inr (3, [.int (nI n2_), .long P2_, .long T2_, .int (nI k_), .ref h1_])), (h1_, .inl (cy 1, 6, .inr (.inl mk_))), (h2_, .inr (3, [.int (nI n2_), .long P2_, .long T2_, .int (nI k2_), .ref h3_])), (h3_, .inl (cy 1, 6, .inr (.inl mk2_)))] H := hP
  have hD : va_D zA [(h0_, .inr (3, [.int (nI n2_), .long P2_, .long T2_, .int (nI k_), .ref h1_])), (h1_, .inl (cy 1, 6, .inr (.inl mk_))), (h2_, .inr (3, [.int (nI n2_), .long P2_, .long T2_, .int (nI k2_), .ref h3_])), (h3_, .inl (cy 1, 6, .inr (.inl mk2_)))] := hD
  refine lv_aload_n hx hb dX6_copyFrom_24 rfl (lv_at hl 0 rfl) ?_
  refine lv_aload_n hx hb dX6_copyFrom_25 rfl (lv_at hl 1 rfl) ?_
  refine va_get (D := D) (ci := 3) (v := .int (nI k2_)) (C := RX6) (T := TX6) (N := 5) hx hb hts (fun w h => List.mem_cons_of_mem _ (zinX6 w h)) hown hK.1 hP 2 rfl rfl 3 (by decide) (hts _ (List.mem_cons_of_mem _ zw_38)) (fun _ h9 => h9) rfl dX6_copyFrom_26 ?_
  refine va_put (D := D) (ci := 3) (v := .int (nI k2_)) (ty := .int) (C := RX6) (T := TX6) (N := 5) hx hb hts (fun w h => List.mem_cons_of_mem _ (zinX6 w h)) tyX6 tyX6_ok nmX6 hown hK.1 hP hD hS 0 rfl rfl 3 (by decide) (hts _ (List.mem_cons_of_mem _ zw_38)) (fun _ h9 => h9) rfl (tyX6_ok 3 (by decide)) rfl rfl (Nat.le_of_ble_eq_true rfl) dX6_copyFrom_29 (fun H locs hP hD hS => ?_)
  have hP : va_P D vwCl [(h0_, .inr (3, [.int (nI n2_), .long P2_, .long T2_, .int (nI k2_), .ref h1_])), (h1_, .inl (cy 1, 6, .inr (.inl mk_))), (h2_, .inr (3, [.int (nI n2_), .long P2_, .long T2_, .int (nI k2_), .ref h3_])), (h3_, .inl (cy 1, 6, .inr (.inl mk2_)))] H := hP
  have hD : va_D zA [(h0_, .inr (3, [.int (nI n2_), .long P2_, .long T2_, .int (nI k2_), .ref h1_])), (h1_, .inl (cy 1, 6, .inr (.inl mk_))), (h2_, .inr (3, [.int (nI n2_), .long P2_, .long T2_, .int (nI k2_), .ref h3_])), (h3_, .inl (cy 1, 6, .inr (.inl mk2_)))] := hD
  have hP := zP_rowJ hP 1 (cpL mk_ mk2_ 0) rfl (fun j_ _ => congrFun (cpL_0 mk_ mk2_) j_)
  have hP : va_P D vwCl [(h0_, .inr (3, [.int (nI n2_), .long P2_, .long T2_, .int (nI k2_), .ref h1_])), (h1_, .inl (cy 1, 6, .inr (.inl (cpL mk_ mk2_ 0)))), (h2_, .inr (3, [.int (nI n2_), .long P2_, .long T2_, .int (nI k2_), .ref h3_])), (h3_, .inl (cy 1, 6, .inr (.inl mk2_)))] H := hP
  have hD : va_D zA [(h0_, .inr (3, [.int (nI n2_), .long P2_, .long T2_, .int (nI k2_), .ref h1_])), (h1_, .inl (cy 1, 6, .inr (.inl (cpL mk_ mk2_ 0)))), (h2_, .inr (3, [.int (nI n2_), .long P2_, .long T2_, .int (nI k2_), .ref h3_])), (h3_, .inl (cy 1, 6, .inr (.inl mk2_)))] := hD.set (p := 1) rfl
  refine lv_iconst (v := nI 0) hx hb dX6_copyFrom_32 (by decide) ?_
  refine lv_istore_n (lv' := [(2, .int (nI 0)), (0, .ref h0_), (1, .ref h2_)]) hx hb dX6_copyFrom_33 rfl hl (by decide) rfl (fun ls hl => ?_)
  have L34 : ∀ (kf_ : Nat) (i_ : Nat) (hi : i_ ≤ 6), 6 - i_ < kf_ → ∀ (H : Heap) (locs : List Loc), va_P D vwCl [(h0_, .inr (3, [.int (nI n2_), .long P2_, .long T2_, .int (nI k2_), .ref h1_])), (h1_, .inl (cy 1, 6, .inr (.inl (cpL mk_ mk2_ i_)))), (h2_, .inr (3, [.int (nI n2_), .long P2_, .long T2_, .int (nI k2_), .ref h3_])), (h3_, .inl (cy 1, 6, .inr (.inl mk2_)))] H → va_D zA [(h0_, .inr (3, [.int (nI n2_), .long P2_, .long T2_, .int (nI k2_), .ref h1_])), (h1_, .inl (cy 1, 6, .inr (.inl (cpL mk_ mk2_ i_)))), (h2_, .inr (3, [.int (nI n2_), .long P2_, .long T2_, .int (nI k2_), .ref h3_])), (h3_, .inl (cy 1, 6, .inr (.inl mk2_)))] → va_S zA zs.heap H locs → ∀ ls : Array Slot, lv_has ls 3 [(0, .ref h0_), (1, .ref h2_), (2, .int (nI i_))] → W zp l ze r_X6_copyFrom zs zm za zb zme zc H locs 0 0 Q (F0 zm 34 ls []) := by
    intro kf_
    induction kf_ with
    | zero => intro i_ hi hk_; exact absurd hk_ (Nat.not_lt_zero _)
    | succ kf_ ih34 =>
      intro i_ hi hk_ H locs hP hD hS ls hl
      refine lv_iload_n hx hb dX6_copyFrom_34 rfl (lv_at hl 2 rfl) ?_
      refine lv_aload_n hx hb dX6_copyFrom_35 rfl (lv_at hl 0 rfl) ?_
      refine va_get (D := D) (ci := 3) (v := .ref h1_) (C := RX6) (T := TX6) (N := 5) hx hb hts (fun w h => List.mem_cons_of_mem _ (zinX6 w h)) hown hK.1 hP 0 rfl rfl 4 (by decide) (hts _ (List.mem_cons_of_mem _ zw_40)) (fun _ h9 => h9) rfl dX6_copyFrom_36 ?_
      refine zi_alen hx hb hK hP 1 1 rfl rfl dX6_copyFrom_39 ?_
      refine zb_ge (a := i_) (b := 6) (tgt := 70) hx hb dX6_copyFrom_40 (by decide) (by omega) (by omega) (fun c40 => ?_) (fun c40 => ?_)
      · skip
        have hP := zP_rowJ hP 1 mk2_ rfl (fun j_ hj_ => cpL_e (by omega))
        have hP : va_P D vwCl [(h0_, .inr (3, [.int (nI n2_), .long P2_, .long T2_, .int (nI k2_), .ref h1_])), (h1_, .inl (cy 1, 6, .inr (.inl mk2_))), (h2_, .inr (3, [.int (nI n2_), .long P2_, .long T2_, .int (nI k2_), .ref h3_])), (h3_, .inl (cy 1, 6, .inr (.inl mk2_)))] H := hP
        have hD : va_D zA [(h0_, .inr (3, [.int (nI n2_), .long P2_, .long T2_, .int (nI k2_), .ref h1_])), (h1_, .inl (cy 1, 6, .inr (.inl mk2_))), (h2_, .inr (3, [.int (nI n2_), .long P2_, .long T2_, .int (nI k2_), .ref h3_])), (h3_, .inl (cy 1, 6, .inr (.inl mk2_)))] := hD.set (p := 1) rfl
        exact kr () _ _ _ _ dX6_copyFrom_70 trivial hP hD hS
      · skip
        refine lv_iload_n hx hb dX6_copyFrom_43 rfl (lv_at hl 2 rfl) ?_
        refine lv_aload_n hx hb dX6_copyFrom_44 rfl (lv_at hl 1 rfl) ?_
        refine va_get (D := D) (ci := 3) (v := .ref h3_) (C := RX6) (T := TX6) (N := 5) hx hb hts (fun w h => List.mem_cons_of_mem _ (zinX6 w h)) hown hK.1 hP 2 rfl rfl 4 (by decide) (hts _ (List.mem_cons_of_mem _ zw_40)) (fun _ h9 => h9) rfl dX6_copyFrom_45 ?_
        refine zi_alen hx hb hK hP 3 1 rfl rfl dX6_copyFrom_48 ?_
        refine zb_ge (a := i_) (b := 6) (tgt := 70) hx hb dX6_copyFrom_49 (by decide) (by omega) (by omega) (fun hd_ => absurd hd_ (by omega)) (fun c49 => ?_)
        refine lv_aload_n hx hb dX6_copyFrom_52 rfl (lv_at hl 0 rfl) ?_
        refine va_get (D := D) (ci := 3) (v := .ref h1_) (C := RX6) (T := TX6) (N := 5) hx hb hts (fun w h => List.mem_cons_of_mem _ (zinX6 w h)) hown hK.1 hP 0 rfl rfl 4 (by decide) (hts _ (List.mem_cons_of_mem _ zw_40)) (fun _ h9 => h9) rfl dX6_copyFrom_53 ?_
        refine lv_iload_n hx hb dX6_copyFrom_56 rfl (lv_at hl 2 rfl) ?_
        refine lv_aload_n hx hb dX6_copyFrom_57 rfl (lv_at hl 1 rfl) ?_
        refine va_get (D := D) (ci := 3) (v := .ref h3_) (C := RX6) (T := TX6) (N := 5) hx hb hts (fun w h => List.mem_cons_of_mem _ (zinX6 w h)) hown hK.1 hP 2 rfl rfl 4 (by decide) (hts _ (List.mem_cons_of_mem _ zw_40)) (fun _ h9 => h9) rfl dX6_copyFrom_58 ?_
        refine lv_iload_n hx hb dX6_copyFrom_61 rfl (lv_at hl 2 rfl) ?_
        refine zi_lald (v := mk2_ i_) hx hb hK hP 3 rfl (by omega) (by omega) rfl dX6_copyFrom_62 ?_
        refine zi_last hx hb hK hP hD hS 1 rfl (by omega) (by omega) dX6_copyFrom_63 (fun H locs hP hD hS => ?_)
        have hP : va_P D vwCl [(h0_, .inr (3, [.int (nI n2_), .long P2_, .long T2_, .int (nI k2_), .ref h1_])), (h1_, .inl (cy 1, 6, .inr (.inl (vp_updL (cpL mk_ mk2_ i_) i_ (mk2_ i_))))), (h2_, .inr (3, [.int (nI n2_), .long P2_, .long T2_, .int (nI k2_), .ref h3_])), (h3_, .inl (cy 1, 6, .inr (.inl mk2_)))] H := hP
        have hD : va_D zA [(h0_, .inr (3, [.int (nI n2_), .long P2_, .long T2_, .int (nI k2_), .ref h1_])), (h1_, .inl (cy 1, 6, .inr (.inl (vp_updL (cpL mk_ mk2_ i_) i_ (mk2_ i_))))), (h2_, .inr (3, [.int (nI n2_), .long P2_, .long T2_, .int (nI k2_), .ref h3_])), (h3_, .inl (cy 1, 6, .inr (.inl mk2_)))] := hD
        have e63_ : (vp_updL (cpL mk_ mk2_ i_) i_ (mk2_ i_)) = cpL mk_ mk2_ (i_ + 1) := (cpL_s _ _ _)
        rw [e63_] at hP hD
        refine lv_iinc (v := nI (i_ + 1)) (lv' := [(2, .int (nI (i_ + 1))), (0, .ref h0_), (1, .ref h2_)]) hx hb dX6_copyFrom_64 hl (k := 2) rfl (nI_1 _) (by decide) rfl (fun ls hl => ?_)
        refine lv_goto (tgt := 34) hx hb dX6_copyFrom_67 (by decide) ?_
        exact ih34 (i_ + 1) (by omega) (by omega) _ _ hP hD hS _ (lv_sub hl [1, 2, 0] rfl)
  exact L34 (6 - 0 + 1) 0 (by omega) (Nat.lt_succ_self _) _ _ hP hD hS _ (lv_sub hl [1, 2, 0] rfl)
abbrev w_X4_hasPlace : List Cond := Cond.code yX4_hasPlace cX4_hasPlace 2 (some .boolean) :: zAll
abbrev r_X4_hasPlace : Room := { frames := 0, cells := 0, slots := 0, locals := 0 }
theorem zd_X4_hasPlace : yX4_hasPlace.cls = RX4 ∧ yX4_hasPlace.cls ≠ "java/lang/invoke/MethodHandle" ∧ yX4_hasPlace.cls ≠ "java/lang/invoke/VarHandle" ∧ (parseMethodDescriptor yX4_hasPlace.desc).map (fun d => d.parameters.length) = some 1 := by decide +kernel
set_option maxHeartbeats 4000000 in
set_option maxRecDepth 100000 in
theorem c_X4_hasPlace (l : Launch) (D : va_G) (cy : Nat → ClassId) (h0_ : Nat) (h1_ : Nat) (h2_ : Nat) (N_ : Nat) (f_ : Nat → Option Nat) (b_ : Nat → Bool) (x_ : Int32) (hN : N_ ≤ 6) : zMi l yX4_hasPlace w_X4_hasPlace r_X4_hasPlace D cy [(h0_, .inr (2, [.ref h1_, .ref h2_])), (h1_, .inl (cy 4, N_, .inr (.inr (.inr (.inr f_))))), (h2_, .inl (cy 2, N_, .inl (nBf b_)))] [.ref h0_, .int x_] (fun r_ => r_ = (if (0 ≤ x_.toInt ∧ x_.toInt < (N_ : Int)) then 1 else 0)) := by
  refine zOfR (cc := cX4_hasPlace) (maxL := 2) (ty := .boolean) (by decide) rfl (Nat.le_of_ble_eq_true rfl) ?_
  intro zp ze zs zm za zb zme zc hx hb hml hts hown hP hK Q kr ls hl
  have hown : zs.vm.findClass RX4 = some zm.cls := hown
  have hl : lv_has ls 2 [(0, .ref h0_), (1, .int x_)] := hl
  refine lv_iload_n hx hb dX4_hasPlace_0 rfl (lv_at hl 1 rfl) ?_
  refine zt0_lt (a := (x_).toInt) (tgt := 26) hx hb dX4_hasPlace_1 (by decide) rfl (fun c1 => ?_) (fun c1 => ?_)
  · skip
    refine lv_iconst (v := nI 0) hx hb dX4_hasPlace_26 (by decide) ?_
    exact kr _ _ _ dX4_hasPlace_27 rfl (by rw [if_neg (by omega)]; rfl)
  · skip
    refine lv_iload_n hx hb dX4_hasPlace_4 rfl (lv_at hl 1 rfl) ?_
    refine lv_aload_n hx hb dX4_hasPlace_5 rfl (lv_at hl 0 rfl) ?_
    refine va_get (D := D) (ci := 2) (v := .ref h1_) (C := RX4) (T := TX4) (N := 2) hx hb hts (fun w h => List.mem_cons_of_mem _ (zinX4 w h)) hown hK.1 hP 0 rfl rfl 0 (by decide) (hts _ (List.mem_cons_of_mem _ zw_46)) (fun _ h9 => h9) rfl dX4_hasPlace_6 ?_
    refine zi_alen hx hb hK hP 1 4 rfl rfl dX4_hasPlace_9 ?_
    refine zt_ge (a := (x_).toInt) (b := ((N_ : Nat) : Int)) (tgt := 26) hx hb dX4_hasPlace_10 (by decide) rfl (nI_toInt (by omega)) (fun c10 => ?_) (fun c10 => ?_)
    · skip
      refine lv_iconst (v := nI 0) hx hb dX4_hasPlace_26 (by decide) ?_
      exact kr _ _ _ dX4_hasPlace_27 rfl (by rw [if_neg (by omega)]; rfl)
    · skip
      refine lv_iload_n hx hb dX4_hasPlace_13 rfl (lv_at hl 1 rfl) ?_
      refine lv_aload_n hx hb dX4_hasPlace_14 rfl (lv_at hl 0 rfl) ?_
      refine va_get (D := D) (ci := 2) (v := .ref h2_) (C := RX4) (T := TX4) (N := 2) hx hb hts (fun w h => List.mem_cons_of_mem _ (zinX4 w h)) hown hK.1 hP 0 rfl rfl 1 (by decide) (hts _ (List.mem_cons_of_mem _ zw_48)) (fun _ h9 => h9) rfl dX4_hasPlace_15 ?_
      refine zi_alen hx hb hK hP 2 2 rfl rfl dX4_hasPlace_18 ?_
      refine zt_ge (a := (x_).toInt) (b := ((N_ : Nat) : Int)) (tgt := 26) hx hb dX4_hasPlace_19 (by decide) rfl (nI_toInt (by omega)) (fun hd_ => absurd hd_ (by omega)) (fun c19 => ?_)
      refine lv_iconst (v := nI 1) hx hb dX4_hasPlace_22 (by decide) ?_
      refine lv_goto (tgt := 27) hx hb dX4_hasPlace_23 (by decide) ?_
      exact kr _ _ _ dX4_hasPlace_27 rfl (by rw [if_pos (by omega)]; rfl)
abbrev w_X4_isFull : List Cond := Cond.code yX4_isFull cX4_isFull 2 (some .boolean) :: zAll
abbrev r_X4_isFull : Room := { frames := 1, cells := 0, slots := 0, locals := 21 }
theorem zd_X4_isFull : yX4_isFull.cls = RX4 ∧ yX4_isFull.cls ≠ "java/lang/invoke/MethodHandle" ∧ yX4_isFull.cls ≠ "java/lang/invoke/VarHandle" ∧ (parseMethodDescriptor yX4_isFull.desc).map (fun d => d.parameters.length) = some 1 := by decide +kernel
set_option maxHeartbeats 4000000 in
set_option maxRecDepth 100000 in
theorem c_X4_isFull (l : Launch) (D : va_G) (cy : Nat → ClassId) (h0_ : Nat) (h1_ : Nat) (h2_ : Nat) (N_ : Nat) (f_ : Nat → Option Nat) (b_ : Nat → Bool) (j_ : Nat) (hj : j_ < N_) (hN : N_ ≤ 6) : zMi l yX4_isFull w_X4_isFull r_X4_isFull D cy [(h0_, .inr (2, [.ref h1_, .ref h2_])), (h1_, .inl (cy 4, N_, .inr (.inr (.inr (.inr f_))))), (h2_, .inl (cy 2, N_, .inl (nBf b_)))] [.ref h0_, .int (nI j_)] (fun r_ => r_ = (if b_ j_ = true then 1 else 0)) := by
  refine zOfR (cc := cX4_isFull) (maxL := 2) (ty := .boolean) (by decide) rfl (Nat.le_of_ble_eq_true rfl) ?_
  intro zp ze zs zm za zb zme zc hx hb hml hts hown hP hK Q kr ls hl
  have hown : zs.vm.findClass RX4 = some zm.cls := hown
  have hl : lv_has ls 2 [(0, .ref h0_), (1, .int (nI j_))] := hl
  refine lv_aload_n hx hb dX4_isFull_0 rfl (lv_at hl 0 rfl) ?_
  refine lv_iload_n hx hb dX4_isFull_1 rfl (lv_at hl 1 rfl) ?_
  refine zcRi (As := [.int (nI j_)]) (rest := []) ⟨hx, hb, hml, hown, hts⟩ (c_X4_hasPlace l D cy h0_ h1_ h2_ N_ f_ b_ (nI j_) (by omega)) (cwV 1 hts (zG_V zw_74 zw_75 zw_76 zw_15 zw_77) rfl rfl rfl zd_X4_hasPlace ⟨Nat.le_of_ble_eq_true rfl, Nat.le_of_ble_eq_true rfl⟩) hK hP [0, 1, 2] rfl rfl rfl rfl rfl hl.1 rfl (Nat.le_of_ble_eq_true rfl) dX4_isFull_2 ⟨Nat.zero_le _, Nat.zero_le _⟩ (fun r2 h2 => ?_)
  subst h2
  refine zq_eq (tgt := 21) hx hb dX4_isFull_5 (by decide) (fun hd_ => absurd hd_ (fun q_ => q_ ⟨by rw [nI_toInt (by omega)]; omega, by rw [nI_toInt (by omega)]; omega⟩)) (fun c5 => ?_)
  refine lv_aload_n hx hb dX4_isFull_8 rfl (lv_at hl 0 rfl) ?_
  refine va_get (D := D) (ci := 2) (v := .ref h2_) (C := RX4) (T := TX4) (N := 2) hx hb hts (fun w h => List.mem_cons_of_mem _ (zinX4 w h)) hown hK.1 hP 0 rfl rfl 1 (by decide) (hts _ (List.mem_cons_of_mem _ zw_48)) (fun _ h9 => h9) rfl dX4_isFull_9 ?_
  refine lv_iload_n hx hb dX4_isFull_12 rfl (lv_at hl 1 rfl) ?_
  refine zi_zald (v := if b_ j_ = true then 1 else 0) hx hb hK hP 2 rfl (by omega) (by omega) rfl dX4_isFull_13 ?_
  refine zq_eq (tgt := 21) hx hb dX4_isFull_14 (by decide) (fun c14 => ?_) (fun c14 => ?_)
  · skip
    refine lv_iconst (v := nI 0) hx hb dX4_isFull_21 (by decide) ?_
    exact kr _ _ _ dX4_isFull_22 rfl (by rw [if_neg c14]; rfl)
  · skip
    refine lv_iconst (v := nI 1) hx hb dX4_isFull_17 (by decide) ?_
    refine lv_goto (tgt := 22) hx hb dX4_isFull_18 (by decide) ?_
    exact kr _ _ _ dX4_isFull_22 rfl (by rw [if_pos c14]; rfl)
abbrev w_X4_keep : List Cond := Cond.code yX4_keep cX4_keep 3 none :: zAll
abbrev r_X4_keep : Room := { frames := 1, cells := 0, slots := 0, locals := 22 }
theorem zd_X4_keep : yX4_keep.cls = RX4 ∧ yX4_keep.cls ≠ "java/lang/invoke/MethodHandle" ∧ yX4_keep.cls ≠ "java/lang/invoke/VarHandle" ∧ (parseMethodDescriptor yX4_keep.desc).map (fun d => d.parameters.length) = some 2 := by decide +kernel
set_option maxHeartbeats 4000000 in
set_option maxRecDepth 100000 in
theorem c_X4_keep (l : Launch) (D : va_G) (cy : Nat → ClassId) (sz : Nat) (h0_ : Nat) (h1_ : Nat) (h2_ : Nat) (N_ : Nat) (f_ : Nat → Option Nat) (b_ : Nat → Bool) (j_ : Nat) (h3_ : Nat) (h4_ : Nat) (q0_ : Nat) (q1_ : Nat) (n_ : Nat) (P_ : Int64) (T_ : Int64) (k_ : Nat) (mk_ : Nat → Int64) (n2_ : Nat) (P2_ : Int64) (T2_ : Int64) (k2_ : Nat) (mk2_ : Nat → Int64) (hj : j_ < N_) (hN : N_ ≤ 6) (hf : f_ j_ = some q0_) : zWv l yX4_keep w_X4_keep r_X4_keep D cy [(h0_, .inr (2, [.ref h1_, .ref h2_])), (h1_, .inl (cy 4, N_, .inr (.inr (.inr (.inr f_))))), (h2_, .inl (cy 2, N_, .inl (nBf b_))), (h3_, .inr (3, [.int (nI n_), .long P_, .long T_, .int (nI k_), .ref h4_])), (h4_, .inl (cy 1, 6, .inr (.inl mk_))), (q0_, .inr (3, [.int (nI n2_), .long P2_, .long T2_, .int (nI k2_), .ref q1_])), (q1_, .inl (cy 1, 6, .inr (.inl mk2_)))] sz [.ref h0_, .int (nI j_), .ref h3_] (fun u : Unit => True) (fun u : Unit => ([(h0_, .inr (2, [.ref h1_, .ref h2_])), (h1_, .inl (cy 4, N_, .inr (.inr (.inr (.inr f_))))), (h2_, .inl (cy 2, N_, .inl (nBf (uB1 b_ j_ true)))), (h3_, .inr (3, [.int (nI n_), .long P_, .long T_, .int (nI k_), .ref h4_])), (h4_, .inl (cy 1, 6, .inr (.inl mk_))), (q0_, .inr (3, [.int (nI n_), .long P_, .long T_, .int (nI k_), .ref q1_])), (q1_, .inl (cy 1, 6, .inr (.inl mk_)))] : va_W)) 0 0 := by
  refine zOfV (cc := cX4_keep) (maxL := 3) (by decide) rfl (Nat.le_of_ble_eq_true rfl) ?_
  intro zp ze zs zm za zb zme zc hx hb hml hts hown hP hK zA hD hA Q kr ls hl hin
  have hS : va_S zA zs.heap zs.heap [] := va_S.rf
  have hown : zs.vm.findClass RX4 = some zm.cls := hown
  have hl : lv_has ls 3 [(0, .ref h0_), (1, .int (nI j_)), (2, .ref h3_)] := hl
  refine lv_aload_n hx hb dX4_keep_0 rfl (lv_at hl 0 rfl) ?_
  refine lv_iload_n hx hb dX4_keep_1 rfl (lv_at hl 1 rfl) ?_
  refine zcRi (As := [.int (nI j_)]) (rest := []) ⟨hx, hb, hml, hown, hts⟩ (c_X4_hasPlace l D cy h0_ h1_ h2_ N_ f_ b_ (nI j_) (by omega)) (cwV 1 hts (zG_V zw_74 zw_75 zw_76 zw_15 zw_77) rfl rfl rfl zd_X4_hasPlace ⟨Nat.le_of_ble_eq_true rfl, Nat.le_of_ble_eq_true rfl⟩) hK hP [0, 1, 2] rfl rfl rfl rfl rfl hl.1 rfl (Nat.le_of_ble_eq_true rfl) dX4_keep_2 ⟨Nat.zero_le _, Nat.zero_le _⟩ (fun r2 h2 => ?_)
  subst h2
  refine zq_eq (tgt := 38) hx hb dX4_keep_5 (by decide) (fun hd_ => absurd hd_ (fun q_ => q_ ⟨by rw [nI_toInt (by omega)]; omega, by rw [nI_toInt (by omega)]; omega⟩)) (fun c5 => ?_)
  refine lv_aload_n hx hb dX4_keep_8 rfl (lv_at hl 0 rfl) ?_
  refine va_get (D := D) (ci := 2) (v := .ref h1_) (C := RX4) (T := TX4) (N := 2) hx hb hts (fun w h => List.mem_cons_of_mem _ (zinX4 w h)) hown hK.1 hP 0 rfl rfl 0 (by decide) (hts _ (List.mem_cons_of_mem _ zw_46)) (fun _ h9 => h9) rfl dX4_keep_9 ?_
  refine lv_iload_n hx hb dX4_keep_12 rfl (lv_at hl 1 rfl) ?_
  refine zi_qald (v := q0_) hx hb hK hP 1 rfl (by omega) (by omega) hf dX4_keep_13 ?_
  refine lv_ifnull hx hb dX4_keep_14 ?_
  refine lv_aload_n hx hb dX4_keep_17 rfl (lv_at hl 2 rfl) ?_
  refine lv_ifnull hx hb dX4_keep_18 ?_
  refine lv_aload_n hx hb dX4_keep_21 rfl (lv_at hl 0 rfl) ?_
  refine va_get (D := D) (ci := 2) (v := .ref h1_) (C := RX4) (T := TX4) (N := 2) hx hb hts (fun w h => List.mem_cons_of_mem _ (zinX4 w h)) hown hK.1 hP 0 rfl rfl 0 (by decide) (hts _ (List.mem_cons_of_mem _ zw_46)) (fun _ h9 => h9) rfl dX4_keep_22 ?_
  refine lv_iload_n hx hb dX4_keep_25 rfl (lv_at hl 1 rfl) ?_
  refine zi_qald (v := q0_) hx hb hK hP 1 rfl (by omega) (by omega) hf dX4_keep_26 ?_
  refine lv_aload_n hx hb dX4_keep_27 rfl (lv_at hl 2 rfl) ?_
  refine zcWv (As := [.ref h3_]) (rest := []) (wr := [(h0_, .inr (2, [.ref h1_, .ref h2_])), (h1_, .inl (cy 4, N_, .inr (.inr (.inr (.inr f_))))), (h2_, .inl (cy 2, N_, .inl (nBf b_)))]) ⟨hx, hb, hml, hown, hts⟩ (c_X6_copyFrom l D cy zs.heap.size q0_ q1_ n2_ P2_ T2_ k2_ mk2_ h3_ h4_ n_ P_ T_ k_ mk_) (cwV 1 hts (zG_V zw_78 zw_79 zw_80 zw_11 zw_81) rfl rfl rfl zd_X6_copyFrom ⟨Nat.le_of_ble_eq_true rfl, Nat.le_of_ble_eq_true rfl⟩) hK hP hD hS hA [5, 6, 3, 4] [0, 1, 2] [0, 1, 2, 5, 6, 3, 4] rfl (by decide) rfl (by decide) (by decide) (w2 := (fun uq_ : Unit => ([(h0_, .inr (2, [.ref h1_, .ref h2_])), (h1_, .inl (cy 4, N_, .inr (.inr (.inr (.inr f_))))), (h2_, .inl (cy 2, N_, .inl (nBf b_))), (h3_, .inr (3, [.int (nI n_), .long P_, .long T_, .int (nI k_), .ref h4_])), (h4_, .inl (cy 1, 6, .inr (.inl mk_))), (q0_, .inr (3, [.int (nI n_), .long P_, .long T_, .int (nI k_), .ref q1_])), (q1_, .inl (cy 1, 6, .inr (.inl mk_)))] : va_W))) (fun _ => rfl) (by decide) rfl rfl rfl rfl hl.1 rfl (Nat.le_of_ble_eq_true rfl) dX4_keep_28 ⟨Nat.zero_le _, Nat.zero_le _⟩ (fun  u28 H locs h28 hP hD hS => ?_)
  have h28 : True := h28
  have hP : va_P D vwCl [(h0_, .inr (2, [.ref h1_, .ref h2_])), (h1_, .inl (cy 4, N_, .inr (.inr (.inr (.inr f_))))), (h2_, .inl (cy 2, N_, .inl (nBf b_))), (h3_, .inr (3, [.int (nI n_), .long P_, .long T_, .int (nI k_), .ref h4_])), (h4_, .inl (cy 1, 6, .inr (.inl mk_))), (q0_, .inr (3, [.int (nI n_), .long P_, .long T_, .int (nI k_), .ref q1_])), (q1_, .inl (cy 1, 6, .inr (.inl mk_)))] H := hP
  have hD : va_D zA [(h0_, .inr (2, [.ref h1_, .ref h2_])), (h1_, .inl (cy 4, N_, .inr (.inr (.inr (.inr f_))))), (h2_, .inl (cy 2, N_, .inl (nBf b_))), (h3_, .inr (3, [.int (nI n_), .long P_, .long T_, .int (nI k_), .ref h4_])), (h4_, .inl (cy 1, 6, .inr (.inl mk_))), (q0_, .inr (3, [.int (nI n_), .long P_, .long T_, .int (nI k_), .ref q1_])), (q1_, .inl (cy 1, 6, .inr (.inl mk_)))] := hD
  refine lv_aload_n hx hb dX4_keep_31 rfl (lv_at hl 0 rfl) ?_
  refine va_get (D := D) (ci := 2) (v := .ref h2_) (C := RX4) (T := TX4) (N := 2) hx hb hts (fun w h => List.mem_cons_of_mem _ (zinX4 w h)) hown hK.1 hP 0 rfl rfl 1 (by decide) (hts _ (List.mem_cons_of_mem _ zw_48)) (fun _ h9 => h9) rfl dX4_keep_32 ?_
  refine lv_iload_n hx hb dX4_keep_35 rfl (lv_at hl 1 rfl) ?_
  refine lv_iconst (v := nI 1) hx hb dX4_keep_36 (by decide) ?_
  refine zi_zast hx hb hK hP hD hS 2 rfl (by omega) (by omega) rfl dX4_keep_37 (fun H locs hP hD hS => ?_)
  rw [upd_nB1] at hP hD
  have hP : va_P D vwCl [(h0_, .inr (2, [.ref h1_, .ref h2_])), (h1_, .inl (cy 4, N_, .inr (.inr (.inr (.inr f_))))), (h2_, .inl (cy 2, N_, .inl (nBf (uB1 b_ j_ true)))), (h3_, .inr (3, [.int (nI n_), .long P_, .long T_, .int (nI k_), .ref h4_])), (h4_, .inl (cy 1, 6, .inr (.inl mk_))), (q0_, .inr (3, [.int (nI n_), .long P_, .long T_, .int (nI k_), .ref q1_])), (q1_, .inl (cy 1, 6, .inr (.inl mk_)))] H := hP
  have hD : va_D zA [(h0_, .inr (2, [.ref h1_, .ref h2_])), (h1_, .inl (cy 4, N_, .inr (.inr (.inr (.inr f_))))), (h2_, .inl (cy 2, N_, .inl (nBf (uB1 b_ j_ true)))), (h3_, .inr (3, [.int (nI n_), .long P_, .long T_, .int (nI k_), .ref h4_])), (h4_, .inl (cy 1, 6, .inr (.inl mk_))), (q0_, .inr (3, [.int (nI n_), .long P_, .long T_, .int (nI k_), .ref q1_])), (q1_, .inl (cy 1, 6, .inr (.inl mk_)))] := hD
  exact kr () _ _ _ _ dX4_keep_38 trivial hP hD hS
abbrev w_X4_bring : List Cond := Cond.code yX4_bring cX4_bring 3 none :: zAll
abbrev r_X4_bring : Room := { frames := 1, cells := 0, slots := 0, locals := 22 }
theorem zd_X4_bring : yX4_bring.cls = RX4 ∧ yX4_bring.cls ≠ "java/lang/invoke/MethodHandle" ∧ yX4_bring.cls ≠ "java/lang/invoke/VarHandle" ∧ (parseMethodDescriptor yX4_bring.desc).map (fun d => d.parameters.length) = some 2 := by decide +kernel
set_option maxHeartbeats 4000000 in
set_option maxRecDepth 100000 in
theorem c_X4_bring (l : Launch) (D : va_G) (cy : Nat → ClassId) (sz : Nat) (h0_ : Nat) (h1_ : Nat) (h2_ : Nat) (N_ : Nat) (f_ : Nat → Option Nat) (b_ : Nat → Bool) (j_ : Nat) (h3_ : Nat) (h4_ : Nat) (q0_ : Nat) (q1_ : Nat) (n_ : Nat) (P_ : Int64) (T_ : Int64) (k_ : Nat) (mk_ : Nat → Int64) (n2_ : Nat) (P2_ : Int64) (T2_ : Int64) (k2_ : Nat) (mk2_ : Nat → Int64) (hj : j_ < N_) (hN : N_ ≤ 6) (hf : f_ j_ = some q0_) : zWv l yX4_bring w_X4_bring r_X4_bring D cy [(h0_, .inr (2, [.ref h1_, .ref h2_])), (h1_, .inl (cy 4, N_, .inr (.inr (.inr (.inr f_))))), (h2_, .inl (cy 2, N_, .inl (nBf b_))), (h3_, .inr (3, [.int (nI n_), .long P_, .long T_, .int (nI k_), .ref h4_])), (h4_, .inl (cy 1, 6, .inr (.inl mk_))), (q0_, .inr (3, [.int (nI n2_), .long P2_, .long T2_, .int (nI k2_), .ref q1_])), (q1_, .inl (cy 1, 6, .inr (.inl mk2_)))] sz [.ref h0_, .int (nI j_), .ref h3_] (fun u : Unit => True) (fun u : Unit => ([(h0_, .inr (2, [.ref h1_, .ref h2_])), (h1_, .inl (cy 4, N_, .inr (.inr (.inr (.inr f_))))), (h2_, .inl (cy 2, N_, .inl (nBf b_))), (h3_, .inr (3, [.int (nI n2_), .long P2_, .long T2_, .int (nI k2_), .ref h4_])), (h4_, .inl (cy 1, 6, .inr (.inl mk2_))), (q0_, .inr (3, [.int (nI n2_), .long P2_, .long T2_, .int (nI k2_), .ref q1_])), (q1_, .inl (cy 1, 6, .inr (.inl mk2_)))] : va_W)) 0 0 := by
  refine zOfV (cc := cX4_bring) (maxL := 3) (by decide) rfl (Nat.le_of_ble_eq_true rfl) ?_
  intro zp ze zs zm za zb zme zc hx hb hml hts hown hP hK zA hD hA Q kr ls hl hin
  have hS : va_S zA zs.heap zs.heap [] := va_S.rf
  have hown : zs.vm.findClass RX4 = some zm.cls := hown
  have hl : lv_has ls 3 [(0, .ref h0_), (1, .int (nI j_)), (2, .ref h3_)] := hl
  refine lv_aload_n hx hb dX4_bring_0 rfl (lv_at hl 0 rfl) ?_
  refine lv_iload_n hx hb dX4_bring_1 rfl (lv_at hl 1 rfl) ?_
  refine zcRi (As := [.int (nI j_)]) (rest := []) ⟨hx, hb, hml, hown, hts⟩ (c_X4_hasPlace l D cy h0_ h1_ h2_ N_ f_ b_ (nI j_) (by omega)) (cwV 1 hts (zG_V zw_74 zw_75 zw_76 zw_15 zw_77) rfl rfl rfl zd_X4_hasPlace ⟨Nat.le_of_ble_eq_true rfl, Nat.le_of_ble_eq_true rfl⟩) hK hP [0, 1, 2] rfl rfl rfl rfl rfl hl.1 rfl (Nat.le_of_ble_eq_true rfl) dX4_bring_2 ⟨Nat.zero_le _, Nat.zero_le _⟩ (fun r2 h2 => ?_)
  subst h2
  refine zq_eq (tgt := 31) hx hb dX4_bring_5 (by decide) (fun hd_ => absurd hd_ (fun q_ => q_ ⟨by rw [nI_toInt (by omega)]; omega, by rw [nI_toInt (by omega)]; omega⟩)) (fun c5 => ?_)
  refine lv_aload_n hx hb dX4_bring_8 rfl (lv_at hl 0 rfl) ?_
  refine va_get (D := D) (ci := 2) (v := .ref h1_) (C := RX4) (T := TX4) (N := 2) hx hb hts (fun w h => List.mem_cons_of_mem _ (zinX4 w h)) hown hK.1 hP 0 rfl rfl 0 (by decide) (hts _ (List.mem_cons_of_mem _ zw_46)) (fun _ h9 => h9) rfl dX4_bring_9 ?_
  refine lv_iload_n hx hb dX4_bring_12 rfl (lv_at hl 1 rfl) ?_
  refine zi_qald (v := q0_) hx hb hK hP 1 rfl (by omega) (by omega) hf dX4_bring_13 ?_
  refine lv_ifnull hx hb dX4_bring_14 ?_
  refine lv_aload_n hx hb dX4_bring_17 rfl (lv_at hl 2 rfl) ?_
  refine lv_ifnull hx hb dX4_bring_18 ?_
  refine lv_aload_n hx hb dX4_bring_21 rfl (lv_at hl 2 rfl) ?_
  refine lv_aload_n hx hb dX4_bring_22 rfl (lv_at hl 0 rfl) ?_
  refine va_get (D := D) (ci := 2) (v := .ref h1_) (C := RX4) (T := TX4) (N := 2) hx hb hts (fun w h => List.mem_cons_of_mem _ (zinX4 w h)) hown hK.1 hP 0 rfl rfl 0 (by decide) (hts _ (List.mem_cons_of_mem _ zw_46)) (fun _ h9 => h9) rfl dX4_bring_23 ?_
  refine lv_iload_n hx hb dX4_bring_26 rfl (lv_at hl 1 rfl) ?_
  refine zi_qald (v := q0_) hx hb hK hP 1 rfl (by omega) (by omega) hf dX4_bring_27 ?_
  refine zcWv (As := [.ref q0_]) (rest := []) (wr := [(h0_, .inr (2, [.ref h1_, .ref h2_])), (h1_, .inl (cy 4, N_, .inr (.inr (.inr (.inr f_))))), (h2_, .inl (cy 2, N_, .inl (nBf b_)))]) ⟨hx, hb, hml, hown, hts⟩ (c_X6_copyFrom l D cy zs.heap.size h3_ h4_ n_ P_ T_ k_ mk_ q0_ q1_ n2_ P2_ T2_ k2_ mk2_) (cwV 1 hts (zG_V zw_78 zw_79 zw_80 zw_11 zw_81) rfl rfl rfl zd_X6_copyFrom ⟨Nat.le_of_ble_eq_true rfl, Nat.le_of_ble_eq_true rfl⟩) hK hP hD hS hA [3, 4, 5, 6] [0, 1, 2] [0, 1, 2, 3, 4, 5, 6] rfl (by decide) rfl (by decide) (by decide) (w2 := (fun uq_ : Unit => ([(h0_, .inr (2, [.ref h1_, .ref h2_])), (h1_, .inl (cy 4, N_, .inr (.inr (.inr (.inr f_))))), (h2_, .inl (cy 2, N_, .inl (nBf b_))), (h3_, .inr (3, [.int (nI n2_), .long P2_, .long T2_, .int (nI k2_), .ref h4_])), (h4_, .inl (cy 1, 6, .inr (.inl mk2_))), (q0_, .inr (3, [.int (nI n2_), .long P2_, .long T2_, .int (nI k2_), .ref q1_])), (q1_, .inl (cy 1, 6, .inr (.inl mk2_)))] : va_W))) (fun _ => rfl) (by decide) rfl rfl rfl rfl hl.1 rfl (Nat.le_of_ble_eq_true rfl) dX4_bring_28 ⟨Nat.zero_le _, Nat.zero_le _⟩ (fun  u28 H locs h28 hP hD hS => ?_)
  have h28 : True := h28
  have hP : va_P D vwCl [(h0_, .inr (2, [.ref h1_, .ref h2_])), (h1_, .inl (cy 4, N_, .inr (.inr (.inr (.inr f_))))), (h2_, .inl (cy 2, N_, .inl (nBf b_))), (h3_, .inr (3, [.int (nI n2_), .long P2_, .long T2_, .int (nI k2_), .ref h4_])), (h4_, .inl (cy 1, 6, .inr (.inl mk2_))), (q0_, .inr (3, [.int (nI n2_), .long P2_, .long T2_, .int (nI k2_), .ref q1_])), (q1_, .inl (cy 1, 6, .inr (.inl mk2_)))] H := hP
  have hD : va_D zA [(h0_, .inr (2, [.ref h1_, .ref h2_])), (h1_, .inl (cy 4, N_, .inr (.inr (.inr (.inr f_))))), (h2_, .inl (cy 2, N_, .inl (nBf b_))), (h3_, .inr (3, [.int (nI n2_), .long P2_, .long T2_, .int (nI k2_), .ref h4_])), (h4_, .inl (cy 1, 6, .inr (.inl mk2_))), (q0_, .inr (3, [.int (nI n2_), .long P2_, .long T2_, .int (nI k2_), .ref q1_])), (q1_, .inl (cy 1, 6, .inr (.inl mk2_)))] := hD
  exact kr () _ _ _ _ dX4_bring_31 trivial hP hD hS

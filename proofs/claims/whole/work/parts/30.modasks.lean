abbrev w_X8_inPlace : List Cond := Cond.code yX8_inPlace cX8_inPlace 3 (some .int) :: zAll
abbrev r_X8_inPlace : Room := { frames := 0, cells := 0, slots := 0, locals := 0 }
theorem zd_X8_inPlace : yX8_inPlace.cls = RX8 ∧ yX8_inPlace.cls ≠ "java/lang/invoke/MethodHandle" ∧ yX8_inPlace.cls ≠ "java/lang/invoke/VarHandle" ∧ (parseMethodDescriptor yX8_inPlace.desc).map (fun d => d.parameters.length) = some 0 := by decide +kernel
set_option maxHeartbeats 4000000 in
set_option maxRecDepth 100000 in
theorem c_X8_inPlace (l : Launch) (D : va_G) (cy : Nat → ClassId) (bd : Nat → Nat) (um_ : Nat) (ln_ : Nat) (at_ : Nat) (iw_ : Bool) (f_ : Nat → Nat) (m_ : MT) (hw : TVok m_.1) (hR : RowR m_.1 f_) : zMi l yX8_inPlace w_X8_inPlace r_X8_inPlace D cy [((bd 0), .inr (5, [.int (nI 0), .ref (bd 1), .ref (bd 2), .int (nI um_), .ref (bd 3), .ref (bd 4), .ref (bd 5), .int (nI ln_), .int (nI at_), .int (if iw_ = true then 1 else 0), .ref (bd 6), .ref (bd 7), .ref (bd 8), .ref (bd 9), .ref (bd 10), .ref (bd 11), .ref (bd 12), .ref (bd 13), .ref (bd 14)])), ((bd 1), .inl (cy 0, 130, .inl (nIf f_)))] [.ref (bd 0)] (fun r_ => r_ = (nI (fixM (mP m_) (mN m_)))) := by
  refine zOfR (cc := cX8_inPlace) (maxL := 3) (ty := .int) (by decide) rfl (Nat.le_of_ble_eq_true rfl) ?_
  intro zp ze zs zm za zb zme zc hx hb hml hts hown hP hK Q kr ls hl
  have hown : zs.vm.findClass RX8 = some zm.cls := hown
  have hl : lv_has ls 3 [(0, .ref (bd 0))] := hl
  have hn2 := ok_2 hw
  have hn16 := ok_n hw
  have hC6 := ok_C hw
  have hwP := ok_P hw
  have hf0 : f_ 0 = mN m_ := hR.1
  have hf1 : f_ 1 = mC m_ := hR.2.1
  have hk0_ : (nI 0).toInt = 0 := rfl
  have hk9_ : (nI 999).toInt = 999 := rfl
  have hk8_ : (-999 : Int32).toInt = -999 := rfl
  refine lv_iconst (v := nI 0) hx hb dX8_inPlace_0 (by decide) ?_
  refine zi_top (v := nI (fixM (mP m_) 0)) rfl ?_
  refine lv_istore_n (lv' := [(1, .int (nI (fixM (mP m_) 0))), (0, .ref (bd 0))]) hx hb dX8_inPlace_1 rfl hl (by decide) rfl (fun ls hl => ?_)
  refine lv_iconst (v := nI 0) hx hb dX8_inPlace_2 (by decide) ?_
  refine lv_istore_n (lv' := [(2, .int (nI 0)), (1, .int (nI (fixM (mP m_) 0))), (0, .ref (bd 0))]) hx hb dX8_inPlace_3 rfl hl (by decide) rfl (fun ls hl => ?_)
  have L4 : ∀ (kf_ : Nat) (i_ : Nat) (hi : i_ ≤ f_ 0), f_ 0 - i_ < kf_ → ∀ ls : Array Slot, lv_has ls 3 [(0, .ref (bd 0)), (1, .int (nI (fixM (mP m_) i_))), (2, .int (nI i_))] → W zp l ze r_X8_inPlace zs zm za zb zme zc zs.heap [] 0 0 Q (F0 zm 4 ls []) := by
    intro kf_
    induction kf_ with
    | zero => intro i_ hi hk_; exact absurd hk_ (Nat.not_lt_zero _)
    | succ kf_ ih4 =>
      intro i_ hi hk_ ls hl
      refine lv_iload_n hx hb dX8_inPlace_4 rfl (lv_at hl 2 rfl) ?_
      refine lv_aload_n hx hb dX8_inPlace_5 rfl (lv_at hl 0 rfl) ?_
      refine va_get (D := D) (ci := 5) (v := .ref (bd 1)) (C := RX8) (T := TX8) (N := 19) hx hb hts (fun w h => List.mem_cons_of_mem _ (zinX8 w h)) hown hK.1 hP 0 rfl rfl 1 (by decide) (hts _ (List.mem_cons_of_mem _ zw_74)) (fun _ h9 => h9) rfl dX8_inPlace_6 ?_
      refine lv_iconst (v := nI 0) hx hb dX8_inPlace_9 (by decide) ?_
      refine zi_iald (v := nI (f_ 0)) hx hb hK hP 1 rfl (by omega) (by omega) rfl dX8_inPlace_10 ?_
      refine zb_ge (a := i_) (b := f_ 0) (tgt := 42) hx hb dX8_inPlace_11 (by decide) (by omega) (by omega) (fun c11 => ?_) (fun c11 => ?_)
      · skip
        refine lv_iload_n hx hb dX8_inPlace_42 rfl (lv_at hl 1 rfl) ?_
        exact kr _ _ _ dX8_inPlace_43 (vp_nar_int _) (by rw [show i_ = mN m_ by omega])
      · skip
        have hb_ := fr_lt (mP m_) i_
        have hx_ := fr_fix (ok_P hw) hn16 (show i_ < mN m_ by omega)
        refine lv_iload_n hx hb dX8_inPlace_14 rfl (lv_at hl 1 rfl) ?_
        refine lv_aload_n hx hb dX8_inPlace_15 rfl (lv_at hl 0 rfl) ?_
        refine va_get (D := D) (ci := 5) (v := .ref (bd 1)) (C := RX8) (T := TX8) (N := 19) hx hb hts (fun w h => List.mem_cons_of_mem _ (zinX8 w h)) hown hK.1 hP 0 rfl rfl 1 (by decide) (hts _ (List.mem_cons_of_mem _ zw_74)) (fun _ h9 => h9) rfl dX8_inPlace_16 ?_
        refine lv_iconst (v := nI 2) hx hb dX8_inPlace_19 (by decide) ?_
        refine lv_iload_n hx hb dX8_inPlace_20 rfl (lv_at hl 2 rfl) ?_
        refine zi_add (v := nI (2 + i_)) hx hb dX8_inPlace_21 (nI_add _ _) ?_
        refine zi_iald (v := nI (fr (mP m_) i_)) hx hb hK hP 1 rfl (by omega) (by omega) (congrArg nI (hR.2.2.1 i_ (show i_ < mN m_ by omega))) dX8_inPlace_22 ?_
        refine lv_iload_n hx hb dX8_inPlace_23 rfl (lv_at hl 2 rfl) ?_
        refine zb_ne (a := fr (mP m_) i_) (b := i_) (tgt := 33) hx hb dX8_inPlace_24 (by decide) (by omega) (by omega) (fun c24 => ?_) (fun c24 => ?_)
        · skip
          refine lv_iconst (v := nI 0) hx hb dX8_inPlace_33 (by decide) ?_
          refine zi_or (v := nI (fixM (mP m_) (i_ + 1))) hx hb dX8_inPlace_34 ((fa_or _ _).trans ((congrArg nI (Nat.or_zero _)).trans (fixM_no (fun q_ => c24 (hx_.mpr q_))))) ?_
          refine lv_istore_n (lv' := [(1, .int (nI (fixM (mP m_) (i_ + 1)))), (0, .ref (bd 0)), (2, .int (nI i_))]) hx hb dX8_inPlace_35 rfl hl (by decide) rfl (fun ls hl => ?_)
          refine lv_iinc (v := nI (i_ + 1)) (lv' := [(2, .int (nI (i_ + 1))), (1, .int (nI (fixM (mP m_) (i_ + 1)))), (0, .ref (bd 0))]) hx hb dX8_inPlace_36 hl (k := 2) rfl (nI_1 _) (by decide) rfl (fun ls hl => ?_)
          refine lv_goto (tgt := 4) hx hb dX8_inPlace_39 (by decide) ?_
          exact ih4 (i_ + 1) (by omega) (by omega) _ (lv_sub hl [2, 1, 0] rfl)
        · skip
          refine lv_iconst (v := nI 1) hx hb dX8_inPlace_27 (by decide) ?_
          refine lv_iload_n hx hb dX8_inPlace_28 rfl (lv_at hl 2 rfl) ?_
          refine zi_shl (v := nI (2 ^ i_)) hx hb dX8_inPlace_29 (zz_shl1 (by omega)) ?_
          refine lv_goto (tgt := 34) hx hb dX8_inPlace_30 (by decide) ?_
          refine zi_or (v := nI (fixM (mP m_) (i_ + 1))) hx hb dX8_inPlace_34 (fixM_yes (hx_.mp c24)) ?_
          refine lv_istore_n (lv' := [(1, .int (nI (fixM (mP m_) (i_ + 1)))), (0, .ref (bd 0)), (2, .int (nI i_))]) hx hb dX8_inPlace_35 rfl hl (by decide) rfl (fun ls hl => ?_)
          refine lv_iinc (v := nI (i_ + 1)) (lv' := [(2, .int (nI (i_ + 1))), (1, .int (nI (fixM (mP m_) (i_ + 1)))), (0, .ref (bd 0))]) hx hb dX8_inPlace_36 hl (k := 2) rfl (nI_1 _) (by decide) rfl (fun ls hl => ?_)
          refine lv_goto (tgt := 4) hx hb dX8_inPlace_39 (by decide) ?_
          exact ih4 (i_ + 1) (by omega) (by omega) _ (lv_sub hl [2, 1, 0] rfl)
  exact L4 (f_ 0 - 0 + 1) 0 (Nat.zero_le _) (Nat.lt_succ_self _) _ (lv_sub hl [2, 1, 0] rfl)
abbrev w_X8_isInOrder : List Cond := Cond.code yX8_isInOrder cX8_isInOrder 1 (some .boolean) :: zAll
abbrev r_X8_isInOrder : Room := { frames := 1, cells := 0, slots := 0, locals := 22 }
theorem zd_X8_isInOrder : yX8_isInOrder.cls = RX8 ∧ yX8_isInOrder.cls ≠ "java/lang/invoke/MethodHandle" ∧ yX8_isInOrder.cls ≠ "java/lang/invoke/VarHandle" ∧ (parseMethodDescriptor yX8_isInOrder.desc).map (fun d => d.parameters.length) = some 0 := by decide +kernel
set_option maxHeartbeats 4000000 in
set_option maxRecDepth 100000 in
theorem c_X8_isInOrder (l : Launch) (D : va_G) (cy : Nat → ClassId) (bd : Nat → Nat) (um_ : Nat) (ln_ : Nat) (at_ : Nat) (iw_ : Bool) (f_ : Nat → Nat) (m_ : MT) (hw : TVok m_.1) (hR : RowR m_.1 f_) : zMi l yX8_isInOrder w_X8_isInOrder r_X8_isInOrder D cy [((bd 0), .inr (5, [.int (nI 0), .ref (bd 1), .ref (bd 2), .int (nI um_), .ref (bd 3), .ref (bd 4), .ref (bd 5), .int (nI ln_), .int (nI at_), .int (if iw_ = true then 1 else 0), .ref (bd 6), .ref (bd 7), .ref (bd 8), .ref (bd 9), .ref (bd 10), .ref (bd 11), .ref (bd 12), .ref (bd 13), .ref (bd 14)])), ((bd 1), .inl (cy 0, 130, .inl (nIf f_)))] [.ref (bd 0)] (fun r_ => r_ = (if mP m_ = stayL then 1 else 0)) := by
  refine zOfR (cc := cX8_isInOrder) (maxL := 1) (ty := .boolean) (by decide) rfl (Nat.le_of_ble_eq_true rfl) ?_
  intro zp ze zs zm za zb zme zc hx hb hml hts hown hP hK Q kr ls hl
  have hown : zs.vm.findClass RX8 = some zm.cls := hown
  have hl : lv_has ls 1 [(0, .ref (bd 0))] := hl
  have hn2 := ok_2 hw
  have hn16 := ok_n hw
  have hC6 := ok_C hw
  have hwP := ok_P hw
  have hf0 : f_ 0 = mN m_ := hR.1
  have hf1 : f_ 1 = mC m_ := hR.2.1
  have hk0_ : (nI 0).toInt = 0 := rfl
  have hk9_ : (nI 999).toInt = 999 := rfl
  have hk8_ : (-999 : Int32).toInt = -999 := rfl
  have hm_ := fixM_lt (mP m_) hn16
  have ho_ := ord_fix (ok_P hw) hn16
  have h20_ : 1 ≤ 2 ^ f_ 0 := Nat.one_le_two_pow
  have h21_ : 2 ^ f_ 0 ≤ 2 ^ 16 := Nat.pow_le_pow_right (by decide) (by omega)
  refine lv_aload_n hx hb dX8_isInOrder_0 rfl (lv_at hl 0 rfl) ?_
  refine zcRi (As := []) (rest := []) ⟨hx, hb, hml, hown, hts⟩ (c_X8_inPlace l D cy bd um_ ln_ at_ iw_ f_ m_ (by omega) (by omega)) (cwV 0 hts (zG_V zw_576 zw_577 zw_578 zw_5 zw_579) rfl rfl rfl zd_X8_inPlace ⟨Nat.le_of_ble_eq_true rfl, Nat.le_of_ble_eq_true rfl⟩) hK hP [0, 1] rfl rfl rfl rfl rfl hl.1 rfl (Nat.le_of_ble_eq_true rfl) dX8_isInOrder_1 ⟨Nat.zero_le _, Nat.zero_le _⟩ (fun r1 h1 => ?_)
  subst h1
  refine lv_iconst (v := nI 1) hx hb dX8_isInOrder_4 (by decide) ?_
  refine lv_aload_n hx hb dX8_isInOrder_5 rfl (lv_at hl 0 rfl) ?_
  refine va_get (D := D) (ci := 5) (v := .ref (bd 1)) (C := RX8) (T := TX8) (N := 19) hx hb hts (fun w h => List.mem_cons_of_mem _ (zinX8 w h)) hown hK.1 hP 0 rfl rfl 1 (by decide) (hts _ (List.mem_cons_of_mem _ zw_74)) (fun _ h9 => h9) rfl dX8_isInOrder_6 ?_
  refine lv_iconst (v := nI 0) hx hb dX8_isInOrder_9 (by decide) ?_
  refine zi_iald (v := nI (f_ 0)) hx hb hK hP 1 rfl (by omega) (by omega) rfl dX8_isInOrder_10 ?_
  refine zi_shl (v := nI (2 ^ (f_ 0))) hx hb dX8_isInOrder_11 (zz_shl1 (by omega)) ?_
  refine lv_iconst (v := nI 1) hx hb dX8_isInOrder_12 (by decide) ?_
  refine zi_sub (v := nI (2 ^ f_ 0 - 1)) hx hb dX8_isInOrder_13 (pk_sub (by omega)) ?_
  refine zb_ne (a := fixM (mP m_) (mN m_)) (b := 2 ^ f_ 0 - 1) (tgt := 21) hx hb dX8_isInOrder_14 (by decide) (by omega) (by omega) (fun c14 => ?_) (fun c14 => ?_)
  · skip
    refine lv_iconst (v := nI 0) hx hb dX8_isInOrder_21 (by decide) ?_
    exact kr _ _ _ dX8_isInOrder_22 rfl (by rw [if_neg (fun q_ => c14 (by have h2_ := ho_.mpr q_; rw [hf0]; exact h2_))]; rfl)
  · skip
    refine lv_iconst (v := nI 1) hx hb dX8_isInOrder_17 (by decide) ?_
    refine lv_goto (tgt := 22) hx hb dX8_isInOrder_18 (by decide) ?_
    exact kr _ _ _ dX8_isInOrder_22 rfl (by rw [if_pos (ho_.mp (by rw [hf0] at c14; exact c14))]; rfl)
abbrev w_X8_count : List Cond := Cond.code yX8_count cX8_count 2 (some .int) :: zAll
abbrev r_X8_count : Room := { frames := 2, cells := 0, slots := 0, locals := 42 }
theorem zd_X8_count : yX8_count.cls = RX8 ∧ yX8_count.cls ≠ "java/lang/invoke/MethodHandle" ∧ yX8_count.cls ≠ "java/lang/invoke/VarHandle" ∧ (parseMethodDescriptor yX8_count.desc).map (fun d => d.parameters.length) = some 1 := by decide +kernel
set_option maxHeartbeats 4000000 in
set_option maxRecDepth 100000 in
theorem c_X8_count (l : Launch) (D : va_G) (cy : Nat → ClassId) (sz : Nat) (bd : Nat → Nat) (ln_ : Nat) (at_ : Nat) (iw_ : Bool) (f_ : Nat → Nat) (m_ : MT) (w_ : Int32) (hw : TVok m_.1) (hR : RowR m_.1 f_) : zWi l yX8_count w_X8_count r_X8_count D cy [((bd 0), .inr (5, [.int (nI 0), .ref (bd 1), .ref (bd 2), .int (nI (mU m_)), .ref (bd 3), .ref (bd 4), .ref (bd 5), .int (nI ln_), .int (nI at_), .int (if iw_ = true then 1 else 0), .ref (bd 6), .ref (bd 7), .ref (bd 8), .ref (bd 9), .ref (bd 10), .ref (bd 11), .ref (bd 12), .ref (bd 13), .ref (bd 14)])), ((bd 1), .inl (cy 0, 130, .inl (nIf f_)))] sz [.ref (bd 0), .int w_] (fun (r_ : Int32) (u : Unit) => r_ = (qCount m_ ln_ w_) ∧ True) (fun u : Unit => ([((bd 0), .inr (5, [.int (nI 0), .ref (bd 1), .ref (bd 2), .int (nI (mU m_)), .ref (bd 3), .ref (bd 4), .ref (bd 5), .int (nI ln_), .int (nI at_), .int (if iw_ = true then 1 else 0), .ref (bd 6), .ref (bd 7), .ref (bd 8), .ref (bd 9), .ref (bd 10), .ref (bd 11), .ref (bd 12), .ref (bd 13), .ref (bd 14)])), ((bd 1), .inl (cy 0, 130, .inl (nIf f_)))] : va_W)) := by
  refine zOfW (cc := cX8_count) (maxL := 2) (ty := .int) (by decide) rfl (Nat.le_of_ble_eq_true rfl) ?_
  intro zp ze zs zm za zb zme zc hx hb hml hts hown hP hK zA hD hA Q kr ls hl
  have hS : va_S zA zs.heap zs.heap [] := va_S.rf
  have hown : zs.vm.findClass RX8 = some zm.cls := hown
  have hl : lv_has ls 2 [(0, .ref (bd 0)), (1, .int w_)] := hl
  have hn2 := ok_2 hw
  have hn16 := ok_n hw
  have hC6 := ok_C hw
  have hwP := ok_P hw
  have hf0 : f_ 0 = mN m_ := hR.1
  have hf1 : f_ 1 = mC m_ := hR.2.1
  have hk0_ : (nI 0).toInt = 0 := rfl
  have hk9_ : (nI 999).toInt = 999 := rfl
  have hk8_ : (-999 : Int32).toInt = -999 := rfl
  refine lv_aload_n hx hb dX8_count_0 rfl (lv_at hl 0 rfl) ?_
  refine lv_iconst (v := nI 0) hx hb dX8_count_1 (by decide) ?_
  refine va_put (D := D) (ci := 5) (v := .int (nI 0)) (ty := .int) (C := RX8) (T := TX8) (N := 19) hx hb hts (fun w h => List.mem_cons_of_mem _ (zinX8 w h)) tyX8 tyX8_ok nmX8 hown hK.1 hP hD hS 0 rfl rfl 0 (by decide) (hts _ (List.mem_cons_of_mem _ zw_88)) (fun _ h9 => h9) rfl (tyX8_ok 0 (by decide)) rfl rfl (Nat.le_of_ble_eq_true rfl) dX8_count_2 (fun H locs hP hD hS => ?_)
  have hP : va_P D vwCl [((bd 0), .inr (5, [.int (nI 0), .ref (bd 1), .ref (bd 2), .int (nI (mU m_)), .ref (bd 3), .ref (bd 4), .ref (bd 5), .int (nI ln_), .int (nI at_), .int (if iw_ = true then 1 else 0), .ref (bd 6), .ref (bd 7), .ref (bd 8), .ref (bd 9), .ref (bd 10), .ref (bd 11), .ref (bd 12), .ref (bd 13), .ref (bd 14)])), ((bd 1), .inl (cy 0, 130, .inl (nIf f_)))] H := hP
  have hD : va_D zA [((bd 0), .inr (5, [.int (nI 0), .ref (bd 1), .ref (bd 2), .int (nI (mU m_)), .ref (bd 3), .ref (bd 4), .ref (bd 5), .int (nI ln_), .int (nI at_), .int (if iw_ = true then 1 else 0), .ref (bd 6), .ref (bd 7), .ref (bd 8), .ref (bd 9), .ref (bd 10), .ref (bd 11), .ref (bd 12), .ref (bd 13), .ref (bd 14)])), ((bd 1), .inl (cy 0, 130, .inl (nIf f_)))] := hD
  refine lv_iload_n hx hb dX8_count_5 rfl (lv_at hl 1 rfl) ?_
  have hsw6 : (w_).toInt = (w_).toInt := rfl
  rcases (show (w_).toInt = 0 ∨ (w_).toInt = 1 ∨ (w_).toInt = 2 ∨ (w_).toInt = 3 ∨ (w_).toInt = 4 ∨ (w_).toInt = 5 ∨ (w_).toInt = 6 ∨ ((w_).toInt < 0 ∨ 6 < (w_).toInt) by omega) with c6 | c6 | c6 | c6 | c6 | c6 | c6 | c6
  · refine lv_tableIn (tgt := 48) (off := 42) hx hb dX8_count_6 (by rw [hsw6, c6]; decide) (by rw [hsw6, c6]; decide) (by rw [hsw6, c6]; rfl) (by decide) ?_
    refine lv_aload_n hx hb dX8_count_48 rfl (lv_at hl 0 rfl) ?_
    refine va_get (D := D) (ci := 5) (v := .ref (bd 1)) (C := RX8) (T := TX8) (N := 19) hx hb hts (fun w h => List.mem_cons_of_mem _ (zinX8 w h)) hown hK.1 hP 0 rfl rfl 1 (by decide) (hts _ (List.mem_cons_of_mem _ zw_74)) (fun _ h9 => h9) rfl dX8_count_49 ?_
    refine lv_iconst (v := nI 0) hx hb dX8_count_52 (by decide) ?_
    refine zi_iald (v := nI (f_ 0)) hx hb hK hP 1 rfl (by omega) (by omega) rfl dX8_count_53 ?_
    exact kr _ () _ _ _ _ dX8_count_54 (vp_nar_int _) ⟨(by unfold qCount; rw [if_pos c6]; exact congrArg nI hf0), trivial⟩ hP hD hS
  · refine lv_tableIn (tgt := 55) (off := 49) hx hb dX8_count_6 (by rw [hsw6, c6]; decide) (by rw [hsw6, c6]; decide) (by rw [hsw6, c6]; rfl) (by decide) ?_
    refine lv_aload_n hx hb dX8_count_55 rfl (lv_at hl 0 rfl) ?_
    refine va_get (D := D) (ci := 5) (v := .ref (bd 1)) (C := RX8) (T := TX8) (N := 19) hx hb hts (fun w h => List.mem_cons_of_mem _ (zinX8 w h)) hown hK.1 hP 0 rfl rfl 1 (by decide) (hts _ (List.mem_cons_of_mem _ zw_74)) (fun _ h9 => h9) rfl dX8_count_56 ?_
    refine lv_iconst (v := nI 1) hx hb dX8_count_59 (by decide) ?_
    refine zi_iald (v := nI (f_ 1)) hx hb hK hP 1 rfl (by omega) (by omega) rfl dX8_count_60 ?_
    exact kr _ () _ _ _ _ dX8_count_61 (vp_nar_int _) ⟨(by unfold qCount; rw [if_neg (by omega), if_pos c6]; exact congrArg nI hf1), trivial⟩ hP hD hS
  · refine lv_tableIn (tgt := 62) (off := 56) hx hb dX8_count_6 (by rw [hsw6, c6]; decide) (by rw [hsw6, c6]; decide) (by rw [hsw6, c6]; rfl) (by decide) ?_
    refine lv_aload_n hx hb dX8_count_62 rfl (lv_at hl 0 rfl) ?_
    refine zcRi (As := []) (rest := []) ⟨hx, hb, hml, hown, hts⟩ (c_X8_inPlace l D cy bd (mU m_) ln_ at_ iw_ f_ m_ (by omega) (by omega)) (cwV 0 hts (zG_V zw_576 zw_577 zw_578 zw_5 zw_579) rfl rfl rfl zd_X8_inPlace ⟨Nat.le_of_ble_eq_true rfl, Nat.le_of_ble_eq_true rfl⟩) hK hP [0, 1] rfl rfl rfl rfl rfl hl.1 rfl (Nat.le_of_ble_eq_true rfl) dX8_count_63 ⟨Nat.zero_le _, Nat.zero_le _⟩ (fun r63 h63 => ?_)
    subst h63
    exact kr _ () _ _ _ _ dX8_count_66 (vp_nar_int _) ⟨(by unfold qCount; rw [if_neg (by omega), if_neg (by omega), if_pos c6]), trivial⟩ hP hD hS
  · refine lv_tableIn (tgt := 67) (off := 61) hx hb dX8_count_6 (by rw [hsw6, c6]; decide) (by rw [hsw6, c6]; decide) (by rw [hsw6, c6]; rfl) (by decide) ?_
    refine lv_aload_n hx hb dX8_count_67 rfl (lv_at hl 0 rfl) ?_
    refine zcRi (As := []) (rest := []) ⟨hx, hb, hml, hown, hts⟩ (c_X8_isInOrder l D cy bd (mU m_) ln_ at_ iw_ f_ m_ (by omega) (by omega)) (cwV 0 hts (zG_V zw_580 zw_581 zw_582 zw_5 zw_583) rfl rfl rfl zd_X8_isInOrder ⟨Nat.le_of_ble_eq_true rfl, Nat.le_of_ble_eq_true rfl⟩) hK hP [0, 1] rfl rfl rfl rfl rfl hl.1 rfl (Nat.le_of_ble_eq_true rfl) dX8_count_68 ⟨Nat.zero_le _, Nat.zero_le _⟩ (fun r68 h68 => ?_)
    subst h68
    refine zq_eq (tgt := 78) hx hb dX8_count_71 (by decide) (fun c71 => ?_) (fun c71 => ?_)
    · skip
      refine lv_iconst (v := nI 0) hx hb dX8_count_78 (by decide) ?_
      exact kr _ () _ _ _ _ dX8_count_79 (vp_nar_int _) ⟨(by unfold qCount; rw [if_neg (by omega), if_neg (by omega), if_neg (by omega), if_pos c6, if_neg c71]), trivial⟩ hP hD hS
    · skip
      refine lv_iconst (v := nI 1) hx hb dX8_count_74 (by decide) ?_
      refine lv_goto (tgt := 79) hx hb dX8_count_75 (by decide) ?_
      exact kr _ () _ _ _ _ dX8_count_79 (vp_nar_int _) ⟨(by unfold qCount; rw [if_neg (by omega), if_neg (by omega), if_neg (by omega), if_pos c6, if_pos c71]), trivial⟩ hP hD hS
  · refine lv_tableIn (tgt := 80) (off := 74) hx hb dX8_count_6 (by rw [hsw6, c6]; decide) (by rw [hsw6, c6]; decide) (by rw [hsw6, c6]; rfl) (by decide) ?_
    refine lv_aload_n hx hb dX8_count_80 rfl (lv_at hl 0 rfl) ?_
    refine zcRi (As := []) (rest := []) ⟨hx, hb, hml, hown, hts⟩ (c_X8_moved l D cy bd (mU m_) ln_ at_ iw_ f_ m_ (by omega) (by omega)) (cwV 0 hts (zG_V zw_417 zw_418 zw_419 zw_5 zw_420) rfl rfl rfl zd_X8_moved ⟨Nat.le_of_ble_eq_true rfl, Nat.le_of_ble_eq_true rfl⟩) hK hP [0, 1] rfl rfl rfl rfl rfl hl.1 rfl (Nat.le_of_ble_eq_true rfl) dX8_count_81 ⟨Nat.zero_le _, Nat.zero_le _⟩ (fun r81 h81 => ?_)
    subst h81
    exact kr _ () _ _ _ _ dX8_count_84 (vp_nar_int _) ⟨(by unfold qCount; rw [if_neg (by omega), if_neg (by omega), if_neg (by omega), if_neg (by omega), if_pos c6]), trivial⟩ hP hD hS
  · refine lv_tableIn (tgt := 85) (off := 79) hx hb dX8_count_6 (by rw [hsw6, c6]; decide) (by rw [hsw6, c6]; decide) (by rw [hsw6, c6]; rfl) (by decide) ?_
    refine lv_aload_n hx hb dX8_count_85 rfl (lv_at hl 0 rfl) ?_
    refine va_get (D := D) (ci := 5) (v := .int (nI ln_)) (C := RX8) (T := TX8) (N := 19) hx hb hts (fun w h => List.mem_cons_of_mem _ (zinX8 w h)) hown hK.1 hP 0 rfl rfl 7 (by decide) (hts _ (List.mem_cons_of_mem _ zw_195)) (fun _ h9 => h9) rfl dX8_count_86 ?_
    exact kr _ () _ _ _ _ dX8_count_89 (vp_nar_int _) ⟨(by unfold qCount; rw [if_neg (by omega), if_neg (by omega), if_neg (by omega), if_neg (by omega), if_neg (by omega), if_pos c6]), trivial⟩ hP hD hS
  · refine lv_tableIn (tgt := 90) (off := 84) hx hb dX8_count_6 (by rw [hsw6, c6]; decide) (by rw [hsw6, c6]; decide) (by rw [hsw6, c6]; rfl) (by decide) ?_
    refine lv_aload_n hx hb dX8_count_90 rfl (lv_at hl 0 rfl) ?_
    refine va_get (D := D) (ci := 5) (v := .int (nI (mU m_))) (C := RX8) (T := TX8) (N := 19) hx hb hts (fun w h => List.mem_cons_of_mem _ (zinX8 w h)) hown hK.1 hP 0 rfl rfl 3 (by decide) (hts _ (List.mem_cons_of_mem _ zw_128)) (fun _ h9 => h9) rfl dX8_count_91 ?_
    exact kr _ () _ _ _ _ dX8_count_94 (vp_nar_int _) ⟨(by unfold qCount; rw [if_neg (by omega), if_neg (by omega), if_neg (by omega), if_neg (by omega), if_neg (by omega), if_neg (by omega), if_pos c6]), trivial⟩ hP hD hS
  · refine lv_tableOut (tgt := 95) hx hb dX8_count_6 (by rw [hsw6]; exact c6) (by decide) ?_
    refine lv_bipush (v := (-2)) hx hb dX8_count_95 (by decide) ?_
    exact kr _ () _ _ _ _ dX8_count_97 (vp_nar_int _) ⟨(by unfold qCount; rw [if_neg (by omega), if_neg (by omega), if_neg (by omega), if_neg (by omega), if_neg (by omega), if_neg (by omega), if_neg (by omega)]), trivial⟩ hP hD hS
abbrev w_X8_at : List Cond := Cond.code yX8_at cX8_at 2 (some .int) :: zAll
abbrev r_X8_at : Room := { frames := 2, cells := 0, slots := 0, locals := 43 }
theorem zd_X8_at : yX8_at.cls = RX8 ∧ yX8_at.cls ≠ "java/lang/invoke/MethodHandle" ∧ yX8_at.cls ≠ "java/lang/invoke/VarHandle" ∧ (parseMethodDescriptor yX8_at.desc).map (fun d => d.parameters.length) = some 1 := by decide +kernel
set_option maxHeartbeats 4000000 in
set_option maxRecDepth 100000 in
theorem c_X8_at (l : Launch) (D : va_G) (cy : Nat → ClassId) (sz : Nat) (bd : Nat → Nat) (um_ : Nat) (ln_ : Nat) (at_ : Nat) (iw_ : Bool) (f_ : Nat → Nat) (m_ : MT) (k_ : Int32) (hw : TVok m_.1) (hR : RowR m_.1 f_) : zWi l yX8_at w_X8_at r_X8_at D cy [((bd 0), .inr (5, [.int (nI 0), .ref (bd 1), .ref (bd 2), .int (nI um_), .ref (bd 3), .ref (bd 4), .ref (bd 5), .int (nI ln_), .int (nI at_), .int (if iw_ = true then 1 else 0), .ref (bd 6), .ref (bd 7), .ref (bd 8), .ref (bd 9), .ref (bd 10), .ref (bd 11), .ref (bd 12), .ref (bd 13), .ref (bd 14)])), ((bd 1), .inl (cy 0, 130, .inl (nIf f_)))] sz [.ref (bd 0), .int k_] (fun (r_ : Int32) (u : Unit) => r_ = (qAt m_ k_) ∧ True) (fun u : Unit => ([((bd 0), .inr (5, [.int (nI 0), .ref (bd 1), .ref (bd 2), .int (nI um_), .ref (bd 3), .ref (bd 4), .ref (bd 5), .int (nI ln_), .int (nI at_), .int (if iw_ = true then 1 else 0), .ref (bd 6), .ref (bd 7), .ref (bd 8), .ref (bd 9), .ref (bd 10), .ref (bd 11), .ref (bd 12), .ref (bd 13), .ref (bd 14)])), ((bd 1), .inl (cy 0, 130, .inl (nIf f_)))] : va_W)) := by
  refine zOfW (cc := cX8_at) (maxL := 2) (ty := .int) (by decide) rfl (Nat.le_of_ble_eq_true rfl) ?_
  intro zp ze zs zm za zb zme zc hx hb hml hts hown hP hK zA hD hA Q kr ls hl
  have hS : va_S zA zs.heap zs.heap [] := va_S.rf
  have hown : zs.vm.findClass RX8 = some zm.cls := hown
  have hl : lv_has ls 2 [(0, .ref (bd 0)), (1, .int k_)] := hl
  have hn2 := ok_2 hw
  have hn16 := ok_n hw
  have hC6 := ok_C hw
  have hwP := ok_P hw
  have hf0 : f_ 0 = mN m_ := hR.1
  have hf1 : f_ 1 = mC m_ := hR.2.1
  have hk0_ : (nI 0).toInt = 0 := rfl
  have hk9_ : (nI 999).toInt = 999 := rfl
  have hk8_ : (-999 : Int32).toInt = -999 := rfl
  refine lv_aload_n hx hb dX8_at_0 rfl (lv_at hl 0 rfl) ?_
  refine lv_iconst (v := nI 0) hx hb dX8_at_1 (by decide) ?_
  refine va_put (D := D) (ci := 5) (v := .int (nI 0)) (ty := .int) (C := RX8) (T := TX8) (N := 19) hx hb hts (fun w h => List.mem_cons_of_mem _ (zinX8 w h)) tyX8 tyX8_ok nmX8 hown hK.1 hP hD hS 0 rfl rfl 0 (by decide) (hts _ (List.mem_cons_of_mem _ zw_88)) (fun _ h9 => h9) rfl (tyX8_ok 0 (by decide)) rfl rfl (Nat.le_of_ble_eq_true rfl) dX8_at_2 (fun H locs hP hD hS => ?_)
  have hP : va_P D vwCl [((bd 0), .inr (5, [.int (nI 0), .ref (bd 1), .ref (bd 2), .int (nI um_), .ref (bd 3), .ref (bd 4), .ref (bd 5), .int (nI ln_), .int (nI at_), .int (if iw_ = true then 1 else 0), .ref (bd 6), .ref (bd 7), .ref (bd 8), .ref (bd 9), .ref (bd 10), .ref (bd 11), .ref (bd 12), .ref (bd 13), .ref (bd 14)])), ((bd 1), .inl (cy 0, 130, .inl (nIf f_)))] H := hP
  have hD : va_D zA [((bd 0), .inr (5, [.int (nI 0), .ref (bd 1), .ref (bd 2), .int (nI um_), .ref (bd 3), .ref (bd 4), .ref (bd 5), .int (nI ln_), .int (nI at_), .int (if iw_ = true then 1 else 0), .ref (bd 6), .ref (bd 7), .ref (bd 8), .ref (bd 9), .ref (bd 10), .ref (bd 11), .ref (bd 12), .ref (bd 13), .ref (bd 14)])), ((bd 1), .inl (cy 0, 130, .inl (nIf f_)))] := hD
  refine lv_aload_n hx hb dX8_at_5 rfl (lv_at hl 0 rfl) ?_
  refine lv_iload_n hx hb dX8_at_6 rfl (lv_at hl 1 rfl) ?_
  refine zcRi (As := [.int k_]) (rest := []) ⟨hx, hb, hml, hown, hts⟩ (c_X8_isPlace l D cy bd um_ ln_ at_ iw_ f_ k_ (by omega)) (cwV 1 hts (zG_V zw_222 zw_223 zw_224 zw_5 zw_225) rfl rfl rfl zd_X8_isPlace ⟨Nat.le_of_ble_eq_true rfl, Nat.le_of_ble_eq_true rfl⟩) hK hP [0, 1] rfl rfl rfl rfl rfl hl.1 rfl (Nat.le_of_ble_eq_true rfl) dX8_at_7 ⟨Nat.zero_le _, Nat.zero_le _⟩ (fun r7 h7 => ?_)
  subst h7
  refine zq_eq (tgt := 24) hx hb dX8_at_10 (by decide) (fun c10 => ?_) (fun c10 => ?_)
  · skip
    refine lv_iconst (v := (-1)) hx hb dX8_at_24 (by decide) ?_
    exact kr _ () _ _ _ _ dX8_at_25 (vp_nar_int _) ⟨(by unfold qAt; rw [if_neg (fun q_ => c10 (by have := bP_iff.mp q_; omega))]), trivial⟩ hP hD hS
  · skip
    obtain ⟨j_, hj_, ej_⟩ := zz_rng (n := f_ 0) (x := k_) (by omega)
    rw [ej_] at hl
    refine lv_aload_n hx hb dX8_at_13 rfl (lv_at hl 0 rfl) ?_
    refine va_get (D := D) (ci := 5) (v := .ref (bd 1)) (C := RX8) (T := TX8) (N := 19) hx hb hts (fun w h => List.mem_cons_of_mem _ (zinX8 w h)) hown hK.1 hP 0 rfl rfl 1 (by decide) (hts _ (List.mem_cons_of_mem _ zw_74)) (fun _ h9 => h9) rfl dX8_at_14 ?_
    refine lv_iconst (v := nI 2) hx hb dX8_at_17 (by decide) ?_
    refine lv_iload_n hx hb dX8_at_18 rfl (lv_at hl 1 rfl) ?_
    refine zi_add (v := nI (2 + j_)) hx hb dX8_at_19 (nI_add _ _) ?_
    refine zi_iald (v := nI (fr (mP m_) j_)) hx hb hK hP 1 rfl (by omega) (by omega) (congrArg nI (hR.2.2.1 j_ (show j_ < mN m_ by omega))) dX8_at_20 ?_
    refine lv_goto (tgt := 25) hx hb dX8_at_21 (by decide) ?_
    exact kr _ () _ _ _ _ dX8_at_25 (vp_nar_int _) ⟨(by unfold qAt; rw [if_pos (bP_iff.mpr (by omega)), ej_, ix_nI (by omega)]), trivial⟩ hP hD hS
abbrev w_X8_where : List Cond := Cond.code yX8_where cX8_where 4 (some .int) :: zAll
abbrev r_X8_where : Room := { frames := 0, cells := 0, slots := 0, locals := 0 }
theorem zd_X8_where : yX8_where.cls = RX8 ∧ yX8_where.cls ≠ "java/lang/invoke/MethodHandle" ∧ yX8_where.cls ≠ "java/lang/invoke/VarHandle" ∧ (parseMethodDescriptor yX8_where.desc).map (fun d => d.parameters.length) = some 1 := by decide +kernel
set_option maxHeartbeats 4000000 in
set_option maxRecDepth 100000 in
theorem c_X8_where (l : Launch) (D : va_G) (cy : Nat → ClassId) (sz : Nat) (bd : Nat → Nat) (um_ : Nat) (ln_ : Nat) (at_ : Nat) (iw_ : Bool) (f_ : Nat → Nat) (m_ : MT) (k_ : Int32) (hw : TVok m_.1) (hR : RowR m_.1 f_) : zWi l yX8_where w_X8_where r_X8_where D cy [((bd 0), .inr (5, [.int (nI 0), .ref (bd 1), .ref (bd 2), .int (nI um_), .ref (bd 3), .ref (bd 4), .ref (bd 5), .int (nI ln_), .int (nI at_), .int (if iw_ = true then 1 else 0), .ref (bd 6), .ref (bd 7), .ref (bd 8), .ref (bd 9), .ref (bd 10), .ref (bd 11), .ref (bd 12), .ref (bd 13), .ref (bd 14)])), ((bd 1), .inl (cy 0, 130, .inl (nIf f_)))] sz [.ref (bd 0), .int k_] (fun (r_ : Int32) (u : Unit) => r_ = (qWhere m_ k_) ∧ True) (fun u : Unit => ([((bd 0), .inr (5, [.int (nI 0), .ref (bd 1), .ref (bd 2), .int (nI um_), .ref (bd 3), .ref (bd 4), .ref (bd 5), .int (nI ln_), .int (nI at_), .int (if iw_ = true then 1 else 0), .ref (bd 6), .ref (bd 7), .ref (bd 8), .ref (bd 9), .ref (bd 10), .ref (bd 11), .ref (bd 12), .ref (bd 13), .ref (bd 14)])), ((bd 1), .inl (cy 0, 130, .inl (nIf f_)))] : va_W)) := by
  refine zOfW (cc := cX8_where) (maxL := 4) (ty := .int) (by decide) rfl (Nat.le_of_ble_eq_true rfl) ?_
  intro zp ze zs zm za zb zme zc hx hb hml hts hown hP hK zA hD hA Q kr ls hl
  have hS : va_S zA zs.heap zs.heap [] := va_S.rf
  have hown : zs.vm.findClass RX8 = some zm.cls := hown
  have hl : lv_has ls 4 [(0, .ref (bd 0)), (1, .int k_)] := hl
  have hn2 := ok_2 hw
  have hn16 := ok_n hw
  have hC6 := ok_C hw
  have hwP := ok_P hw
  have hf0 : f_ 0 = mN m_ := hR.1
  have hf1 : f_ 1 = mC m_ := hR.2.1
  have hk0_ : (nI 0).toInt = 0 := rfl
  have hk9_ : (nI 999).toInt = 999 := rfl
  have hk8_ : (-999 : Int32).toInt = -999 := rfl
  refine lv_aload_n hx hb dX8_where_0 rfl (lv_at hl 0 rfl) ?_
  refine lv_iconst (v := nI 0) hx hb dX8_where_1 (by decide) ?_
  refine va_put (D := D) (ci := 5) (v := .int (nI 0)) (ty := .int) (C := RX8) (T := TX8) (N := 19) hx hb hts (fun w h => List.mem_cons_of_mem _ (zinX8 w h)) tyX8 tyX8_ok nmX8 hown hK.1 hP hD hS 0 rfl rfl 0 (by decide) (hts _ (List.mem_cons_of_mem _ zw_88)) (fun _ h9 => h9) rfl (tyX8_ok 0 (by decide)) rfl rfl (Nat.le_of_ble_eq_true rfl) dX8_where_2 (fun H locs hP hD hS => ?_)
  have hP : va_P D vwCl [((bd 0), .inr (5, [.int (nI 0), .ref (bd 1), .ref (bd 2), .int (nI um_), .ref (bd 3), .ref (bd 4), .ref (bd 5), .int (nI ln_), .int (nI at_), .int (if iw_ = true then 1 else 0), .ref (bd 6), .ref (bd 7), .ref (bd 8), .ref (bd 9), .ref (bd 10), .ref (bd 11), .ref (bd 12), .ref (bd 13), .ref (bd 14)])), ((bd 1), .inl (cy 0, 130, .inl (nIf f_)))] H := hP
  have hD : va_D zA [((bd 0), .inr (5, [.int (nI 0), .ref (bd 1), .ref (bd 2), .int (nI um_), .ref (bd 3), .ref (bd 4), .ref (bd 5), .int (nI ln_), .int (nI at_), .int (if iw_ = true then 1 else 0), .ref (bd 6), .ref (bd 7), .ref (bd 8), .ref (bd 9), .ref (bd 10), .ref (bd 11), .ref (bd 12), .ref (bd 13), .ref (bd 14)])), ((bd 1), .inl (cy 0, 130, .inl (nIf f_)))] := hD
  refine lv_iconst (v := (-1)) hx hb dX8_where_5 (by decide) ?_
  refine zi_top (v := whF m_ k_ 0) (whF_0 m_ k_) ?_
  refine lv_istore_n (lv' := [(2, .int (whF m_ k_ 0)), (0, .ref (bd 0)), (1, .int k_)]) hx hb dX8_where_6 rfl hl (by decide) rfl (fun ls hl => ?_)
  refine lv_iconst (v := nI 0) hx hb dX8_where_7 (by decide) ?_
  refine lv_istore_n (lv' := [(3, .int (nI 0)), (2, .int (whF m_ k_ 0)), (0, .ref (bd 0)), (1, .int k_)]) hx hb dX8_where_8 rfl hl (by decide) rfl (fun ls hl => ?_)
  have L9 : ∀ (kf_ : Nat) (i_ : Nat) (hi : i_ ≤ f_ 0), f_ 0 - i_ < kf_ → ∀ (H : Heap) (locs : List Loc), va_P D vwCl [((bd 0), .inr (5, [.int (nI 0), .ref (bd 1), .ref (bd 2), .int (nI um_), .ref (bd 3), .ref (bd 4), .ref (bd 5), .int (nI ln_), .int (nI at_), .int (if iw_ = true then 1 else 0), .ref (bd 6), .ref (bd 7), .ref (bd 8), .ref (bd 9), .ref (bd 10), .ref (bd 11), .ref (bd 12), .ref (bd 13), .ref (bd 14)])), ((bd 1), .inl (cy 0, 130, .inl (nIf f_)))] H → va_D zA [((bd 0), .inr (5, [.int (nI 0), .ref (bd 1), .ref (bd 2), .int (nI um_), .ref (bd 3), .ref (bd 4), .ref (bd 5), .int (nI ln_), .int (nI at_), .int (if iw_ = true then 1 else 0), .ref (bd 6), .ref (bd 7), .ref (bd 8), .ref (bd 9), .ref (bd 10), .ref (bd 11), .ref (bd 12), .ref (bd 13), .ref (bd 14)])), ((bd 1), .inl (cy 0, 130, .inl (nIf f_)))] → va_S zA zs.heap H locs → ∀ ls : Array Slot, lv_has ls 4 [(0, .ref (bd 0)), (1, .int k_), (2, .int (whF m_ k_ i_)), (3, .int (nI i_))] → W zp l ze r_X8_where zs zm za zb zme zc H locs 0 0 Q (F0 zm 9 ls []) := by
    intro kf_
    induction kf_ with
    | zero => intro i_ hi hk_; exact absurd hk_ (Nat.not_lt_zero _)
    | succ kf_ ih9 =>
      intro i_ hi hk_ H locs hP hD hS ls hl
      refine lv_iload_n hx hb dX8_where_9 rfl (lv_at hl 3 rfl) ?_
      refine lv_aload_n hx hb dX8_where_10 rfl (lv_at hl 0 rfl) ?_
      refine va_get (D := D) (ci := 5) (v := .ref (bd 1)) (C := RX8) (T := TX8) (N := 19) hx hb hts (fun w h => List.mem_cons_of_mem _ (zinX8 w h)) hown hK.1 hP 0 rfl rfl 1 (by decide) (hts _ (List.mem_cons_of_mem _ zw_74)) (fun _ h9 => h9) rfl dX8_where_11 ?_
      refine lv_iconst (v := nI 0) hx hb dX8_where_14 (by decide) ?_
      refine zi_iald (v := nI (f_ 0)) hx hb hK hP 1 rfl (by omega) (by omega) rfl dX8_where_15 ?_
      refine zb_ge (a := i_) (b := f_ 0) (tgt := 43) hx hb dX8_where_16 (by decide) (by omega) (by omega) (fun c16 => ?_) (fun c16 => ?_)
      · skip
        refine lv_iload_n hx hb dX8_where_43 rfl (lv_at hl 2 rfl) ?_
        exact kr _ () _ _ _ _ dX8_where_44 (vp_nar_int _) ⟨(by rw [show i_ = mN m_ by omega]; exact whF_end hw k_), trivial⟩ hP hD hS
      · skip
        have hb_ := fr_lt (mP m_) i_
        have hx_ := fr_fix (ok_P hw) hn16 (show i_ < mN m_ by omega)
        refine lv_aload_n hx hb dX8_where_19 rfl (lv_at hl 0 rfl) ?_
        refine va_get (D := D) (ci := 5) (v := .ref (bd 1)) (C := RX8) (T := TX8) (N := 19) hx hb hts (fun w h => List.mem_cons_of_mem _ (zinX8 w h)) hown hK.1 hP 0 rfl rfl 1 (by decide) (hts _ (List.mem_cons_of_mem _ zw_74)) (fun _ h9 => h9) rfl dX8_where_20 ?_
        refine lv_iconst (v := nI 2) hx hb dX8_where_23 (by decide) ?_
        refine lv_iload_n hx hb dX8_where_24 rfl (lv_at hl 3 rfl) ?_
        refine zi_add (v := nI (2 + i_)) hx hb dX8_where_25 (nI_add _ _) ?_
        refine zi_iald (v := nI (fr (mP m_) i_)) hx hb hK hP 1 rfl (by omega) (by omega) (congrArg nI (hR.2.2.1 i_ (show i_ < mN m_ by omega))) dX8_where_26 ?_
        refine lv_iload_n hx hb dX8_where_27 rfl (lv_at hl 1 rfl) ?_
        refine zt_ne (a := ((fr (mP m_) i_ : Nat) : Int)) (b := (k_).toInt) (tgt := 35) hx hb dX8_where_28 (by decide) (nI_toInt (by omega)) rfl (fun c28 => ?_) (fun c28 => ?_)
        · skip
          refine lv_iload_n hx hb dX8_where_35 rfl (lv_at hl 2 rfl) ?_
          refine zi_top (v := whF m_ k_ (i_ + 1)) (whF_no hw (show i_ < mN m_ by omega) (by omega)) ?_
          refine lv_istore_n (lv' := [(2, .int (whF m_ k_ (i_ + 1))), (0, .ref (bd 0)), (1, .int k_), (3, .int (nI i_))]) hx hb dX8_where_36 rfl hl (by decide) rfl (fun ls hl => ?_)
          refine lv_iinc (v := nI (i_ + 1)) (lv' := [(3, .int (nI (i_ + 1))), (2, .int (whF m_ k_ (i_ + 1))), (0, .ref (bd 0)), (1, .int k_)]) hx hb dX8_where_37 hl (k := 3) rfl (nI_1 _) (by decide) rfl (fun ls hl => ?_)
          refine lv_goto (tgt := 9) hx hb dX8_where_40 (by decide) ?_
          exact ih9 (i_ + 1) (by omega) (by omega) _ _ hP hD hS _ (lv_sub hl [2, 3, 1, 0] rfl)
        · skip
          refine lv_iload_n hx hb dX8_where_31 rfl (lv_at hl 3 rfl) ?_
          refine lv_goto (tgt := 36) hx hb dX8_where_32 (by decide) ?_
          refine zi_top (v := whF m_ k_ (i_ + 1)) (whF_yes hw (show i_ < mN m_ by omega) (by omega)) ?_
          refine lv_istore_n (lv' := [(2, .int (whF m_ k_ (i_ + 1))), (0, .ref (bd 0)), (1, .int k_), (3, .int (nI i_))]) hx hb dX8_where_36 rfl hl (by decide) rfl (fun ls hl => ?_)
          refine lv_iinc (v := nI (i_ + 1)) (lv' := [(3, .int (nI (i_ + 1))), (2, .int (whF m_ k_ (i_ + 1))), (0, .ref (bd 0)), (1, .int k_)]) hx hb dX8_where_37 hl (k := 3) rfl (nI_1 _) (by decide) rfl (fun ls hl => ?_)
          refine lv_goto (tgt := 9) hx hb dX8_where_40 (by decide) ?_
          exact ih9 (i_ + 1) (by omega) (by omega) _ _ hP hD hS _ (lv_sub hl [2, 3, 1, 0] rfl)
  exact L9 (f_ 0 - 0 + 1) 0 (Nat.zero_le _) (Nat.lt_succ_self _) _ _ hP hD hS _ (lv_sub hl [2, 3, 1, 0] rfl)
abbrev w_X8_fixed : List Cond := Cond.code yX8_fixed cX8_fixed 4 (some .int) :: zAll
abbrev r_X8_fixed : Room := { frames := 0, cells := 0, slots := 0, locals := 0 }
theorem zd_X8_fixed : yX8_fixed.cls = RX8 ∧ yX8_fixed.cls ≠ "java/lang/invoke/MethodHandle" ∧ yX8_fixed.cls ≠ "java/lang/invoke/VarHandle" ∧ (parseMethodDescriptor yX8_fixed.desc).map (fun d => d.parameters.length) = some 1 := by decide +kernel
set_option maxHeartbeats 4000000 in
set_option maxRecDepth 100000 in
theorem c_X8_fixed (l : Launch) (D : va_G) (cy : Nat → ClassId) (bd : Nat → Nat) (um_ : Nat) (ln_ : Nat) (at_ : Nat) (iw_ : Bool) (f_ : Nat → Nat) (ra_ : Nat) (rc_ : Nat → Nat) (x_ : Int64) (hN_ : f_ 0 ≤ 16) (hr_ : RowX (f_ 0) rc_ x_) (hwx : WF (f_ 0) x_) : zMi l yX8_fixed w_X8_fixed r_X8_fixed D cy [((bd 0), .inr (5, [.int (nI 0), .ref (bd 1), .ref (bd 2), .int (nI um_), .ref (bd 3), .ref (bd 4), .ref (bd 5), .int (nI ln_), .int (nI at_), .int (if iw_ = true then 1 else 0), .ref (bd 6), .ref (bd 7), .ref (bd 8), .ref (bd 9), .ref (bd 10), .ref (bd 11), .ref (bd 12), .ref (bd 13), .ref (bd 14)])), ((bd 1), .inl (cy 0, 130, .inl (nIf f_))), (ra_, .inl (cy 0, 16, .inl (nIf rc_)))] [.ref (bd 0), .ref ra_] (fun r_ => r_ = (nI (fixM x_ (f_ 0)))) := by
  refine zOfR (cc := cX8_fixed) (maxL := 4) (ty := .int) (by decide) rfl (Nat.le_of_ble_eq_true rfl) ?_
  intro zp ze zs zm za zb zme zc hx hb hml hts hown hP hK Q kr ls hl
  have hown : zs.vm.findClass RX8 = some zm.cls := hown
  have hl : lv_has ls 4 [(0, .ref (bd 0)), (1, .ref ra_)] := hl
  refine lv_iconst (v := nI 0) hx hb dX8_fixed_0 (by decide) ?_
  refine zi_top (v := nI (fixM x_ 0)) rfl ?_
  refine lv_istore_n (lv' := [(2, .int (nI (fixM x_ 0))), (0, .ref (bd 0)), (1, .ref ra_)]) hx hb dX8_fixed_1 rfl hl (by decide) rfl (fun ls hl => ?_)
  refine lv_iconst (v := nI 0) hx hb dX8_fixed_2 (by decide) ?_
  refine lv_istore_n (lv' := [(3, .int (nI 0)), (2, .int (nI (fixM x_ 0))), (0, .ref (bd 0)), (1, .ref ra_)]) hx hb dX8_fixed_3 rfl hl (by decide) rfl (fun ls hl => ?_)
  have L4 : ∀ (kf_ : Nat) (i_ : Nat) (hi : i_ ≤ f_ 0), f_ 0 - i_ < kf_ → ∀ ls : Array Slot, lv_has ls 4 [(0, .ref (bd 0)), (1, .ref ra_), (2, .int (nI (fixM x_ i_))), (3, .int (nI i_))] → W zp l ze r_X8_fixed zs zm za zb zme zc zs.heap [] 0 0 Q (F0 zm 4 ls []) := by
    intro kf_
    induction kf_ with
    | zero => intro i_ hi hk_; exact absurd hk_ (Nat.not_lt_zero _)
    | succ kf_ ih4 =>
      intro i_ hi hk_ ls hl
      refine lv_iload_n hx hb dX8_fixed_4 rfl (lv_at hl 3 rfl) ?_
      refine lv_aload_n hx hb dX8_fixed_5 rfl (lv_at hl 0 rfl) ?_
      refine va_get (D := D) (ci := 5) (v := .ref (bd 1)) (C := RX8) (T := TX8) (N := 19) hx hb hts (fun w h => List.mem_cons_of_mem _ (zinX8 w h)) hown hK.1 hP 0 rfl rfl 1 (by decide) (hts _ (List.mem_cons_of_mem _ zw_74)) (fun _ h9 => h9) rfl dX8_fixed_6 ?_
      refine lv_iconst (v := nI 0) hx hb dX8_fixed_9 (by decide) ?_
      refine zi_iald (v := nI (f_ 0)) hx hb hK hP 1 rfl (by omega) (by omega) rfl dX8_fixed_10 ?_
      refine zb_ge (a := i_) (b := f_ 0) (tgt := 37) hx hb dX8_fixed_11 (by decide) (by omega) (by omega) (fun c11 => ?_) (fun c11 => ?_)
      · skip
        refine lv_iload_n hx hb dX8_fixed_37 rfl (lv_at hl 2 rfl) ?_
        exact kr _ _ _ dX8_fixed_38 (vp_nar_int _) (by rw [show i_ = f_ 0 by omega])
      · skip
        have hb_ := nb_lt x_ i_
        refine lv_iload_n hx hb dX8_fixed_14 rfl (lv_at hl 2 rfl) ?_
        refine lv_aload_n hx hb dX8_fixed_15 rfl (lv_at hl 1 rfl) ?_
        refine lv_iload_n hx hb dX8_fixed_16 rfl (lv_at hl 3 rfl) ?_
        refine zi_iald (v := nI (nb x_ i_)) hx hb hK hP 2 rfl (by omega) (by omega) (congrArg nI (hr_ i_ (by omega))) dX8_fixed_17 ?_
        refine lv_iload_n hx hb dX8_fixed_18 rfl (lv_at hl 3 rfl) ?_
        refine zb_ne (a := nb x_ i_) (b := i_) (tgt := 28) hx hb dX8_fixed_19 (by decide) (by omega) (by omega) (fun c19 => ?_) (fun c19 => ?_)
        · skip
          refine lv_iconst (v := nI 0) hx hb dX8_fixed_28 (by decide) ?_
          refine zi_or (v := nI (fixM x_ (i_ + 1))) hx hb dX8_fixed_29 ((fa_or _ _).trans ((congrArg nI (Nat.or_zero _)).trans (fixM_no c19))) ?_
          refine lv_istore_n (lv' := [(2, .int (nI (fixM x_ (i_ + 1)))), (0, .ref (bd 0)), (1, .ref ra_), (3, .int (nI i_))]) hx hb dX8_fixed_30 rfl hl (by decide) rfl (fun ls hl => ?_)
          refine lv_iinc (v := nI (i_ + 1)) (lv' := [(3, .int (nI (i_ + 1))), (2, .int (nI (fixM x_ (i_ + 1)))), (0, .ref (bd 0)), (1, .ref ra_)]) hx hb dX8_fixed_31 hl (k := 3) rfl (nI_1 _) (by decide) rfl (fun ls hl => ?_)
          refine lv_goto (tgt := 4) hx hb dX8_fixed_34 (by decide) ?_
          exact ih4 (i_ + 1) (by omega) (by omega) _ (lv_sub hl [2, 3, 1, 0] rfl)
        · skip
          refine lv_iconst (v := nI 1) hx hb dX8_fixed_22 (by decide) ?_
          refine lv_iload_n hx hb dX8_fixed_23 rfl (lv_at hl 3 rfl) ?_
          refine zi_shl (v := nI (2 ^ i_)) hx hb dX8_fixed_24 (zz_shl1 (by omega)) ?_
          refine lv_goto (tgt := 29) hx hb dX8_fixed_25 (by decide) ?_
          refine zi_or (v := nI (fixM x_ (i_ + 1))) hx hb dX8_fixed_29 (fixM_yes c19) ?_
          refine lv_istore_n (lv' := [(2, .int (nI (fixM x_ (i_ + 1)))), (0, .ref (bd 0)), (1, .ref ra_), (3, .int (nI i_))]) hx hb dX8_fixed_30 rfl hl (by decide) rfl (fun ls hl => ?_)
          refine lv_iinc (v := nI (i_ + 1)) (lv' := [(3, .int (nI (i_ + 1))), (2, .int (nI (fixM x_ (i_ + 1)))), (0, .ref (bd 0)), (1, .ref ra_)]) hx hb dX8_fixed_31 hl (k := 3) rfl (nI_1 _) (by decide) rfl (fun ls hl => ?_)
          refine lv_goto (tgt := 4) hx hb dX8_fixed_34 (by decide) ?_
          exact ih4 (i_ + 1) (by omega) (by omega) _ (lv_sub hl [2, 3, 1, 0] rfl)
  exact L4 (f_ 0 - 0 + 1) 0 (Nat.zero_le _) (Nat.lt_succ_self _) _ (lv_sub hl [2, 3, 1, 0] rfl)
abbrev w_X8_image : List Cond := Cond.code yX8_image cX8_image 4 (some .int) :: zAll
abbrev r_X8_image : Room := { frames := 3, cells := 0, slots := 0, locals := 64 }
theorem zd_X8_image : yX8_image.cls = RX8 ∧ yX8_image.cls ≠ "java/lang/invoke/MethodHandle" ∧ yX8_image.cls ≠ "java/lang/invoke/VarHandle" ∧ (parseMethodDescriptor yX8_image.desc).map (fun d => d.parameters.length) = some 3 := by decide +kernel
set_option maxHeartbeats 4000000 in
set_option maxRecDepth 100000 in
theorem c_X8_image (l : Launch) (D : va_G) (cy : Nat → ClassId) (sz : Nat) (bd : Nat → Nat) (um_ : Nat) (ln_ : Nat) (at_ : Nat) (iw_ : Bool) (f_ : Nat → Nat) (m_ : MT) (o1_ : Nat → Nat) (a_ : Int32) (z_ : Int32) (p_ : Int32) (hw : TVok m_.1) (hR : RowR m_.1 f_) : zWi l yX8_image w_X8_image r_X8_image D cy [((bd 0), .inr (5, [.int (nI 0), .ref (bd 1), .ref (bd 2), .int (nI um_), .ref (bd 3), .ref (bd 4), .ref (bd 5), .int (nI ln_), .int (nI at_), .int (if iw_ = true then 1 else 0), .ref (bd 6), .ref (bd 7), .ref (bd 8), .ref (bd 9), .ref (bd 10), .ref (bd 11), .ref (bd 12), .ref (bd 13), .ref (bd 14)])), ((bd 1), .inl (cy 0, 130, .inl (nIf f_))), ((bd 8), .inl (cy 0, 16, .inl (nIf o1_)))] sz [.ref (bd 0), .int a_, .int z_, .int p_] (fun (r_ : Int32) (u : (Nat → Nat)) => r_ = (qImage m_ a_ z_ p_) ∧ True) (fun u : (Nat → Nat) => ([((bd 0), .inr (5, [.int (nI 0), .ref (bd 1), .ref (bd 2), .int (nI um_), .ref (bd 3), .ref (bd 4), .ref (bd 5), .int (nI ln_), .int (nI at_), .int (if iw_ = true then 1 else 0), .ref (bd 6), .ref (bd 7), .ref (bd 8), .ref (bd 9), .ref (bd 10), .ref (bd 11), .ref (bd 12), .ref (bd 13), .ref (bd 14)])), ((bd 1), .inl (cy 0, 130, .inl (nIf f_))), ((bd 8), .inl (cy 0, 16, .inl (nIf u)))] : va_W)) := by
  refine zOfW (cc := cX8_image) (maxL := 4) (ty := .int) (by decide) rfl (Nat.le_of_ble_eq_true rfl) ?_
  intro zp ze zs zm za zb zme zc hx hb hml hts hown hP hK zA hD hA Q kr ls hl
  have hS : va_S zA zs.heap zs.heap [] := va_S.rf
  have hown : zs.vm.findClass RX8 = some zm.cls := hown
  have hl : lv_has ls 4 [(0, .ref (bd 0)), (1, .int a_), (2, .int z_), (3, .int p_)] := hl
  have hn2 := ok_2 hw
  have hn16 := ok_n hw
  have hC6 := ok_C hw
  have hwP := ok_P hw
  have hf0 : f_ 0 = mN m_ := hR.1
  have hf1 : f_ 1 = mC m_ := hR.2.1
  have hk0_ : (nI 0).toInt = 0 := rfl
  have hk9_ : (nI 999).toInt = 999 := rfl
  have hk8_ : (-999 : Int32).toInt = -999 := rfl
  refine lv_aload_n hx hb dX8_image_0 rfl (lv_at hl 0 rfl) ?_
  refine lv_iconst (v := nI 0) hx hb dX8_image_1 (by decide) ?_
  refine va_put (D := D) (ci := 5) (v := .int (nI 0)) (ty := .int) (C := RX8) (T := TX8) (N := 19) hx hb hts (fun w h => List.mem_cons_of_mem _ (zinX8 w h)) tyX8 tyX8_ok nmX8 hown hK.1 hP hD hS 0 rfl rfl 0 (by decide) (hts _ (List.mem_cons_of_mem _ zw_88)) (fun _ h9 => h9) rfl (tyX8_ok 0 (by decide)) rfl rfl (Nat.le_of_ble_eq_true rfl) dX8_image_2 (fun H locs hP hD hS => ?_)
  have hP : va_P D vwCl [((bd 0), .inr (5, [.int (nI 0), .ref (bd 1), .ref (bd 2), .int (nI um_), .ref (bd 3), .ref (bd 4), .ref (bd 5), .int (nI ln_), .int (nI at_), .int (if iw_ = true then 1 else 0), .ref (bd 6), .ref (bd 7), .ref (bd 8), .ref (bd 9), .ref (bd 10), .ref (bd 11), .ref (bd 12), .ref (bd 13), .ref (bd 14)])), ((bd 1), .inl (cy 0, 130, .inl (nIf f_))), ((bd 8), .inl (cy 0, 16, .inl (nIf o1_)))] H := hP
  have hD : va_D zA [((bd 0), .inr (5, [.int (nI 0), .ref (bd 1), .ref (bd 2), .int (nI um_), .ref (bd 3), .ref (bd 4), .ref (bd 5), .int (nI ln_), .int (nI at_), .int (if iw_ = true then 1 else 0), .ref (bd 6), .ref (bd 7), .ref (bd 8), .ref (bd 9), .ref (bd 10), .ref (bd 11), .ref (bd 12), .ref (bd 13), .ref (bd 14)])), ((bd 1), .inl (cy 0, 130, .inl (nIf f_))), ((bd 8), .inl (cy 0, 16, .inl (nIf o1_)))] := hD
  refine lv_aload_n hx hb dX8_image_5 rfl (lv_at hl 0 rfl) ?_
  refine lv_iload_n hx hb dX8_image_6 rfl (lv_at hl 1 rfl) ?_
  refine zcRi (As := [.int a_]) (rest := []) ⟨hx, hb, hml, hown, hts⟩ (c_X8_isMarkOrTrick l D cy bd um_ ln_ at_ iw_ f_ a_ (by omega)) (cwV 1 hts (zG_V zw_494 zw_495 zw_496 zw_5 zw_497) rfl rfl rfl zd_X8_isMarkOrTrick ⟨Nat.le_of_ble_eq_true rfl, Nat.le_of_ble_eq_true rfl⟩) hK hP [0, 1] rfl rfl rfl rfl rfl hl.1 rfl (Nat.le_of_ble_eq_true rfl) dX8_image_7 ⟨Nat.zero_le _, Nat.zero_le _⟩ (fun r7 h7 => ?_)
  subst h7
  refine zq_eq (tgt := 21) hx hb dX8_image_10 (by decide) (fun c10 => ?_) (fun c10 => ?_)
  · skip
    refine lv_iconst (v := (-1)) hx hb dX8_image_21 (by decide) ?_
    exact kr _ o1_ _ _ _ _ dX8_image_22 (vp_nar_int _) ⟨(by unfold qImage; rw [if_neg (fun q_ => c10 (by have := bMT_iff.mp q_.1; omega))]), trivial⟩ hP hD hS
  · skip
    refine lv_aload_n hx hb dX8_image_13 rfl (lv_at hl 0 rfl) ?_
    refine lv_iload_n hx hb dX8_image_14 rfl (lv_at hl 3 rfl) ?_
    refine zcRi (As := [.int p_]) (rest := []) ⟨hx, hb, hml, hown, hts⟩ (c_X8_isPlace l D cy bd um_ ln_ at_ iw_ f_ p_ (by omega)) (cwV 1 hts (zG_V zw_222 zw_223 zw_224 zw_5 zw_225) rfl rfl rfl zd_X8_isPlace ⟨Nat.le_of_ble_eq_true rfl, Nat.le_of_ble_eq_true rfl⟩) hK hP [0, 1] rfl rfl rfl rfl rfl hl.1 rfl (Nat.le_of_ble_eq_true rfl) dX8_image_15 ⟨Nat.zero_le _, Nat.zero_le _⟩ (fun r15 h15 => ?_)
    subst h15
    refine zq_ne (tgt := 23) hx hb dX8_image_18 (by decide) (fun c18 => ?_) (fun c18 => ?_)
    · skip
      refine lv_iload_n hx hb dX8_image_23 rfl (lv_at hl 2 rfl) ?_
      refine lv_sipush (v := (-999)) hx hb dX8_image_24 (by decide) ?_
      refine lv_sipush (v := nI 999) hx hb dX8_image_27 (by decide) ?_
      refine zcSi (As := [.int z_, .int (-999), .int (nI 999)]) (rest := []) ⟨hx, hb, hml, hown, hts⟩ (c_X8_in l D cy z_ (-999) (nI 999)) (va_cwS 3 hts (zG_S zw_121 zw_122 zw_5 zw_123) rfl rfl rfl zd_X8_in ⟨Nat.le_of_ble_eq_true rfl, Nat.le_of_ble_eq_true rfl⟩) hK hP [] rfl rfl hl.1 rfl (Nat.le_of_ble_eq_true rfl) dX8_image_30 ⟨Nat.zero_le _, Nat.zero_le _⟩ (fun r30 h30 => ?_)
      subst h30
      refine zq_ne (tgt := 39) hx hb dX8_image_33 (by decide) (fun c33 => ?_) (fun c33 => ?_)
      · skip
        have ha : bMT m_ a_ = true := bMT_iff.mpr (by omega)
        obtain ⟨xa_, hxa_⟩ : ∃ zz_, zz_ = mkT m_ a_ := ⟨_, rfl⟩
        have hXa := fetch_K hR ha o1_
        have hwa := mkT_WF hw ha
        rw [← hxa_] at hXa
        rw [← hf0, ← hxa_] at hwa
        obtain ⟨j_, hj_, ej_⟩ := zz_rng (n := f_ 0) (x := p_) (by omega)
        rw [ej_] at hl
        refine lv_aload_n hx hb dX8_image_39 rfl (lv_at hl 0 rfl) ?_
        refine lv_aload_n hx hb dX8_image_40 rfl (lv_at hl 0 rfl) ?_
        refine va_get (D := D) (ci := 5) (v := .ref (bd 8)) (C := RX8) (T := TX8) (N := 19) hx hb hts (fun w h => List.mem_cons_of_mem _ (zinX8 w h)) hown hK.1 hP 0 rfl rfl 12 (by decide) (hts _ (List.mem_cons_of_mem _ zw_81)) (fun _ h9 => h9) rfl dX8_image_41 ?_
        refine lv_iload_n hx hb dX8_image_44 rfl (lv_at hl 1 rfl) ?_
        refine zcWv (As := [.ref (bd 8), .int a_]) (rest := []) (wr := []) ⟨hx, hb, hml, hown, hts⟩ (c_X8_fetches l D cy H.size bd um_ ln_ at_ iw_ f_ (bd 8) o1_ a_ (by omega) (by rcases bMT_iff.mp ha with q_ | q_; exact Or.inl q_; exact Or.inr ⟨q_.1, by omega⟩)) (cwV 2 hts (zG_V zw_257 zw_258 zw_259 zw_5 zw_260) rfl rfl rfl zd_X8_fetches ⟨Nat.le_of_ble_eq_true rfl, Nat.le_of_ble_eq_true rfl⟩) hK hP hD hS hA [0, 1, 2] [] [0, 1, 2] rfl (by decide) rfl (by decide) (by decide) (w2 := (fun u_ : Unit => ([((bd 0), .inr (5, [.int (nI 0), .ref (bd 1), .ref (bd 2), .int (nI um_), .ref (bd 3), .ref (bd 4), .ref (bd 5), .int (nI ln_), .int (nI at_), .int (if iw_ = true then 1 else 0), .ref (bd 6), .ref (bd 7), .ref (bd 8), .ref (bd 9), .ref (bd 10), .ref (bd 11), .ref (bd 12), .ref (bd 13), .ref (bd 14)])), ((bd 1), .inl (cy 0, 130, .inl (nIf f_))), ((bd 8), .inl (cy 0, 16, .inl (nIf (fil (gTo f_ a_) o1_ (f_ 0)))))] : va_W))) (fun _ => rfl) (by decide) rfl rfl rfl rfl hl.1 rfl (Nat.le_of_ble_eq_true rfl) dX8_image_45 ⟨Nat.zero_le _, Nat.zero_le _⟩ (fun  u45 H locs h45 hP hD hS => ?_)
        have h45 : True := h45
        have hP : va_P D vwCl [((bd 0), .inr (5, [.int (nI 0), .ref (bd 1), .ref (bd 2), .int (nI um_), .ref (bd 3), .ref (bd 4), .ref (bd 5), .int (nI ln_), .int (nI at_), .int (if iw_ = true then 1 else 0), .ref (bd 6), .ref (bd 7), .ref (bd 8), .ref (bd 9), .ref (bd 10), .ref (bd 11), .ref (bd 12), .ref (bd 13), .ref (bd 14)])), ((bd 1), .inl (cy 0, 130, .inl (nIf f_))), ((bd 8), .inl (cy 0, 16, .inl (nIf (fil (gTo f_ a_) o1_ (f_ 0)))))] H := hP
        have hD : va_D zA [((bd 0), .inr (5, [.int (nI 0), .ref (bd 1), .ref (bd 2), .int (nI um_), .ref (bd 3), .ref (bd 4), .ref (bd 5), .int (nI ln_), .int (nI at_), .int (if iw_ = true then 1 else 0), .ref (bd 6), .ref (bd 7), .ref (bd 8), .ref (bd 9), .ref (bd 10), .ref (bd 11), .ref (bd 12), .ref (bd 13), .ref (bd 14)])), ((bd 1), .inl (cy 0, 130, .inl (nIf f_))), ((bd 8), .inl (cy 0, 16, .inl (nIf (fil (gTo f_ a_) o1_ (f_ 0)))))] := hD
        refine lv_aload_n hx hb dX8_image_48 rfl (lv_at hl 0 rfl) ?_
        refine lv_aload_n hx hb dX8_image_49 rfl (lv_at hl 0 rfl) ?_
        refine va_get (D := D) (ci := 5) (v := .ref (bd 8)) (C := RX8) (T := TX8) (N := 19) hx hb hts (fun w h => List.mem_cons_of_mem _ (zinX8 w h)) hown hK.1 hP 0 rfl rfl 12 (by decide) (hts _ (List.mem_cons_of_mem _ zw_81)) (fun _ h9 => h9) rfl dX8_image_50 ?_
        refine lv_iload_n hx hb dX8_image_53 rfl (lv_at hl 2 rfl) ?_
        refine lv_iload_n hx hb dX8_image_54 rfl (lv_at hl 3 rfl) ?_
        refine zcRi (As := [.ref (bd 8), .int z_, .int (nI j_)]) (rest := []) ⟨hx, hb, hml, hown, hts⟩ (c_X8_powered l D cy bd um_ ln_ at_ iw_ f_ (bd 8) (fil (gTo f_ a_) o1_ (f_ 0)) xa_ z_ j_ (by omega) hXa hwa (by omega) (by omega)) (cwV 3 hts (zG_V zw_293 zw_294 zw_295 zw_5 zw_296) rfl rfl rfl zd_X8_powered ⟨Nat.le_of_ble_eq_true rfl, Nat.le_of_ble_eq_true rfl⟩) hK hP [0, 1, 2] rfl rfl rfl rfl rfl hl.1 rfl (Nat.le_of_ble_eq_true rfl) dX8_image_55 ⟨Nat.zero_le _, Nat.zero_le _⟩ (fun r55 h55 => ?_)
        subst h55
        exact kr _ (fil (gTo f_ a_) o1_ (f_ 0)) _ _ _ _ dX8_image_58 (vp_nar_int _) ⟨(by unfold qImage; rw [if_pos ⟨ha, bP_iff.mpr (by omega)⟩, if_pos (bZ_iff.mpr c33), ej_, ix_nI (by omega), hxa_]), trivial⟩ hP hD hS
      · skip
        refine lv_bipush (v := (-2)) hx hb dX8_image_36 (by decide) ?_
        exact kr _ o1_ _ _ _ _ dX8_image_38 (vp_nar_int _) ⟨(by unfold qImage; rw [if_pos ⟨bMT_iff.mpr (by omega), bP_iff.mpr (by omega)⟩, if_neg (fun q_ => c33 (bZ_iff.mp q_))]), trivial⟩ hP hD hS
    · skip
      refine lv_iconst (v := (-1)) hx hb dX8_image_21 (by decide) ?_
      exact kr _ o1_ _ _ _ _ dX8_image_22 (vp_nar_int _) ⟨(by unfold qImage; rw [if_neg (fun q_ => c18 (by have := bP_iff.mp q_.2; omega))]), trivial⟩ hP hD hS
abbrev w_X8_commute : List Cond := Cond.code yX8_commute cX8_commute 3 (some .int) :: zAll
abbrev r_X8_commute : Room := { frames := 3, cells := 0, slots := 0, locals := 64 }
theorem zd_X8_commute : yX8_commute.cls = RX8 ∧ yX8_commute.cls ≠ "java/lang/invoke/MethodHandle" ∧ yX8_commute.cls ≠ "java/lang/invoke/VarHandle" ∧ (parseMethodDescriptor yX8_commute.desc).map (fun d => d.parameters.length) = some 2 := by decide +kernel
set_option maxHeartbeats 4000000 in
set_option maxRecDepth 100000 in
theorem c_X8_commute (l : Launch) (D : va_G) (cy : Nat → ClassId) (sz : Nat) (bd : Nat → Nat) (um_ : Nat) (ln_ : Nat) (at_ : Nat) (iw_ : Bool) (f_ : Nat → Nat) (m_ : MT) (o1_ : Nat → Nat) (o2_ : Nat → Nat) (a_ : Int32) (b_ : Int32) (hw : TVok m_.1) (hR : RowR m_.1 f_) : zWi l yX8_commute w_X8_commute r_X8_commute D cy [((bd 0), .inr (5, [.int (nI 0), .ref (bd 1), .ref (bd 2), .int (nI um_), .ref (bd 3), .ref (bd 4), .ref (bd 5), .int (nI ln_), .int (nI at_), .int (if iw_ = true then 1 else 0), .ref (bd 6), .ref (bd 7), .ref (bd 8), .ref (bd 9), .ref (bd 10), .ref (bd 11), .ref (bd 12), .ref (bd 13), .ref (bd 14)])), ((bd 1), .inl (cy 0, 130, .inl (nIf f_))), ((bd 8), .inl (cy 0, 16, .inl (nIf o1_))), ((bd 9), .inl (cy 0, 16, .inl (nIf o2_)))] sz [.ref (bd 0), .int a_, .int b_] (fun (r_ : Int32) (u : (Nat → Nat) × (Nat → Nat)) => r_ = (qCommute m_ a_ b_) ∧ True) (fun u : (Nat → Nat) × (Nat → Nat) => ([((bd 0), .inr (5, [.int (nI 0), .ref (bd 1), .ref (bd 2), .int (nI um_), .ref (bd 3), .ref (bd 4), .ref (bd 5), .int (nI ln_), .int (nI at_), .int (if iw_ = true then 1 else 0), .ref (bd 6), .ref (bd 7), .ref (bd 8), .ref (bd 9), .ref (bd 10), .ref (bd 11), .ref (bd 12), .ref (bd 13), .ref (bd 14)])), ((bd 1), .inl (cy 0, 130, .inl (nIf f_))), ((bd 8), .inl (cy 0, 16, .inl (nIf u.1))), ((bd 9), .inl (cy 0, 16, .inl (nIf u.2)))] : va_W)) := by
  refine zOfW (cc := cX8_commute) (maxL := 3) (ty := .int) (by decide) rfl (Nat.le_of_ble_eq_true rfl) ?_
  intro zp ze zs zm za zb zme zc hx hb hml hts hown hP hK zA hD hA Q kr ls hl
  have hS : va_S zA zs.heap zs.heap [] := va_S.rf
  have hown : zs.vm.findClass RX8 = some zm.cls := hown
  have hl : lv_has ls 3 [(0, .ref (bd 0)), (1, .int a_), (2, .int b_)] := hl
  have hn2 := ok_2 hw
  have hn16 := ok_n hw
  have hC6 := ok_C hw
  have hwP := ok_P hw
  have hf0 : f_ 0 = mN m_ := hR.1
  have hf1 : f_ 1 = mC m_ := hR.2.1
  have hk0_ : (nI 0).toInt = 0 := rfl
  have hk9_ : (nI 999).toInt = 999 := rfl
  have hk8_ : (-999 : Int32).toInt = -999 := rfl
  refine lv_aload_n hx hb dX8_commute_0 rfl (lv_at hl 0 rfl) ?_
  refine lv_iconst (v := nI 0) hx hb dX8_commute_1 (by decide) ?_
  refine va_put (D := D) (ci := 5) (v := .int (nI 0)) (ty := .int) (C := RX8) (T := TX8) (N := 19) hx hb hts (fun w h => List.mem_cons_of_mem _ (zinX8 w h)) tyX8 tyX8_ok nmX8 hown hK.1 hP hD hS 0 rfl rfl 0 (by decide) (hts _ (List.mem_cons_of_mem _ zw_88)) (fun _ h9 => h9) rfl (tyX8_ok 0 (by decide)) rfl rfl (Nat.le_of_ble_eq_true rfl) dX8_commute_2 (fun H locs hP hD hS => ?_)
  have hP : va_P D vwCl [((bd 0), .inr (5, [.int (nI 0), .ref (bd 1), .ref (bd 2), .int (nI um_), .ref (bd 3), .ref (bd 4), .ref (bd 5), .int (nI ln_), .int (nI at_), .int (if iw_ = true then 1 else 0), .ref (bd 6), .ref (bd 7), .ref (bd 8), .ref (bd 9), .ref (bd 10), .ref (bd 11), .ref (bd 12), .ref (bd 13), .ref (bd 14)])), ((bd 1), .inl (cy 0, 130, .inl (nIf f_))), ((bd 8), .inl (cy 0, 16, .inl (nIf o1_))), ((bd 9), .inl (cy 0, 16, .inl (nIf o2_)))] H := hP
  have hD : va_D zA [((bd 0), .inr (5, [.int (nI 0), .ref (bd 1), .ref (bd 2), .int (nI um_), .ref (bd 3), .ref (bd 4), .ref (bd 5), .int (nI ln_), .int (nI at_), .int (if iw_ = true then 1 else 0), .ref (bd 6), .ref (bd 7), .ref (bd 8), .ref (bd 9), .ref (bd 10), .ref (bd 11), .ref (bd 12), .ref (bd 13), .ref (bd 14)])), ((bd 1), .inl (cy 0, 130, .inl (nIf f_))), ((bd 8), .inl (cy 0, 16, .inl (nIf o1_))), ((bd 9), .inl (cy 0, 16, .inl (nIf o2_)))] := hD
  refine lv_aload_n hx hb dX8_commute_5 rfl (lv_at hl 0 rfl) ?_
  refine lv_iload_n hx hb dX8_commute_6 rfl (lv_at hl 1 rfl) ?_
  refine zcRi (As := [.int a_]) (rest := []) ⟨hx, hb, hml, hown, hts⟩ (c_X8_isMarkOrTrick l D cy bd um_ ln_ at_ iw_ f_ a_ (by omega)) (cwV 1 hts (zG_V zw_494 zw_495 zw_496 zw_5 zw_497) rfl rfl rfl zd_X8_isMarkOrTrick ⟨Nat.le_of_ble_eq_true rfl, Nat.le_of_ble_eq_true rfl⟩) hK hP [0, 1] rfl rfl rfl rfl rfl hl.1 rfl (Nat.le_of_ble_eq_true rfl) dX8_commute_7 ⟨Nat.zero_le _, Nat.zero_le _⟩ (fun r7 h7 => ?_)
  subst h7
  refine zq_eq (tgt := 21) hx hb dX8_commute_10 (by decide) (fun c10 => ?_) (fun c10 => ?_)
  · skip
    refine lv_iconst (v := (-1)) hx hb dX8_commute_21 (by decide) ?_
    exact kr _ (o1_, o2_) _ _ _ _ dX8_commute_22 (vp_nar_int _) ⟨(by unfold qCommute; rw [if_neg (fun q_ => c10 (by have := bMT_iff.mp q_.1; omega))]), trivial⟩ hP hD hS
  · skip
    refine lv_aload_n hx hb dX8_commute_13 rfl (lv_at hl 0 rfl) ?_
    refine lv_iload_n hx hb dX8_commute_14 rfl (lv_at hl 2 rfl) ?_
    refine zcRi (As := [.int b_]) (rest := []) ⟨hx, hb, hml, hown, hts⟩ (c_X8_isMarkOrTrick l D cy bd um_ ln_ at_ iw_ f_ b_ (by omega)) (cwV 1 hts (zG_V zw_494 zw_495 zw_496 zw_5 zw_497) rfl rfl rfl zd_X8_isMarkOrTrick ⟨Nat.le_of_ble_eq_true rfl, Nat.le_of_ble_eq_true rfl⟩) hK hP [0, 1] rfl rfl rfl rfl rfl hl.1 rfl (Nat.le_of_ble_eq_true rfl) dX8_commute_15 ⟨Nat.zero_le _, Nat.zero_le _⟩ (fun r15 h15 => ?_)
    subst h15
    refine zq_ne (tgt := 23) hx hb dX8_commute_18 (by decide) (fun c18 => ?_) (fun c18 => ?_)
    · skip
      have ha : bMT m_ a_ = true := bMT_iff.mpr (by omega)
      obtain ⟨xa_, hxa_⟩ : ∃ zz_, zz_ = mkT m_ a_ := ⟨_, rfl⟩
      have hXa := fetch_K hR ha o1_
      have hwa := mkT_WF hw ha
      rw [← hxa_] at hXa
      rw [← hf0, ← hxa_] at hwa
      have hbb : bMT m_ b_ = true := bMT_iff.mpr (by omega)
      obtain ⟨xb_, hxb_⟩ : ∃ zz_, zz_ = mkT m_ b_ := ⟨_, rfl⟩
      have hXbb := fetch_K hR hbb o2_
      have hwbb := mkT_WF hw hbb
      rw [← hxb_] at hXbb
      rw [← hf0, ← hxb_] at hwbb
      have hcm := com_iff (by omega) hXa hXbb hwa hwbb
      have hrl_ : ∀ z_, z_ < f_ 0 → fil (gTo f_ a_) o1_ (f_ 0) z_ < f_ 0 ∧ fil (gTo f_ b_) o2_ (f_ 0) z_ < f_ 0 := fun z_ hz_ => ⟨RowX.lt hXa hwa (by omega) hz_, RowX.lt hXbb hwbb (by omega) hz_⟩
      refine lv_aload_n hx hb dX8_commute_23 rfl (lv_at hl 0 rfl) ?_
      refine lv_aload_n hx hb dX8_commute_24 rfl (lv_at hl 0 rfl) ?_
      refine va_get (D := D) (ci := 5) (v := .ref (bd 8)) (C := RX8) (T := TX8) (N := 19) hx hb hts (fun w h => List.mem_cons_of_mem _ (zinX8 w h)) hown hK.1 hP 0 rfl rfl 12 (by decide) (hts _ (List.mem_cons_of_mem _ zw_81)) (fun _ h9 => h9) rfl dX8_commute_25 ?_
      refine lv_iload_n hx hb dX8_commute_28 rfl (lv_at hl 1 rfl) ?_
      refine zcWv (As := [.ref (bd 8), .int a_]) (rest := []) (wr := [((bd 9), .inl (cy 0, 16, .inl (nIf o2_)))]) ⟨hx, hb, hml, hown, hts⟩ (c_X8_fetches l D cy H.size bd um_ ln_ at_ iw_ f_ (bd 8) o1_ a_ (by omega) (by rcases bMT_iff.mp ha with q_ | q_; exact Or.inl q_; exact Or.inr ⟨q_.1, by omega⟩)) (cwV 2 hts (zG_V zw_257 zw_258 zw_259 zw_5 zw_260) rfl rfl rfl zd_X8_fetches ⟨Nat.le_of_ble_eq_true rfl, Nat.le_of_ble_eq_true rfl⟩) hK hP hD hS hA [0, 1, 2] [3] [1, 2, 3, 0] rfl (by decide) rfl (by decide) (by decide) (w2 := (fun u_ : Unit => ([((bd 0), .inr (5, [.int (nI 0), .ref (bd 1), .ref (bd 2), .int (nI um_), .ref (bd 3), .ref (bd 4), .ref (bd 5), .int (nI ln_), .int (nI at_), .int (if iw_ = true then 1 else 0), .ref (bd 6), .ref (bd 7), .ref (bd 8), .ref (bd 9), .ref (bd 10), .ref (bd 11), .ref (bd 12), .ref (bd 13), .ref (bd 14)])), ((bd 1), .inl (cy 0, 130, .inl (nIf f_))), ((bd 8), .inl (cy 0, 16, .inl (nIf (fil (gTo f_ a_) o1_ (f_ 0))))), ((bd 9), .inl (cy 0, 16, .inl (nIf o2_)))] : va_W))) (fun _ => rfl) (by decide) rfl rfl rfl rfl hl.1 rfl (Nat.le_of_ble_eq_true rfl) dX8_commute_29 ⟨Nat.zero_le _, Nat.zero_le _⟩ (fun  u29 H locs h29 hP hD hS => ?_)
      have h29 : True := h29
      have hP : va_P D vwCl [((bd 0), .inr (5, [.int (nI 0), .ref (bd 1), .ref (bd 2), .int (nI um_), .ref (bd 3), .ref (bd 4), .ref (bd 5), .int (nI ln_), .int (nI at_), .int (if iw_ = true then 1 else 0), .ref (bd 6), .ref (bd 7), .ref (bd 8), .ref (bd 9), .ref (bd 10), .ref (bd 11), .ref (bd 12), .ref (bd 13), .ref (bd 14)])), ((bd 1), .inl (cy 0, 130, .inl (nIf f_))), ((bd 8), .inl (cy 0, 16, .inl (nIf (fil (gTo f_ a_) o1_ (f_ 0))))), ((bd 9), .inl (cy 0, 16, .inl (nIf o2_)))] H := hP
      have hD : va_D zA [((bd 0), .inr (5, [.int (nI 0), .ref (bd 1), .ref (bd 2), .int (nI um_), .ref (bd 3), .ref (bd 4), .ref (bd 5), .int (nI ln_), .int (nI at_), .int (if iw_ = true then 1 else 0), .ref (bd 6), .ref (bd 7), .ref (bd 8), .ref (bd 9), .ref (bd 10), .ref (bd 11), .ref (bd 12), .ref (bd 13), .ref (bd 14)])), ((bd 1), .inl (cy 0, 130, .inl (nIf f_))), ((bd 8), .inl (cy 0, 16, .inl (nIf (fil (gTo f_ a_) o1_ (f_ 0))))), ((bd 9), .inl (cy 0, 16, .inl (nIf o2_)))] := hD
      refine lv_aload_n hx hb dX8_commute_32 rfl (lv_at hl 0 rfl) ?_
      refine lv_aload_n hx hb dX8_commute_33 rfl (lv_at hl 0 rfl) ?_
      refine va_get (D := D) (ci := 5) (v := .ref (bd 9)) (C := RX8) (T := TX8) (N := 19) hx hb hts (fun w h => List.mem_cons_of_mem _ (zinX8 w h)) hown hK.1 hP 0 rfl rfl 13 (by decide) (hts _ (List.mem_cons_of_mem _ zw_82)) (fun _ h9 => h9) rfl dX8_commute_34 ?_
      refine lv_iload_n hx hb dX8_commute_37 rfl (lv_at hl 2 rfl) ?_
      refine zcWv (As := [.ref (bd 9), .int b_]) (rest := []) (wr := [((bd 8), .inl (cy 0, 16, .inl (nIf (fil (gTo f_ a_) o1_ (f_ 0)))))]) ⟨hx, hb, hml, hown, hts⟩ (c_X8_fetches l D cy H.size bd um_ ln_ at_ iw_ f_ (bd 9) o2_ b_ (by omega) (by rcases bMT_iff.mp hbb with q_ | q_; exact Or.inl q_; exact Or.inr ⟨q_.1, by omega⟩)) (cwV 2 hts (zG_V zw_257 zw_258 zw_259 zw_5 zw_260) rfl rfl rfl zd_X8_fetches ⟨Nat.le_of_ble_eq_true rfl, Nat.le_of_ble_eq_true rfl⟩) hK hP hD hS hA [0, 1, 3] [2] [1, 2, 0, 3] rfl (by decide) rfl (by decide) (by decide) (w2 := (fun u_ : Unit => ([((bd 0), .inr (5, [.int (nI 0), .ref (bd 1), .ref (bd 2), .int (nI um_), .ref (bd 3), .ref (bd 4), .ref (bd 5), .int (nI ln_), .int (nI at_), .int (if iw_ = true then 1 else 0), .ref (bd 6), .ref (bd 7), .ref (bd 8), .ref (bd 9), .ref (bd 10), .ref (bd 11), .ref (bd 12), .ref (bd 13), .ref (bd 14)])), ((bd 1), .inl (cy 0, 130, .inl (nIf f_))), ((bd 8), .inl (cy 0, 16, .inl (nIf (fil (gTo f_ a_) o1_ (f_ 0))))), ((bd 9), .inl (cy 0, 16, .inl (nIf (fil (gTo f_ b_) o2_ (f_ 0)))))] : va_W))) (fun _ => rfl) (by decide) rfl rfl rfl rfl hl.1 rfl (Nat.le_of_ble_eq_true rfl) dX8_commute_38 ⟨Nat.zero_le _, Nat.zero_le _⟩ (fun  u38 H locs h38 hP hD hS => ?_)
      have h38 : True := h38
      have hP : va_P D vwCl [((bd 0), .inr (5, [.int (nI 0), .ref (bd 1), .ref (bd 2), .int (nI um_), .ref (bd 3), .ref (bd 4), .ref (bd 5), .int (nI ln_), .int (nI at_), .int (if iw_ = true then 1 else 0), .ref (bd 6), .ref (bd 7), .ref (bd 8), .ref (bd 9), .ref (bd 10), .ref (bd 11), .ref (bd 12), .ref (bd 13), .ref (bd 14)])), ((bd 1), .inl (cy 0, 130, .inl (nIf f_))), ((bd 8), .inl (cy 0, 16, .inl (nIf (fil (gTo f_ a_) o1_ (f_ 0))))), ((bd 9), .inl (cy 0, 16, .inl (nIf (fil (gTo f_ b_) o2_ (f_ 0)))))] H := hP
      have hD : va_D zA [((bd 0), .inr (5, [.int (nI 0), .ref (bd 1), .ref (bd 2), .int (nI um_), .ref (bd 3), .ref (bd 4), .ref (bd 5), .int (nI ln_), .int (nI at_), .int (if iw_ = true then 1 else 0), .ref (bd 6), .ref (bd 7), .ref (bd 8), .ref (bd 9), .ref (bd 10), .ref (bd 11), .ref (bd 12), .ref (bd 13), .ref (bd 14)])), ((bd 1), .inl (cy 0, 130, .inl (nIf f_))), ((bd 8), .inl (cy 0, 16, .inl (nIf (fil (gTo f_ a_) o1_ (f_ 0))))), ((bd 9), .inl (cy 0, 16, .inl (nIf (fil (gTo f_ b_) o2_ (f_ 0)))))] := hD
      refine lv_aload_n hx hb dX8_commute_41 rfl (lv_at hl 0 rfl) ?_
      refine lv_aload_n hx hb dX8_commute_42 rfl (lv_at hl 0 rfl) ?_
      refine va_get (D := D) (ci := 5) (v := .ref (bd 8)) (C := RX8) (T := TX8) (N := 19) hx hb hts (fun w h => List.mem_cons_of_mem _ (zinX8 w h)) hown hK.1 hP 0 rfl rfl 12 (by decide) (hts _ (List.mem_cons_of_mem _ zw_81)) (fun _ h9 => h9) rfl dX8_commute_43 ?_
      refine lv_aload_n hx hb dX8_commute_46 rfl (lv_at hl 0 rfl) ?_
      refine va_get (D := D) (ci := 5) (v := .ref (bd 9)) (C := RX8) (T := TX8) (N := 19) hx hb hts (fun w h => List.mem_cons_of_mem _ (zinX8 w h)) hown hK.1 hP 0 rfl rfl 13 (by decide) (hts _ (List.mem_cons_of_mem _ zw_82)) (fun _ h9 => h9) rfl dX8_commute_47 ?_
      refine zcRi (As := [.ref (bd 8), .ref (bd 9)]) (rest := []) ⟨hx, hb, hml, hown, hts⟩ (c_X8_doCommute l D cy bd um_ ln_ at_ iw_ f_ (bd 8) (fil (gTo f_ a_) o1_ (f_ 0)) (bd 9) (fil (gTo f_ b_) o2_ (f_ 0)) (by omega) (fun z_ hz_ => by have := hrl_ z_ hz_; omega) hrl_) (cwV 2 hts (zG_V zw_521 zw_522 zw_523 zw_5 zw_524) rfl rfl rfl zd_X8_doCommute ⟨Nat.le_of_ble_eq_true rfl, Nat.le_of_ble_eq_true rfl⟩) hK hP [0, 1, 2, 3] rfl rfl rfl rfl rfl hl.1 rfl (Nat.le_of_ble_eq_true rfl) dX8_commute_50 ⟨Nat.zero_le _, Nat.zero_le _⟩ (fun r50 h50 => ?_)
      subst h50
      refine zq_eq (tgt := 60) hx hb dX8_commute_53 (by decide) (fun c53 => ?_) (fun c53 => ?_)
      · skip
        refine lv_iconst (v := nI 0) hx hb dX8_commute_60 (by decide) ?_
        exact kr _ ((fil (gTo f_ a_) o1_ (f_ 0)), (fil (gTo f_ b_) o2_ (f_ 0))) _ _ _ _ dX8_commute_61 (vp_nar_int _) ⟨(by unfold qCommute; rw [if_pos ⟨ha, hbb⟩, ← hxa_, ← hxb_, if_neg (fun q_ => c53 (hcm.mpr q_))]; rfl), trivial⟩ hP hD hS
      · skip
        refine lv_iconst (v := nI 1) hx hb dX8_commute_56 (by decide) ?_
        refine lv_goto (tgt := 61) hx hb dX8_commute_57 (by decide) ?_
        exact kr _ ((fil (gTo f_ a_) o1_ (f_ 0)), (fil (gTo f_ b_) o2_ (f_ 0))) _ _ _ _ dX8_commute_61 (vp_nar_int _) ⟨(by unfold qCommute; rw [if_pos ⟨ha, hbb⟩, ← hxa_, ← hxb_, if_pos (hcm.mp c53)]; rfl), trivial⟩ hP hD hS
    · skip
      refine lv_iconst (v := (-1)) hx hb dX8_commute_21 (by decide) ?_
      exact kr _ (o1_, o2_) _ _ _ _ dX8_commute_22 (vp_nar_int _) ⟨(by unfold qCommute; rw [if_neg (fun q_ => c18 (by have := bMT_iff.mp q_.2; omega))]), trivial⟩ hP hD hS
abbrev w_X8_cutsWith : List Cond := Cond.code yX8_cutsWith cX8_cutsWith 4 (some .int) :: zAll
abbrev r_X8_cutsWith : Room := { frames := 1, cells := 0, slots := 0, locals := 24 }
theorem zd_X8_cutsWith : yX8_cutsWith.cls = RX8 ∧ yX8_cutsWith.cls ≠ "java/lang/invoke/MethodHandle" ∧ yX8_cutsWith.cls ≠ "java/lang/invoke/VarHandle" ∧ (parseMethodDescriptor yX8_cutsWith.desc).map (fun d => d.parameters.length) = some 1 := by decide +kernel
set_option maxHeartbeats 4000000 in
set_option maxRecDepth 100000 in
theorem c_X8_cutsWith (l : Launch) (D : va_G) (cy : Nat → ClassId) (sz : Nat) (bd : Nat → Nat) (um_ : Nat) (ln_ : Nat) (at_ : Nat) (iw_ : Bool) (f_ : Nat → Nat) (ra_ : Nat) (rc_ : Nat → Nat) (x_ : Int64) (o2_ : Nat → Nat) (hN_ : f_ 0 ≤ 16) (hr_ : RowX (f_ 0) rc_ x_) (hwx : WF (f_ 0) x_) : zWi l yX8_cutsWith w_X8_cutsWith r_X8_cutsWith D cy [((bd 0), .inr (5, [.int (nI 0), .ref (bd 1), .ref (bd 2), .int (nI um_), .ref (bd 3), .ref (bd 4), .ref (bd 5), .int (nI ln_), .int (nI at_), .int (if iw_ = true then 1 else 0), .ref (bd 6), .ref (bd 7), .ref (bd 8), .ref (bd 9), .ref (bd 10), .ref (bd 11), .ref (bd 12), .ref (bd 13), .ref (bd 14)])), ((bd 1), .inl (cy 0, 130, .inl (nIf f_))), (ra_, .inl (cy 0, 16, .inl (nIf rc_))), ((bd 9), .inl (cy 0, 16, .inl (nIf o2_)))] sz [.ref (bd 0), .ref ra_] (fun (r_ : Int32) (u : (Nat → Nat)) => r_ = (nI (cutM x_ (f_ 0) (f_ 0))) ∧ True) (fun u : (Nat → Nat) => ([((bd 0), .inr (5, [.int (nI 0), .ref (bd 1), .ref (bd 2), .int (nI um_), .ref (bd 3), .ref (bd 4), .ref (bd 5), .int (nI ln_), .int (nI at_), .int (if iw_ = true then 1 else 0), .ref (bd 6), .ref (bd 7), .ref (bd 8), .ref (bd 9), .ref (bd 10), .ref (bd 11), .ref (bd 12), .ref (bd 13), .ref (bd 14)])), ((bd 1), .inl (cy 0, 130, .inl (nIf f_))), (ra_, .inl (cy 0, 16, .inl (nIf rc_))), ((bd 9), .inl (cy 0, 16, .inl (nIf u)))] : va_W)) := by
  refine zOfW (cc := cX8_cutsWith) (maxL := 4) (ty := .int) (by decide) rfl (Nat.le_of_ble_eq_true rfl) ?_
  intro zp ze zs zm za zb zme zc hx hb hml hts hown hP hK zA hD hA Q kr ls hl
  have hS : va_S zA zs.heap zs.heap [] := va_S.rf
  have hown : zs.vm.findClass RX8 = some zm.cls := hown
  have hl : lv_has ls 4 [(0, .ref (bd 0)), (1, .ref ra_)] := hl
  refine lv_iconst (v := nI 0) hx hb dX8_cutsWith_0 (by decide) ?_
  refine zi_top (v := nI (cutM x_ (f_ 0) 0)) rfl ?_
  refine lv_istore_n (lv' := [(2, .int (nI (cutM x_ (f_ 0) 0))), (0, .ref (bd 0)), (1, .ref ra_)]) hx hb dX8_cutsWith_1 rfl hl (by decide) rfl (fun ls hl => ?_)
  refine lv_iconst (v := nI 0) hx hb dX8_cutsWith_2 (by decide) ?_
  refine lv_istore_n (lv' := [(3, .int (nI 0)), (2, .int (nI (cutM x_ (f_ 0) 0))), (0, .ref (bd 0)), (1, .ref ra_)]) hx hb dX8_cutsWith_3 rfl hl (by decide) rfl (fun ls hl => ?_)
  have L4 : ∀ (kf_ : Nat) (i_ : Nat) (o2_ : Nat → Nat) (hi : i_ ≤ f_ 0), f_ 0 - i_ < kf_ → ∀ (H : Heap) (locs : List Loc), va_P D vwCl [((bd 0), .inr (5, [.int (nI 0), .ref (bd 1), .ref (bd 2), .int (nI um_), .ref (bd 3), .ref (bd 4), .ref (bd 5), .int (nI ln_), .int (nI at_), .int (if iw_ = true then 1 else 0), .ref (bd 6), .ref (bd 7), .ref (bd 8), .ref (bd 9), .ref (bd 10), .ref (bd 11), .ref (bd 12), .ref (bd 13), .ref (bd 14)])), ((bd 1), .inl (cy 0, 130, .inl (nIf f_))), (ra_, .inl (cy 0, 16, .inl (nIf rc_))), ((bd 9), .inl (cy 0, 16, .inl (nIf o2_)))] H → va_D zA [((bd 0), .inr (5, [.int (nI 0), .ref (bd 1), .ref (bd 2), .int (nI um_), .ref (bd 3), .ref (bd 4), .ref (bd 5), .int (nI ln_), .int (nI at_), .int (if iw_ = true then 1 else 0), .ref (bd 6), .ref (bd 7), .ref (bd 8), .ref (bd 9), .ref (bd 10), .ref (bd 11), .ref (bd 12), .ref (bd 13), .ref (bd 14)])), ((bd 1), .inl (cy 0, 130, .inl (nIf f_))), (ra_, .inl (cy 0, 16, .inl (nIf rc_))), ((bd 9), .inl (cy 0, 16, .inl (nIf o2_)))] → va_S zA zs.heap H locs → ∀ ls : Array Slot, lv_has ls 4 [(0, .ref (bd 0)), (1, .ref ra_), (2, .int (nI (cutM x_ (f_ 0) i_))), (3, .int (nI i_))] → W zp l ze r_X8_cutsWith zs zm za zb zme zc H locs 0 0 Q (F0 zm 4 ls []) := by
    intro kf_
    induction kf_ with
    | zero => intro i_ o2_ hi hk_; exact absurd hk_ (Nat.not_lt_zero _)
    | succ kf_ ih4 =>
      intro i_ o2_ hi hk_ H locs hP hD hS ls hl
      refine lv_iload_n hx hb dX8_cutsWith_4 rfl (lv_at hl 3 rfl) ?_
      refine lv_aload_n hx hb dX8_cutsWith_5 rfl (lv_at hl 0 rfl) ?_
      refine va_get (D := D) (ci := 5) (v := .ref (bd 1)) (C := RX8) (T := TX8) (N := 19) hx hb hts (fun w h => List.mem_cons_of_mem _ (zinX8 w h)) hown hK.1 hP 0 rfl rfl 1 (by decide) (hts _ (List.mem_cons_of_mem _ zw_74)) (fun _ h9 => h9) rfl dX8_cutsWith_6 ?_
      refine lv_iconst (v := nI 0) hx hb dX8_cutsWith_9 (by decide) ?_
      refine zi_iald (v := nI (f_ 0)) hx hb hK hP 1 rfl (by omega) (by omega) rfl dX8_cutsWith_10 ?_
      refine zb_ge (a := i_) (b := f_ 0) (tgt := 51) hx hb dX8_cutsWith_11 (by decide) (by omega) (by omega) (fun c11 => ?_) (fun c11 => ?_)
      · skip
        refine lv_iload_n hx hb dX8_cutsWith_51 rfl (lv_at hl 2 rfl) ?_
        exact kr _ o2_ _ _ _ _ dX8_cutsWith_52 (vp_nar_int _) ⟨(by rw [show i_ = f_ 0 by omega]), trivial⟩ hP hD hS
      · skip
        refine lv_aload_n hx hb dX8_cutsWith_14 rfl (lv_at hl 0 rfl) ?_
        refine lv_aload_n hx hb dX8_cutsWith_15 rfl (lv_at hl 0 rfl) ?_
        refine va_get (D := D) (ci := 5) (v := .ref (bd 9)) (C := RX8) (T := TX8) (N := 19) hx hb hts (fun w h => List.mem_cons_of_mem _ (zinX8 w h)) hown hK.1 hP 0 rfl rfl 13 (by decide) (hts _ (List.mem_cons_of_mem _ zw_82)) (fun _ h9 => h9) rfl dX8_cutsWith_16 ?_
        refine lv_iload_n hx hb dX8_cutsWith_19 rfl (lv_at hl 3 rfl) ?_
        refine zcWv (As := [.ref (bd 9), .int (nI i_)]) (rest := []) (wr := [(ra_, .inl (cy 0, 16, .inl (nIf rc_)))]) ⟨hx, hb, hml, hown, hts⟩ (c_X8_laysCut l D cy H.size bd um_ ln_ at_ iw_ f_ (bd 9) o2_ i_ (by omega) (by omega)) (cwV 2 hts (zG_V zw_357 zw_358 zw_359 zw_5 zw_360) rfl rfl rfl zd_X8_laysCut ⟨Nat.le_of_ble_eq_true rfl, Nat.le_of_ble_eq_true rfl⟩) hK hP hD hS hA [0, 1, 3] [2] [1, 2, 0, 3] rfl (by decide) rfl (by decide) (by decide) (w2 := (fun u_ : Unit => ([((bd 0), .inr (5, [.int (nI 0), .ref (bd 1), .ref (bd 2), .int (nI um_), .ref (bd 3), .ref (bd 4), .ref (bd 5), .int (nI ln_), .int (nI at_), .int (if iw_ = true then 1 else 0), .ref (bd 6), .ref (bd 7), .ref (bd 8), .ref (bd 9), .ref (bd 10), .ref (bd 11), .ref (bd 12), .ref (bd 13), .ref (bd 14)])), ((bd 1), .inl (cy 0, 130, .inl (nIf f_))), (ra_, .inl (cy 0, 16, .inl (nIf rc_))), ((bd 9), .inl (cy 0, 16, .inl (nIf (fil (cutF i_ (f_ 0)) o2_ (f_ 0)))))] : va_W))) (fun _ => rfl) (by decide) rfl rfl rfl rfl hl.1 rfl (Nat.le_of_ble_eq_true rfl) dX8_cutsWith_20 ⟨Nat.zero_le _, Nat.zero_le _⟩ (fun  u20 H locs h20 hP hD hS => ?_)
        have h20 : True := h20
        have hP : va_P D vwCl [((bd 0), .inr (5, [.int (nI 0), .ref (bd 1), .ref (bd 2), .int (nI um_), .ref (bd 3), .ref (bd 4), .ref (bd 5), .int (nI ln_), .int (nI at_), .int (if iw_ = true then 1 else 0), .ref (bd 6), .ref (bd 7), .ref (bd 8), .ref (bd 9), .ref (bd 10), .ref (bd 11), .ref (bd 12), .ref (bd 13), .ref (bd 14)])), ((bd 1), .inl (cy 0, 130, .inl (nIf f_))), (ra_, .inl (cy 0, 16, .inl (nIf rc_))), ((bd 9), .inl (cy 0, 16, .inl (nIf (fil (cutF i_ (f_ 0)) o2_ (f_ 0)))))] H := hP
        have hD : va_D zA [((bd 0), .inr (5, [.int (nI 0), .ref (bd 1), .ref (bd 2), .int (nI um_), .ref (bd 3), .ref (bd 4), .ref (bd 5), .int (nI ln_), .int (nI at_), .int (if iw_ = true then 1 else 0), .ref (bd 6), .ref (bd 7), .ref (bd 8), .ref (bd 9), .ref (bd 10), .ref (bd 11), .ref (bd 12), .ref (bd 13), .ref (bd 14)])), ((bd 1), .inl (cy 0, 130, .inl (nIf f_))), (ra_, .inl (cy 0, 16, .inl (nIf rc_))), ((bd 9), .inl (cy 0, 16, .inl (nIf (fil (cutF i_ (f_ 0)) o2_ (f_ 0)))))] := hD
        have hbc := bec_iff (k := i_) hN_ (by omega) hr_ (q := fil (cutF i_ (f_ 0)) o2_ (f_ 0)) (fun p_ hp_ => fil_in hp_) hwx
        have hrl_ : ∀ z_, z_ < f_ 0 → rc_ z_ < f_ 0 ∧ fil (cutF i_ (f_ 0)) o2_ (f_ 0) z_ < f_ 0 := fun z_ hz_ => ⟨RowX.lt hr_ hwx hN_ hz_, by rw [fil_in hz_]; exact cutF_lt (by omega) hz_⟩
        refine lv_iload_n hx hb dX8_cutsWith_23 rfl (lv_at hl 2 rfl) ?_
        refine lv_aload_n hx hb dX8_cutsWith_24 rfl (lv_at hl 0 rfl) ?_
        refine lv_aload_n hx hb dX8_cutsWith_25 rfl (lv_at hl 1 rfl) ?_
        refine lv_aload_n hx hb dX8_cutsWith_26 rfl (lv_at hl 0 rfl) ?_
        refine va_get (D := D) (ci := 5) (v := .ref (bd 9)) (C := RX8) (T := TX8) (N := 19) hx hb hts (fun w h => List.mem_cons_of_mem _ (zinX8 w h)) hown hK.1 hP 0 rfl rfl 13 (by decide) (hts _ (List.mem_cons_of_mem _ zw_82)) (fun _ h9 => h9) rfl dX8_cutsWith_27 ?_
        refine zcRi (As := [.ref ra_, .ref (bd 9)]) (rest := [.int (nI (cutM x_ (f_ 0) i_))]) ⟨hx, hb, hml, hown, hts⟩ (c_X8_doCommute l D cy bd um_ ln_ at_ iw_ f_ ra_ rc_ (bd 9) (fil (cutF i_ (f_ 0)) o2_ (f_ 0)) (by omega) (fun z_ hz_ => by have := hrl_ z_ hz_; omega) hrl_) (cwV 2 hts (zG_V zw_521 zw_522 zw_523 zw_5 zw_524) rfl rfl rfl zd_X8_doCommute ⟨Nat.le_of_ble_eq_true rfl, Nat.le_of_ble_eq_true rfl⟩) hK hP [0, 1, 2, 3] rfl rfl rfl rfl rfl hl.1 rfl (Nat.le_of_ble_eq_true rfl) dX8_cutsWith_30 ⟨Nat.zero_le _, Nat.zero_le _⟩ (fun r30 h30 => ?_)
        subst h30
        refine zq_eq (tgt := 42) hx hb dX8_cutsWith_33 (by decide) (fun c33 => ?_) (fun c33 => ?_)
        · skip
          refine lv_iconst (v := nI 0) hx hb dX8_cutsWith_42 (by decide) ?_
          refine zi_or (v := nI (cutM x_ (f_ 0) (i_ + 1))) hx hb dX8_cutsWith_43 ((fa_or _ _).trans ((congrArg nI (Nat.or_zero _)).trans (cutM_no (fun q_ => c33 (hbc.mpr q_))))) ?_
          refine lv_istore_n (lv' := [(2, .int (nI (cutM x_ (f_ 0) (i_ + 1)))), (0, .ref (bd 0)), (1, .ref ra_), (3, .int (nI i_))]) hx hb dX8_cutsWith_44 rfl hl (by decide) rfl (fun ls hl => ?_)
          refine lv_iinc (v := nI (i_ + 1)) (lv' := [(3, .int (nI (i_ + 1))), (2, .int (nI (cutM x_ (f_ 0) (i_ + 1)))), (0, .ref (bd 0)), (1, .ref ra_)]) hx hb dX8_cutsWith_45 hl (k := 3) rfl (nI_1 _) (by decide) rfl (fun ls hl => ?_)
          refine lv_goto (tgt := 4) hx hb dX8_cutsWith_48 (by decide) ?_
          exact ih4 (i_ + 1) (fil (cutF i_ (f_ 0)) o2_ (f_ 0)) (by omega) (by omega) _ _ hP hD hS _ (lv_sub hl [2, 3, 1, 0] rfl)
        · skip
          refine lv_iconst (v := nI 1) hx hb dX8_cutsWith_36 (by decide) ?_
          refine lv_iload_n hx hb dX8_cutsWith_37 rfl (lv_at hl 3 rfl) ?_
          refine zi_shl (v := nI (2 ^ i_)) hx hb dX8_cutsWith_38 (zz_shl1 (by omega)) ?_
          refine lv_goto (tgt := 43) hx hb dX8_cutsWith_39 (by decide) ?_
          refine zi_or (v := nI (cutM x_ (f_ 0) (i_ + 1))) hx hb dX8_cutsWith_43 (cutM_yes (hbc.mp c33)) ?_
          refine lv_istore_n (lv' := [(2, .int (nI (cutM x_ (f_ 0) (i_ + 1)))), (0, .ref (bd 0)), (1, .ref ra_), (3, .int (nI i_))]) hx hb dX8_cutsWith_44 rfl hl (by decide) rfl (fun ls hl => ?_)
          refine lv_iinc (v := nI (i_ + 1)) (lv' := [(3, .int (nI (i_ + 1))), (2, .int (nI (cutM x_ (f_ 0) (i_ + 1)))), (0, .ref (bd 0)), (1, .ref ra_)]) hx hb dX8_cutsWith_45 hl (k := 3) rfl (nI_1 _) (by decide) rfl (fun ls hl => ?_)
          refine lv_goto (tgt := 4) hx hb dX8_cutsWith_48 (by decide) ?_
          exact ih4 (i_ + 1) (fil (cutF i_ (f_ 0)) o2_ (f_ 0)) (by omega) (by omega) _ _ hP hD hS _ (lv_sub hl [2, 3, 1, 0] rfl)
  exact L4 (f_ 0 - 0 + 1) 0 o2_ (Nat.zero_le _) (Nat.lt_succ_self _) _ _ hP hD hS _ (lv_sub hl [2, 3, 1, 0] rfl)
abbrev w_X8_markAs : List Cond := Cond.code yX8_markAs cX8_markAs 3 (some .int) :: zAll
abbrev r_X8_markAs : Room := { frames := 2, cells := 0, slots := 0, locals := 45 }
theorem zd_X8_markAs : yX8_markAs.cls = RX8 ∧ yX8_markAs.cls ≠ "java/lang/invoke/MethodHandle" ∧ yX8_markAs.cls ≠ "java/lang/invoke/VarHandle" ∧ (parseMethodDescriptor yX8_markAs.desc).map (fun d => d.parameters.length) = some 1 := by decide +kernel
set_option maxHeartbeats 4000000 in
set_option maxRecDepth 100000 in
theorem c_X8_markAs (l : Launch) (D : va_G) (cy : Nat → ClassId) (sz : Nat) (bd : Nat → Nat) (um_ : Nat) (ln_ : Nat) (at_ : Nat) (iw_ : Bool) (f_ : Nat → Nat) (m_ : MT) (ra_ : Nat) (rc_ : Nat → Nat) (x_ : Int64) (o3_ : Nat → Nat) (hw : TVok m_.1) (hR : RowR m_.1 f_) (hr_ : RowX (f_ 0) rc_ x_) (hwx : WF (f_ 0) x_) : zWi l yX8_markAs w_X8_markAs r_X8_markAs D cy [((bd 0), .inr (5, [.int (nI 0), .ref (bd 1), .ref (bd 2), .int (nI um_), .ref (bd 3), .ref (bd 4), .ref (bd 5), .int (nI ln_), .int (nI at_), .int (if iw_ = true then 1 else 0), .ref (bd 6), .ref (bd 7), .ref (bd 8), .ref (bd 9), .ref (bd 10), .ref (bd 11), .ref (bd 12), .ref (bd 13), .ref (bd 14)])), ((bd 1), .inl (cy 0, 130, .inl (nIf f_))), (ra_, .inl (cy 0, 16, .inl (nIf rc_))), ((bd 10), .inl (cy 0, 16, .inl (nIf o3_)))] sz [.ref (bd 0), .ref ra_] (fun (r_ : Int32) (u : (Nat → Nat)) => r_ = (lowM (mM m_) (mC m_) x_) ∧ True) (fun u : (Nat → Nat) => ([((bd 0), .inr (5, [.int (nI 0), .ref (bd 1), .ref (bd 2), .int (nI um_), .ref (bd 3), .ref (bd 4), .ref (bd 5), .int (nI ln_), .int (nI at_), .int (if iw_ = true then 1 else 0), .ref (bd 6), .ref (bd 7), .ref (bd 8), .ref (bd 9), .ref (bd 10), .ref (bd 11), .ref (bd 12), .ref (bd 13), .ref (bd 14)])), ((bd 1), .inl (cy 0, 130, .inl (nIf f_))), (ra_, .inl (cy 0, 16, .inl (nIf rc_))), ((bd 10), .inl (cy 0, 16, .inl (nIf u)))] : va_W)) := by
  refine zOfW (cc := cX8_markAs) (maxL := 3) (ty := .int) (by decide) rfl (Nat.le_of_ble_eq_true rfl) ?_
  intro zp ze zs zm za zb zme zc hx hb hml hts hown hP hK zA hD hA Q kr ls hl
  have hS : va_S zA zs.heap zs.heap [] := va_S.rf
  have hown : zs.vm.findClass RX8 = some zm.cls := hown
  have hl : lv_has ls 3 [(0, .ref (bd 0)), (1, .ref ra_)] := hl
  have hn2 := ok_2 hw
  have hn16 := ok_n hw
  have hC6 := ok_C hw
  have hwP := ok_P hw
  have hf0 : f_ 0 = mN m_ := hR.1
  have hf1 : f_ 1 = mC m_ := hR.2.1
  have hk0_ : (nI 0).toInt = 0 := rfl
  have hk9_ : (nI 999).toInt = 999 := rfl
  have hk8_ : (-999 : Int32).toInt = -999 := rfl
  refine lv_iconst (v := nI 0) hx hb dX8_markAs_0 (by decide) ?_
  refine lv_istore_n (lv' := [(2, .int (nI 0)), (0, .ref (bd 0)), (1, .ref ra_)]) hx hb dX8_markAs_1 rfl hl (by decide) rfl (fun ls hl => ?_)
  have L2 : ∀ (kf_ : Nat) (i_ : Nat) (o3_ : Nat → Nat) (hi : i_ ≤ f_ 1) (hl_ : ∀ j_, j_ < i_ → mM m_ j_ ≠ x_), f_ 1 - i_ < kf_ → ∀ (H : Heap) (locs : List Loc), va_P D vwCl [((bd 0), .inr (5, [.int (nI 0), .ref (bd 1), .ref (bd 2), .int (nI um_), .ref (bd 3), .ref (bd 4), .ref (bd 5), .int (nI ln_), .int (nI at_), .int (if iw_ = true then 1 else 0), .ref (bd 6), .ref (bd 7), .ref (bd 8), .ref (bd 9), .ref (bd 10), .ref (bd 11), .ref (bd 12), .ref (bd 13), .ref (bd 14)])), ((bd 1), .inl (cy 0, 130, .inl (nIf f_))), (ra_, .inl (cy 0, 16, .inl (nIf rc_))), ((bd 10), .inl (cy 0, 16, .inl (nIf o3_)))] H → va_D zA [((bd 0), .inr (5, [.int (nI 0), .ref (bd 1), .ref (bd 2), .int (nI um_), .ref (bd 3), .ref (bd 4), .ref (bd 5), .int (nI ln_), .int (nI at_), .int (if iw_ = true then 1 else 0), .ref (bd 6), .ref (bd 7), .ref (bd 8), .ref (bd 9), .ref (bd 10), .ref (bd 11), .ref (bd 12), .ref (bd 13), .ref (bd 14)])), ((bd 1), .inl (cy 0, 130, .inl (nIf f_))), (ra_, .inl (cy 0, 16, .inl (nIf rc_))), ((bd 10), .inl (cy 0, 16, .inl (nIf o3_)))] → va_S zA zs.heap H locs → ∀ ls : Array Slot, lv_has ls 3 [(0, .ref (bd 0)), (1, .ref ra_), (2, .int (nI i_))] → W zp l ze r_X8_markAs zs zm za zb zme zc H locs 0 0 Q (F0 zm 2 ls []) := by
    intro kf_
    induction kf_ with
    | zero => intro i_ o3_ hi hl_ hk_; exact absurd hk_ (Nat.not_lt_zero _)
    | succ kf_ ih2 =>
      intro i_ o3_ hi hl_ hk_ H locs hP hD hS ls hl
      refine lv_iload_n hx hb dX8_markAs_2 rfl (lv_at hl 2 rfl) ?_
      refine lv_aload_n hx hb dX8_markAs_3 rfl (lv_at hl 0 rfl) ?_
      refine va_get (D := D) (ci := 5) (v := .ref (bd 1)) (C := RX8) (T := TX8) (N := 19) hx hb hts (fun w h => List.mem_cons_of_mem _ (zinX8 w h)) hown hK.1 hP 0 rfl rfl 1 (by decide) (hts _ (List.mem_cons_of_mem _ zw_74)) (fun _ h9 => h9) rfl dX8_markAs_4 ?_
      refine lv_iconst (v := nI 1) hx hb dX8_markAs_7 (by decide) ?_
      refine zi_iald (v := nI (f_ 1)) hx hb hK hP 1 rfl (by omega) (by omega) rfl dX8_markAs_8 ?_
      refine zb_ge (a := i_) (b := f_ 1) (tgt := 41) hx hb dX8_markAs_9 (by decide) (by omega) (by omega) (fun c9 => ?_) (fun c9 => ?_)
      · skip
        refine lv_bipush (v := (-6)) hx hb dX8_markAs_41 (by decide) ?_
        exact kr _ o3_ _ _ _ _ dX8_markAs_43 (vp_nar_int _) ⟨lowM_no (fun j_ hj_ => hl_ j_ (by omega)), trivial⟩ hP hD hS
      · skip
        have hbm : bM m_ (nI i_) = true := bM_iff.mpr (by rw [nI_toInt (by omega)]; omega)
        have hti : (nI i_).toInt = (i_ : Int) := nI_toInt (by omega)
        have hX := fetch_X hR hbm o3_
        rw [ix_nI (by omega)] at hX
        have hwi := ok_M hw (show i_ < mC m_ by omega)
        rw [← hf0] at hwi
        have hak := alk_iff hr_ hX hwx hwi
        have hrl_ : ∀ z_, z_ < f_ 0 → rc_ z_ < 2 ^ 31 ∧ fil (gTo f_ (nI i_)) o3_ (f_ 0) z_ < 2 ^ 31 := fun z_ hz_ => ⟨by have := RowX.lt hr_ hwx (by omega) hz_; omega, by have := RowX.lt hX hwi (by omega) hz_; omega⟩
        refine lv_aload_n hx hb dX8_markAs_12 rfl (lv_at hl 0 rfl) ?_
        refine lv_aload_n hx hb dX8_markAs_13 rfl (lv_at hl 0 rfl) ?_
        refine va_get (D := D) (ci := 5) (v := .ref (bd 10)) (C := RX8) (T := TX8) (N := 19) hx hb hts (fun w h => List.mem_cons_of_mem _ (zinX8 w h)) hown hK.1 hP 0 rfl rfl 14 (by decide) (hts _ (List.mem_cons_of_mem _ zw_83)) (fun _ h9 => h9) rfl dX8_markAs_14 ?_
        refine lv_iload_n hx hb dX8_markAs_17 rfl (lv_at hl 2 rfl) ?_
        refine zcWv (As := [.ref (bd 10), .int (nI i_)]) (rest := []) (wr := [(ra_, .inl (cy 0, 16, .inl (nIf rc_)))]) ⟨hx, hb, hml, hown, hts⟩ (c_X8_fetches l D cy H.size bd um_ ln_ at_ iw_ f_ (bd 10) o3_ (nI i_) (by omega) (by omega)) (cwV 2 hts (zG_V zw_257 zw_258 zw_259 zw_5 zw_260) rfl rfl rfl zd_X8_fetches ⟨Nat.le_of_ble_eq_true rfl, Nat.le_of_ble_eq_true rfl⟩) hK hP hD hS hA [0, 1, 3] [2] [1, 2, 0, 3] rfl (by decide) rfl (by decide) (by decide) (w2 := (fun u_ : Unit => ([((bd 0), .inr (5, [.int (nI 0), .ref (bd 1), .ref (bd 2), .int (nI um_), .ref (bd 3), .ref (bd 4), .ref (bd 5), .int (nI ln_), .int (nI at_), .int (if iw_ = true then 1 else 0), .ref (bd 6), .ref (bd 7), .ref (bd 8), .ref (bd 9), .ref (bd 10), .ref (bd 11), .ref (bd 12), .ref (bd 13), .ref (bd 14)])), ((bd 1), .inl (cy 0, 130, .inl (nIf f_))), (ra_, .inl (cy 0, 16, .inl (nIf rc_))), ((bd 10), .inl (cy 0, 16, .inl (nIf (fil (gTo f_ (nI i_)) o3_ (f_ 0)))))] : va_W))) (fun _ => rfl) (by decide) rfl rfl rfl rfl hl.1 rfl (Nat.le_of_ble_eq_true rfl) dX8_markAs_18 ⟨Nat.zero_le _, Nat.zero_le _⟩ (fun  u18 H locs h18 hP hD hS => ?_)
        have h18 : True := h18
        have hP : va_P D vwCl [((bd 0), .inr (5, [.int (nI 0), .ref (bd 1), .ref (bd 2), .int (nI um_), .ref (bd 3), .ref (bd 4), .ref (bd 5), .int (nI ln_), .int (nI at_), .int (if iw_ = true then 1 else 0), .ref (bd 6), .ref (bd 7), .ref (bd 8), .ref (bd 9), .ref (bd 10), .ref (bd 11), .ref (bd 12), .ref (bd 13), .ref (bd 14)])), ((bd 1), .inl (cy 0, 130, .inl (nIf f_))), (ra_, .inl (cy 0, 16, .inl (nIf rc_))), ((bd 10), .inl (cy 0, 16, .inl (nIf (fil (gTo f_ (nI i_)) o3_ (f_ 0)))))] H := hP
        have hD : va_D zA [((bd 0), .inr (5, [.int (nI 0), .ref (bd 1), .ref (bd 2), .int (nI um_), .ref (bd 3), .ref (bd 4), .ref (bd 5), .int (nI ln_), .int (nI at_), .int (if iw_ = true then 1 else 0), .ref (bd 6), .ref (bd 7), .ref (bd 8), .ref (bd 9), .ref (bd 10), .ref (bd 11), .ref (bd 12), .ref (bd 13), .ref (bd 14)])), ((bd 1), .inl (cy 0, 130, .inl (nIf f_))), (ra_, .inl (cy 0, 16, .inl (nIf rc_))), ((bd 10), .inl (cy 0, 16, .inl (nIf (fil (gTo f_ (nI i_)) o3_ (f_ 0)))))] := hD
        refine lv_aload_n hx hb dX8_markAs_21 rfl (lv_at hl 0 rfl) ?_
        refine lv_aload_n hx hb dX8_markAs_22 rfl (lv_at hl 1 rfl) ?_
        refine lv_aload_n hx hb dX8_markAs_23 rfl (lv_at hl 0 rfl) ?_
        refine va_get (D := D) (ci := 5) (v := .ref (bd 10)) (C := RX8) (T := TX8) (N := 19) hx hb hts (fun w h => List.mem_cons_of_mem _ (zinX8 w h)) hown hK.1 hP 0 rfl rfl 14 (by decide) (hts _ (List.mem_cons_of_mem _ zw_83)) (fun _ h9 => h9) rfl dX8_markAs_24 ?_
        refine zcRi (As := [.ref ra_, .ref (bd 10)]) (rest := []) ⟨hx, hb, hml, hown, hts⟩ (c_X8_areAlike l D cy bd um_ ln_ at_ iw_ f_ ra_ rc_ (bd 10) (fil (gTo f_ (nI i_)) o3_ (f_ 0)) (by omega) hrl_) (cwV 2 hts (zG_V zw_533 zw_534 zw_535 zw_5 zw_536) rfl rfl rfl zd_X8_areAlike ⟨Nat.le_of_ble_eq_true rfl, Nat.le_of_ble_eq_true rfl⟩) hK hP [0, 1, 2, 3] rfl rfl rfl rfl rfl hl.1 rfl (Nat.le_of_ble_eq_true rfl) dX8_markAs_27 ⟨Nat.zero_le _, Nat.zero_le _⟩ (fun r27 h27 => ?_)
        subst h27
        refine zq_eq (tgt := 35) hx hb dX8_markAs_30 (by decide) (fun c30 => ?_) (fun c30 => ?_)
        · skip
          refine lv_iinc (v := nI (i_ + 1)) (lv' := [(2, .int (nI (i_ + 1))), (0, .ref (bd 0)), (1, .ref ra_)]) hx hb dX8_markAs_35 hl (k := 2) rfl (nI_1 _) (by decide) rfl (fun ls hl => ?_)
          refine lv_goto (tgt := 2) hx hb dX8_markAs_38 (by decide) ?_
          exact ih2 (i_ + 1) (fil (gTo f_ (nI i_)) o3_ (f_ 0)) (by omega) (fun j_ hj_ => by rcases Nat.lt_or_ge j_ i_ with q_ | q_; exact hl_ j_ q_; rw [show j_ = i_ by omega]; exact fun e_ => c30 (hak.mpr e_.symm)) (by omega) _ _ hP hD hS _ (lv_sub hl [1, 2, 0] rfl)
        · skip
          refine lv_iload_n hx hb dX8_markAs_33 rfl (lv_at hl 2 rfl) ?_
          exact kr _ (fil (gTo f_ (nI i_)) o3_ (f_ 0)) _ _ _ _ dX8_markAs_34 (vp_nar_int _) ⟨lowM_yes (by omega) (hak.mp c30).symm hl_, trivial⟩ hP hD hS
  exact L2 (f_ 1 - 0 + 1) 0 o3_ (Nat.zero_le _) (fun j_ hj_ => absurd hj_ (Nat.not_lt_zero _)) (Nat.lt_succ_self _) _ _ hP hD hS _ (lv_sub hl [1, 2, 0] rfl)

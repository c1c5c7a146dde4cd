abbrev w_X8_moved : List Cond := Cond.code yX8_moved cX8_moved 3 (some .int) :: zAll
abbrev r_X8_moved : Room := { frames := 0, cells := 0, slots := 0, locals := 0 }
theorem zd_X8_moved : yX8_moved.cls = RX8 ∧ yX8_moved.cls ≠ "java/lang/invoke/MethodHandle" ∧ yX8_moved.cls ≠ "java/lang/invoke/VarHandle" ∧ (parseMethodDescriptor yX8_moved.desc).map (fun d => d.parameters.length) = some 0 := by decide +kernel
set_option maxHeartbeats 4000000 in
set_option maxRecDepth 100000 in
theorem c_X8_moved (l : Launch) (D : va_G) (cy : Nat → ClassId) (bd : Nat → Nat) (um_ : Nat) (ln_ : Nat) (at_ : Nat) (iw_ : Bool) (f_ : Nat → Nat) (m_ : MT) (hw : TVok m_.1) (hR : RowR m_.1 f_) : zMi l yX8_moved w_X8_moved r_X8_moved D cy [((bd 0), .inr (5, [.int (nI 0), .ref (bd 1), .ref (bd 2), .int (nI um_), .ref (bd 3), .ref (bd 4), .ref (bd 5), .int (nI ln_), .int (nI at_), .int (if iw_ = true then 1 else 0), .ref (bd 6), .ref (bd 7), .ref (bd 8), .ref (bd 9), .ref (bd 10), .ref (bd 11), .ref (bd 12), .ref (bd 13), .ref (bd 14)])), ((bd 1), .inl (cy 0, 130, .inl (nIf f_)))] [.ref (bd 0)] (fun r_ => r_ = (nI (movedN m_))) := by
  refine zOfR (cc := cX8_moved) (maxL := 3) (ty := .int) (by decide) rfl (Nat.le_of_ble_eq_true rfl) ?_
  intro zp ze zs zm za zb zme zc hx hb hml hts hown hP hK Q kr ls hl
  have hown : zs.vm.findClass RX8 = some zm.cls := hown
  have hl : lv_has ls 3 [(0, .ref (bd 0))] := hl
  have hn16 := ok_n hw
  have hf0 : f_ 0 = mN m_ := hR.1
  refine lv_iconst (v := nI 0) hx hb dX8_moved_0 (by decide) ?_
  refine zi_top (v := nI (0 - ctT (mT m_) 0)) rfl ?_
  refine lv_istore_n (lv' := [(1, .int (nI (0 - ctT (mT m_) 0))), (0, .ref (bd 0))]) hx hb dX8_moved_1 rfl hl (by decide) rfl (fun ls hl => ?_)
  refine lv_iconst (v := nI 0) hx hb dX8_moved_2 (by decide) ?_
  refine lv_istore_n (lv' := [(2, .int (nI 0)), (1, .int (nI (0 - ctT (mT m_) 0))), (0, .ref (bd 0))]) hx hb dX8_moved_3 rfl hl (by decide) rfl (fun ls hl => ?_)
  have L4 : ∀ (kf_ : Nat) (i_ : Nat) (hi : i_ ≤ f_ 0), f_ 0 - i_ < kf_ → ∀ ls : Array Slot, lv_has ls 3 [(0, .ref (bd 0)), (1, .int (nI (i_ - ctT (mT m_) i_))), (2, .int (nI i_))] → W zp l ze r_X8_moved zs zm za zb zme zc zs.heap [] 0 0 Q (F0 zm 4 ls []) := by
    intro kf_
    induction kf_ with
    | zero => intro i_ hi hk_; exact absurd hk_ (Nat.not_lt_zero _)
    | succ kf_ ih4 =>
      intro i_ hi hk_ ls hl
      refine lv_iload_n hx hb dX8_moved_4 rfl (lv_at hl 2 rfl) ?_
      refine lv_aload_n hx hb dX8_moved_5 rfl (lv_at hl 0 rfl) ?_
      refine va_get (D := D) (ci := 5) (v := .ref (bd 1)) (C := RX8) (T := TX8) (N := 19) hx hb hts (fun w h => List.mem_cons_of_mem _ (zinX8 w h)) hown hK.1 hP 0 rfl rfl 1 (by decide) (hts _ (List.mem_cons_of_mem _ zw_74)) (fun _ h9 => h9) rfl dX8_moved_6 ?_
      refine lv_iconst (v := nI 0) hx hb dX8_moved_9 (by decide) ?_
      refine zi_iald (v := nI (f_ 0)) hx hb hK hP 1 rfl (by omega) (by omega) rfl dX8_moved_10 ?_
      refine zb_ge (a := i_) (b := f_ 0) (tgt := 41) hx hb dX8_moved_11 (by decide) (by omega) (by omega) (fun c11 => ?_) (fun c11 => ?_)
      · skip
        refine lv_iload_n hx hb dX8_moved_41 rfl (lv_at hl 1 rfl) ?_
        exact kr _ _ _ dX8_moved_42 (vp_nar_int _) (congrArg nI (mv_E hw (by omega)))
      · skip
        have hb14 := nb_lt (mT m_) i_
        refine lv_iload_n hx hb dX8_moved_14 rfl (lv_at hl 1 rfl) ?_
        refine lv_aload_n hx hb dX8_moved_15 rfl (lv_at hl 0 rfl) ?_
        refine va_get (D := D) (ci := 5) (v := .ref (bd 1)) (C := RX8) (T := TX8) (N := 19) hx hb hts (fun w h => List.mem_cons_of_mem _ (zinX8 w h)) hown hK.1 hP 0 rfl rfl 1 (by decide) (hts _ (List.mem_cons_of_mem _ zw_74)) (fun _ h9 => h9) rfl dX8_moved_16 ?_
        refine lv_bipush (v := nI 18) hx hb dX8_moved_19 (by decide) ?_
        refine lv_iload_n hx hb dX8_moved_21 rfl (lv_at hl 2 rfl) ?_
        refine zi_add (v := nI (18 + i_)) hx hb dX8_moved_22 (nI_add _ _) ?_
        refine zi_iald (v := nI (nb (mT m_) i_)) hx hb hK hP 1 rfl (by omega) (by omega) (congrArg nI (hR.2.2.2.1 i_ (show i_ < mN m_ by omega))) dX8_moved_23 ?_
        refine lv_iload_n hx hb dX8_moved_24 rfl (lv_at hl 2 rfl) ?_
        refine zb_eq (a := nb (mT m_) i_) (b := i_) (tgt := 32) hx hb dX8_moved_25 (by decide) (by omega) (by omega) (fun c25 => ?_) (fun c25 => ?_)
        · skip
          refine lv_iconst (v := nI 0) hx hb dX8_moved_32 (by decide) ?_
          refine zi_add (v := nI ((i_ - ctT (mT m_) i_) + 0)) hx hb dX8_moved_33 (nI_add _ _) ?_
          have hl34 := ctT_le (mT m_) i_
          have hs34 := ctT_y c25
          refine zi_top (v := nI (i_ + 1 - ctT (mT m_) (i_ + 1))) (congrArg nI (by omega)) ?_
          refine lv_istore_n (lv' := [(1, .int (nI (i_ + 1 - ctT (mT m_) (i_ + 1)))), (0, .ref (bd 0)), (2, .int (nI i_))]) hx hb dX8_moved_34 rfl hl (by decide) rfl (fun ls hl => ?_)
          refine lv_iinc (v := nI (i_ + 1)) (lv' := [(2, .int (nI (i_ + 1))), (1, .int (nI (i_ + 1 - ctT (mT m_) (i_ + 1)))), (0, .ref (bd 0))]) hx hb dX8_moved_35 hl (k := 2) rfl (nI_1 _) (by decide) rfl (fun ls hl => ?_)
          refine lv_goto (tgt := 4) hx hb dX8_moved_38 (by decide) ?_
          exact ih4 (i_ + 1) (by omega) (by omega) _ (lv_sub hl [2, 1, 0] rfl)
        · skip
          refine lv_iconst (v := nI 1) hx hb dX8_moved_28 (by decide) ?_
          refine lv_goto (tgt := 33) hx hb dX8_moved_29 (by decide) ?_
          refine zi_add (v := nI ((i_ - ctT (mT m_) i_) + 1)) hx hb dX8_moved_33 (nI_add _ _) ?_
          have hl34 := ctT_le (mT m_) i_
          have hs34 := ctT_n c25
          refine zi_top (v := nI (i_ + 1 - ctT (mT m_) (i_ + 1))) (congrArg nI (by omega)) ?_
          refine lv_istore_n (lv' := [(1, .int (nI (i_ + 1 - ctT (mT m_) (i_ + 1)))), (0, .ref (bd 0)), (2, .int (nI i_))]) hx hb dX8_moved_34 rfl hl (by decide) rfl (fun ls hl => ?_)
          refine lv_iinc (v := nI (i_ + 1)) (lv' := [(2, .int (nI (i_ + 1))), (1, .int (nI (i_ + 1 - ctT (mT m_) (i_ + 1)))), (0, .ref (bd 0))]) hx hb dX8_moved_35 hl (k := 2) rfl (nI_1 _) (by decide) rfl (fun ls hl => ?_)
          refine lv_goto (tgt := 4) hx hb dX8_moved_38 (by decide) ?_
          exact ih4 (i_ + 1) (by omega) (by omega) _ (lv_sub hl [2, 1, 0] rfl)
  exact L4 (f_ 0 - 0 + 1) 0 (Nat.zero_le _) (Nat.lt_succ_self _) _ (lv_sub hl [2, 1, 0] rfl)
abbrev w_X8_restart : List Cond := Cond.code yX8_restart cX8_restart 3 (some .int) :: zAll
abbrev r_X8_restart : Room := { frames := 1, cells := 0, slots := 0, locals := 22 }
theorem zd_X8_restart : yX8_restart.cls = RX8 ∧ yX8_restart.cls ≠ "java/lang/invoke/MethodHandle" ∧ yX8_restart.cls ≠ "java/lang/invoke/VarHandle" ∧ (parseMethodDescriptor yX8_restart.desc).map (fun d => d.parameters.length) = some 0 := by decide +kernel
set_option maxHeartbeats 4000000 in
set_option maxRecDepth 100000 in
theorem c_X8_restart (l : Launch) (D : va_G) (cy : Nat → ClassId) (sz : Nat) (bd : Nat → Nat) (m_ : MT) (ln_ : Nat) (at_ : Nat) (iw_ : Bool) (f_ : Nat → Nat) (u_ : Nat → Nat) (hw : TVok m_.1) (hX6 : mX m_ < 6) (hU6 : mU m_ ≤ 6) (hM : MR m_ f_ u_) : zWi l yX8_restart w_X8_restart r_X8_restart D cy [((bd 0), .inr (5, [.int (nI 0), .ref (bd 1), .ref (bd 2), .int (nI (mU m_)), .ref (bd 3), .ref (bd 4), .ref (bd 5), .int (nI ln_), .int (nI at_), .int (if iw_ = true then 1 else 0), .ref (bd 6), .ref (bd 7), .ref (bd 8), .ref (bd 9), .ref (bd 10), .ref (bd 11), .ref (bd 12), .ref (bd 13), .ref (bd 14)])), ((bd 1), .inl (cy 0, 130, .inl (nIf f_))), ((bd 2), .inl (cy 0, 780, .inl (nIf u_)))] sz [.ref (bd 0)] (fun (r_ : Int32) (u : (Nat → Nat) × (Nat → Nat)) => r_ = ((opRestart m_).1) ∧ MR (opRestart m_).2 u.1 u.2) (fun u : (Nat → Nat) × (Nat → Nat) => ([((bd 0), .inr (5, [.int (nI 0), .ref (bd 1), .ref (bd 2), .int (nI (mU (opRestart m_).2)), .ref (bd 3), .ref (bd 4), .ref (bd 5), .int (nI ln_), .int (nI at_), .int (if iw_ = true then 1 else 0), .ref (bd 6), .ref (bd 7), .ref (bd 8), .ref (bd 9), .ref (bd 10), .ref (bd 11), .ref (bd 12), .ref (bd 13), .ref (bd 14)])), ((bd 1), .inl (cy 0, 130, .inl (nIf u.1))), ((bd 2), .inl (cy 0, 780, .inl (nIf u.2)))] : va_W)) := by
  refine zOfW (cc := cX8_restart) (maxL := 3) (ty := .int) (by decide) rfl (Nat.le_of_ble_eq_true rfl) ?_
  intro zp ze zs zm za zb zme zc hx hb hml hts hown hP hK zA hD hA Q kr ls hl
  have hS : va_S zA zs.heap zs.heap [] := va_S.rf
  have hown : zs.vm.findClass RX8 = some zm.cls := hown
  have hl : lv_has ls 3 [(0, .ref (bd 0))] := hl
  have hn2 := ok_2 hw
  have hn16 := ok_n hw
  have hC6 := ok_C hw
  have hf0 : f_ 0 = mN m_ := hM.1.1
  have hf1 : f_ 1 = mC m_ := hM.1.2.1
  have hk2_ : (nI 2).toInt = 2 := rfl
  have hk16_ : (nI 16).toInt = 16 := rfl
  have hk0_ : (nI 0).toInt = 0 := rfl
  have hk1_ : (nI 1).toInt = 1 := rfl
  have hk9_ : (nI 999).toInt = 999 := rfl
  have hk8_ : (-999 : Int32).toInt = -999 := rfl
  refine lv_aload_n hx hb dX8_restart_0 rfl (lv_at hl 0 rfl) ?_
  refine lv_iconst (v := nI 0) hx hb dX8_restart_1 (by decide) ?_
  refine va_put (D := D) (ci := 5) (v := .int (nI 0)) (ty := .int) (C := RX8) (T := TX8) (N := 19) hx hb hts (fun w h => List.mem_cons_of_mem _ (zinX8 w h)) tyX8 tyX8_ok nmX8 hown hK.1 hP hD hS 0 rfl rfl 0 (by decide) (hts _ (List.mem_cons_of_mem _ zw_88)) (fun _ h9 => h9) rfl (tyX8_ok 0 (by decide)) rfl rfl (Nat.le_of_ble_eq_true rfl) dX8_restart_2 (fun H locs hP hD hS => ?_)
  have hP : va_P D vwCl [((bd 0), .inr (5, [.int (nI 0), .ref (bd 1), .ref (bd 2), .int (nI (mU m_)), .ref (bd 3), .ref (bd 4), .ref (bd 5), .int (nI ln_), .int (nI at_), .int (if iw_ = true then 1 else 0), .ref (bd 6), .ref (bd 7), .ref (bd 8), .ref (bd 9), .ref (bd 10), .ref (bd 11), .ref (bd 12), .ref (bd 13), .ref (bd 14)])), ((bd 1), .inl (cy 0, 130, .inl (nIf f_))), ((bd 2), .inl (cy 0, 780, .inl (nIf u_)))] H := hP
  have hD : va_D zA [((bd 0), .inr (5, [.int (nI 0), .ref (bd 1), .ref (bd 2), .int (nI (mU m_)), .ref (bd 3), .ref (bd 4), .ref (bd 5), .int (nI ln_), .int (nI at_), .int (if iw_ = true then 1 else 0), .ref (bd 6), .ref (bd 7), .ref (bd 8), .ref (bd 9), .ref (bd 10), .ref (bd 11), .ref (bd 12), .ref (bd 13), .ref (bd 14)])), ((bd 1), .inl (cy 0, 130, .inl (nIf f_))), ((bd 2), .inl (cy 0, 780, .inl (nIf u_)))] := hD
  refine lv_aload_n hx hb dX8_restart_5 rfl (lv_at hl 0 rfl) ?_
  refine zcWv (As := []) (rest := []) (wr := []) ⟨hx, hb, hml, hown, hts⟩ (c_X8_records l D cy H.size bd (mU m_) ln_ at_ iw_ f_ u_ (by omega)) (cwV 0 hts (zG_V zw_124 zw_125 zw_126 zw_5 zw_127) rfl rfl rfl zd_X8_records ⟨Nat.le_of_ble_eq_true rfl, Nat.le_of_ble_eq_true rfl⟩) hK hP hD hS hA [0, 1, 2] [] [0, 1, 2] rfl (by decide) rfl (by decide) (by decide) (w2 := (fun u_ : (Nat → Nat) => ([((bd 0), .inr (5, [.int (nI 0), .ref (bd 1), .ref (bd 2), .int (nI ((mU m_) - (mU m_) / 6 + 1)), .ref (bd 3), .ref (bd 4), .ref (bd 5), .int (nI ln_), .int (nI at_), .int (if iw_ = true then 1 else 0), .ref (bd 6), .ref (bd 7), .ref (bd 8), .ref (bd 9), .ref (bd 10), .ref (bd 11), .ref (bd 12), .ref (bd 13), .ref (bd 14)])), ((bd 1), .inl (cy 0, 130, .inl (nIf f_))), ((bd 2), .inl (cy 0, 780, .inl (nIf u_)))] : va_W))) (fun _ => rfl) (by decide) rfl rfl rfl rfl hl.1 rfl (Nat.le_of_ble_eq_true rfl) dX8_restart_6 ⟨Nat.zero_le _, Nat.zero_le _⟩ (fun  u6 H locs h6 hP hD hS => ?_)
  obtain ⟨w_6, rfl⟩ : ∃ z_, z_ = u6 := ⟨_, rfl⟩
  have h6 : (∀ z_, z_ < 130 → w_6 (130 * ((mU m_) - (mU m_) / 6) + z_) = f_ z_) ∧ ∀ j_ z_, j_ < (mU m_) - (mU m_) / 6 → z_ < 130 → w_6 (130 * j_ + z_) = u_ (130 * (j_ + (mU m_) / 6) + z_) := h6
  have hP : va_P D vwCl [((bd 0), .inr (5, [.int (nI 0), .ref (bd 1), .ref (bd 2), .int (nI ((mU m_) - (mU m_) / 6 + 1)), .ref (bd 3), .ref (bd 4), .ref (bd 5), .int (nI ln_), .int (nI at_), .int (if iw_ = true then 1 else 0), .ref (bd 6), .ref (bd 7), .ref (bd 8), .ref (bd 9), .ref (bd 10), .ref (bd 11), .ref (bd 12), .ref (bd 13), .ref (bd 14)])), ((bd 1), .inl (cy 0, 130, .inl (nIf f_))), ((bd 2), .inl (cy 0, 780, .inl (nIf w_6)))] H := hP
  have hD : va_D zA [((bd 0), .inr (5, [.int (nI 0), .ref (bd 1), .ref (bd 2), .int (nI ((mU m_) - (mU m_) / 6 + 1)), .ref (bd 3), .ref (bd 4), .ref (bd 5), .int (nI ln_), .int (nI at_), .int (if iw_ = true then 1 else 0), .ref (bd 6), .ref (bd 7), .ref (bd 8), .ref (bd 9), .ref (bd 10), .ref (bd 11), .ref (bd 12), .ref (bd 13), .ref (bd 14)])), ((bd 1), .inl (cy 0, 130, .inl (nIf f_))), ((bd 2), .inl (cy 0, 780, .inl (nIf w_6)))] := hD
  refine lv_aload_n hx hb dX8_restart_9 rfl (lv_at hl 0 rfl) ?_
  refine zcRi (As := []) (rest := []) ⟨hx, hb, hml, hown, hts⟩ (c_X8_moved l D cy bd ((mU m_) - (mU m_) / 6 + 1) ln_ at_ iw_ f_ m_ (by omega) hM.1) (cwV 0 hts (zG_V zw_417 zw_418 zw_419 zw_5 zw_420) rfl rfl rfl zd_X8_moved ⟨Nat.le_of_ble_eq_true rfl, Nat.le_of_ble_eq_true rfl⟩) hK hP [0, 1] rfl rfl rfl rfl rfl hl.1 rfl (Nat.le_of_ble_eq_true rfl) dX8_restart_10 ⟨Nat.zero_le _, Nat.zero_le _⟩ (fun r10 h10 => ?_)
  subst h10
  refine lv_istore_n (lv' := [(1, .int (nI (movedN m_))), (0, .ref (bd 0))]) hx hb dX8_restart_13 rfl hl (by decide) rfl (fun ls hl => ?_)
  refine lv_iconst (v := nI 0) hx hb dX8_restart_14 (by decide) ?_
  refine lv_istore_n (lv' := [(2, .int (nI 0)), (1, .int (nI (movedN m_))), (0, .ref (bd 0))]) hx hb dX8_restart_15 rfl hl (by decide) rfl (fun ls hl => ?_)
  have L16 : ∀ (kf_ : Nat) (i_ : Nat) (w_ : Nat → Nat) (hi : i_ ≤ f_ 0) (hn_ : ∀ z_, z_ < i_ → w_ (18 + z_) = z_) (ho_ : ∀ z_, z_ < 18 ∨ 18 + i_ ≤ z_ → w_ z_ = f_ z_), f_ 0 - i_ < kf_ → ∀ (H : Heap) (locs : List Loc), va_P D vwCl [((bd 0), .inr (5, [.int (nI 0), .ref (bd 1), .ref (bd 2), .int (nI ((mU m_) - (mU m_) / 6 + 1)), .ref (bd 3), .ref (bd 4), .ref (bd 5), .int (nI ln_), .int (nI at_), .int (if iw_ = true then 1 else 0), .ref (bd 6), .ref (bd 7), .ref (bd 8), .ref (bd 9), .ref (bd 10), .ref (bd 11), .ref (bd 12), .ref (bd 13), .ref (bd 14)])), ((bd 1), .inl (cy 0, 130, .inl (nIf w_))), ((bd 2), .inl (cy 0, 780, .inl (nIf w_6)))] H → va_D zA [((bd 0), .inr (5, [.int (nI 0), .ref (bd 1), .ref (bd 2), .int (nI ((mU m_) - (mU m_) / 6 + 1)), .ref (bd 3), .ref (bd 4), .ref (bd 5), .int (nI ln_), .int (nI at_), .int (if iw_ = true then 1 else 0), .ref (bd 6), .ref (bd 7), .ref (bd 8), .ref (bd 9), .ref (bd 10), .ref (bd 11), .ref (bd 12), .ref (bd 13), .ref (bd 14)])), ((bd 1), .inl (cy 0, 130, .inl (nIf w_))), ((bd 2), .inl (cy 0, 780, .inl (nIf w_6)))] → va_S zA zs.heap H locs → ∀ ls : Array Slot, lv_has ls 3 [(0, .ref (bd 0)), (1, .int (nI (movedN m_))), (2, .int (nI i_))] → W zp l ze r_X8_restart zs zm za zb zme zc H locs 0 0 Q (F0 zm 16 ls []) := by
    intro kf_
    induction kf_ with
    | zero => intro i_ w_ hi hn_ ho_ hk_; exact absurd hk_ (Nat.not_lt_zero _)
    | succ kf_ ih16 =>
      intro i_ w_ hi hn_ ho_ hk_ H locs hP hD hS ls hl
      refine lv_iload_n hx hb dX8_restart_16 rfl (lv_at hl 2 rfl) ?_
      refine lv_aload_n hx hb dX8_restart_17 rfl (lv_at hl 0 rfl) ?_
      refine va_get (D := D) (ci := 5) (v := .ref (bd 1)) (C := RX8) (T := TX8) (N := 19) hx hb hts (fun w h => List.mem_cons_of_mem _ (zinX8 w h)) hown hK.1 hP 0 rfl rfl 1 (by decide) (hts _ (List.mem_cons_of_mem _ zw_74)) (fun _ h9 => h9) rfl dX8_restart_18 ?_
      refine lv_iconst (v := nI 0) hx hb dX8_restart_21 (by decide) ?_
      refine zi_iald (v := nI (f_ 0)) hx hb hK hP 1 rfl (by omega) (by omega) (congrArg nI (ho_ 0 (by omega))) dX8_restart_22 ?_
      refine zb_ge (a := i_) (b := f_ 0) (tgt := 42) hx hb dX8_restart_23 (by decide) (by omega) (by omega) (fun c23 => ?_) (fun c23 => ?_)
      · skip
        refine lv_iload_n hx hb dX8_restart_42 rfl (lv_at hl 1 rfl) ?_
        have eu_ : mU m_ - mU m_ / 6 + 1 = upD (mU m_) := (upD_E hU6).symm
        rw [eu_] at hP hD
        have e_ : opRestart m_ = (nI (movedN m_), putM m_ (mN m_, mP m_, stayL, mC m_, mM m_)) := rfl
        rw [e_] at kr
        exact kr _ (w_, w_6) _ _ _ _ dX8_restart_43 (vp_nar_int _) ⟨rfl, mr_put (row_restart hw hM.1 (fun z_ hz_ => hn_ z_ (by omega)) (fun z_ hz_ => ho_ z_ (by omega))) (rec_u hw hX6 hU6 hM h6)⟩ hP hD hS
      · skip
        refine lv_aload_n hx hb dX8_restart_26 rfl (lv_at hl 0 rfl) ?_
        refine va_get (D := D) (ci := 5) (v := .ref (bd 1)) (C := RX8) (T := TX8) (N := 19) hx hb hts (fun w h => List.mem_cons_of_mem _ (zinX8 w h)) hown hK.1 hP 0 rfl rfl 1 (by decide) (hts _ (List.mem_cons_of_mem _ zw_74)) (fun _ h9 => h9) rfl dX8_restart_27 ?_
        refine lv_bipush (v := nI 18) hx hb dX8_restart_30 (by decide) ?_
        refine lv_iload_n hx hb dX8_restart_32 rfl (lv_at hl 2 rfl) ?_
        refine zi_add (v := nI (18 + i_)) hx hb dX8_restart_33 (nI_add _ _) ?_
        refine lv_iload_n hx hb dX8_restart_34 rfl (lv_at hl 2 rfl) ?_
        refine zi_iast hx hb hK hP hD hS 1 rfl (by omega) (by omega) dX8_restart_35 (fun H locs hP hD hS => ?_)
        rw [upd_nIf] at hP hD
        have hP : va_P D vwCl [((bd 0), .inr (5, [.int (nI 0), .ref (bd 1), .ref (bd 2), .int (nI ((mU m_) - (mU m_) / 6 + 1)), .ref (bd 3), .ref (bd 4), .ref (bd 5), .int (nI ln_), .int (nI at_), .int (if iw_ = true then 1 else 0), .ref (bd 6), .ref (bd 7), .ref (bd 8), .ref (bd 9), .ref (bd 10), .ref (bd 11), .ref (bd 12), .ref (bd 13), .ref (bd 14)])), ((bd 1), .inl (cy 0, 130, .inl (nIf (uN1 w_ (18 + i_) i_)))), ((bd 2), .inl (cy 0, 780, .inl (nIf w_6)))] H := hP
        have hD : va_D zA [((bd 0), .inr (5, [.int (nI 0), .ref (bd 1), .ref (bd 2), .int (nI ((mU m_) - (mU m_) / 6 + 1)), .ref (bd 3), .ref (bd 4), .ref (bd 5), .int (nI ln_), .int (nI at_), .int (if iw_ = true then 1 else 0), .ref (bd 6), .ref (bd 7), .ref (bd 8), .ref (bd 9), .ref (bd 10), .ref (bd 11), .ref (bd 12), .ref (bd 13), .ref (bd 14)])), ((bd 1), .inl (cy 0, 130, .inl (nIf (uN1 w_ (18 + i_) i_)))), ((bd 2), .inl (cy 0, 780, .inl (nIf w_6)))] := hD
        refine lv_iinc (v := nI (i_ + 1)) (lv' := [(2, .int (nI (i_ + 1))), (0, .ref (bd 0)), (1, .int (nI (movedN m_)))]) hx hb dX8_restart_36 hl (k := 2) rfl (nI_1 _) (by decide) rfl (fun ls hl => ?_)
        refine lv_goto (tgt := 16) hx hb dX8_restart_39 (by decide) ?_
        exact ih16 (i_ + 1) (uN1 w_ (18 + i_) i_) (by omega) (fun z_ hz_ => by by_cases q_ : z_ = i_; subst q_; exact uN1_s _ _ _; rw [uN1_n _ (by omega)]; exact hn_ z_ (by omega)) (fun z_ hz_ => by rw [uN1_n _ (by omega)]; exact ho_ z_ (by omega)) (by omega) _ _ hP hD hS _ (lv_sub hl [1, 2, 0] rfl)
  exact L16 (f_ 0 - 0 + 1) 0 f_ (Nat.zero_le _) (fun z_ hz_ => absurd hz_ (Nat.not_lt_zero _)) (fun z_ _ => rfl) (Nat.lt_succ_self _) _ _ hP hD hS _ (lv_sub hl [2, 1, 0] rfl)
abbrev w_X8_undo : List Cond := Cond.code yX8_undo cX8_undo 2 (some .int) :: zAll
abbrev r_X8_undo : Room := { frames := 0, cells := 0, slots := 0, locals := 0 }
theorem zd_X8_undo : yX8_undo.cls = RX8 ∧ yX8_undo.cls ≠ "java/lang/invoke/MethodHandle" ∧ yX8_undo.cls ≠ "java/lang/invoke/VarHandle" ∧ (parseMethodDescriptor yX8_undo.desc).map (fun d => d.parameters.length) = some 0 := by decide +kernel
set_option maxHeartbeats 4000000 in
set_option maxRecDepth 100000 in
theorem c_X8_undo (l : Launch) (D : va_G) (cy : Nat → ClassId) (sz : Nat) (bd : Nat → Nat) (m_ : MT) (ln_ : Nat) (at_ : Nat) (iw_ : Bool) (f_ : Nat → Nat) (u_ : Nat → Nat) (hw : TVok m_.1) (hX6 : mX m_ < 6) (hU6 : mU m_ ≤ 6) (hM : MR m_ f_ u_) : zWi l yX8_undo w_X8_undo r_X8_undo D cy [((bd 0), .inr (5, [.int (nI 0), .ref (bd 1), .ref (bd 2), .int (nI (mU m_)), .ref (bd 3), .ref (bd 4), .ref (bd 5), .int (nI ln_), .int (nI at_), .int (if iw_ = true then 1 else 0), .ref (bd 6), .ref (bd 7), .ref (bd 8), .ref (bd 9), .ref (bd 10), .ref (bd 11), .ref (bd 12), .ref (bd 13), .ref (bd 14)])), ((bd 1), .inl (cy 0, 130, .inl (nIf f_))), ((bd 2), .inl (cy 0, 780, .inl (nIf u_)))] sz [.ref (bd 0)] (fun (r_ : Int32) (u : (Nat → Nat) × (Nat → Nat)) => r_ = ((opUndo m_).1) ∧ MR (opUndo m_).2 u.1 u.2) (fun u : (Nat → Nat) × (Nat → Nat) => ([((bd 0), .inr (5, [.int (nI 0), .ref (bd 1), .ref (bd 2), .int (nI (mU (opUndo m_).2)), .ref (bd 3), .ref (bd 4), .ref (bd 5), .int (nI ln_), .int (nI at_), .int (if iw_ = true then 1 else 0), .ref (bd 6), .ref (bd 7), .ref (bd 8), .ref (bd 9), .ref (bd 10), .ref (bd 11), .ref (bd 12), .ref (bd 13), .ref (bd 14)])), ((bd 1), .inl (cy 0, 130, .inl (nIf u.1))), ((bd 2), .inl (cy 0, 780, .inl (nIf u.2)))] : va_W)) := by
  refine zOfW (cc := cX8_undo) (maxL := 2) (ty := .int) (by decide) rfl (Nat.le_of_ble_eq_true rfl) ?_
  intro zp ze zs zm za zb zme zc hx hb hml hts hown hP hK zA hD hA Q kr ls hl
  have hS : va_S zA zs.heap zs.heap [] := va_S.rf
  have hown : zs.vm.findClass RX8 = some zm.cls := hown
  have hl : lv_has ls 2 [(0, .ref (bd 0))] := hl
  have hn2 := ok_2 hw
  have hn16 := ok_n hw
  have hC6 := ok_C hw
  have hf0 : f_ 0 = mN m_ := hM.1.1
  have hf1 : f_ 1 = mC m_ := hM.1.2.1
  have hk2_ : (nI 2).toInt = 2 := rfl
  have hk16_ : (nI 16).toInt = 16 := rfl
  have hk0_ : (nI 0).toInt = 0 := rfl
  have hk1_ : (nI 1).toInt = 1 := rfl
  have hk9_ : (nI 999).toInt = 999 := rfl
  have hk8_ : (-999 : Int32).toInt = -999 := rfl
  refine lv_aload_n hx hb dX8_undo_0 rfl (lv_at hl 0 rfl) ?_
  refine lv_iconst (v := nI 0) hx hb dX8_undo_1 (by decide) ?_
  refine va_put (D := D) (ci := 5) (v := .int (nI 0)) (ty := .int) (C := RX8) (T := TX8) (N := 19) hx hb hts (fun w h => List.mem_cons_of_mem _ (zinX8 w h)) tyX8 tyX8_ok nmX8 hown hK.1 hP hD hS 0 rfl rfl 0 (by decide) (hts _ (List.mem_cons_of_mem _ zw_88)) (fun _ h9 => h9) rfl (tyX8_ok 0 (by decide)) rfl rfl (Nat.le_of_ble_eq_true rfl) dX8_undo_2 (fun H locs hP hD hS => ?_)
  have hP : va_P D vwCl [((bd 0), .inr (5, [.int (nI 0), .ref (bd 1), .ref (bd 2), .int (nI (mU m_)), .ref (bd 3), .ref (bd 4), .ref (bd 5), .int (nI ln_), .int (nI at_), .int (if iw_ = true then 1 else 0), .ref (bd 6), .ref (bd 7), .ref (bd 8), .ref (bd 9), .ref (bd 10), .ref (bd 11), .ref (bd 12), .ref (bd 13), .ref (bd 14)])), ((bd 1), .inl (cy 0, 130, .inl (nIf f_))), ((bd 2), .inl (cy 0, 780, .inl (nIf u_)))] H := hP
  have hD : va_D zA [((bd 0), .inr (5, [.int (nI 0), .ref (bd 1), .ref (bd 2), .int (nI (mU m_)), .ref (bd 3), .ref (bd 4), .ref (bd 5), .int (nI ln_), .int (nI at_), .int (if iw_ = true then 1 else 0), .ref (bd 6), .ref (bd 7), .ref (bd 8), .ref (bd 9), .ref (bd 10), .ref (bd 11), .ref (bd 12), .ref (bd 13), .ref (bd 14)])), ((bd 1), .inl (cy 0, 130, .inl (nIf f_))), ((bd 2), .inl (cy 0, 780, .inl (nIf u_)))] := hD
  refine lv_aload_n hx hb dX8_undo_5 rfl (lv_at hl 0 rfl) ?_
  refine va_get (D := D) (ci := 5) (v := .int (nI (mU m_))) (C := RX8) (T := TX8) (N := 19) hx hb hts (fun w h => List.mem_cons_of_mem _ (zinX8 w h)) hown hK.1 hP 0 rfl rfl 3 (by decide) (hts _ (List.mem_cons_of_mem _ zw_128)) (fun _ h9 => h9) rfl dX8_undo_6 ?_
  refine zb0_ne (a := (mU m_)) (tgt := 15) hx hb dX8_undo_9 (by decide) (by omega) (fun c9 => ?_) (fun c9 => ?_)
  · skip
    refine lv_aload_n hx hb dX8_undo_15 rfl (lv_at hl 0 rfl) ?_
    refine lv_dup hx hb dX8_undo_16 rfl ?_
    refine va_get (D := D) (ci := 5) (v := .int (nI (mU m_))) (C := RX8) (T := TX8) (N := 19) hx hb hts (fun w h => List.mem_cons_of_mem _ (zinX8 w h)) hown hK.1 hP 0 rfl rfl 3 (by decide) (hts _ (List.mem_cons_of_mem _ zw_128)) (fun _ h9 => h9) rfl dX8_undo_17 ?_
    refine lv_iconst (v := nI 1) hx hb dX8_undo_20 (by decide) ?_
    refine zi_sub (v := nI ((mU m_) - 1)) hx hb dX8_undo_21 (pk_sub (by omega)) ?_
    refine va_put (D := D) (ci := 5) (v := .int (nI ((mU m_) - 1))) (ty := .int) (C := RX8) (T := TX8) (N := 19) hx hb hts (fun w h => List.mem_cons_of_mem _ (zinX8 w h)) tyX8 tyX8_ok nmX8 hown hK.1 hP hD hS 0 rfl rfl 3 (by decide) (hts _ (List.mem_cons_of_mem _ zw_128)) (fun _ h9 => h9) rfl (tyX8_ok 3 (by decide)) rfl rfl (Nat.le_of_ble_eq_true rfl) dX8_undo_22 (fun H locs hP hD hS => ?_)
    have hP : va_P D vwCl [((bd 0), .inr (5, [.int (nI 0), .ref (bd 1), .ref (bd 2), .int (nI ((mU m_) - 1)), .ref (bd 3), .ref (bd 4), .ref (bd 5), .int (nI ln_), .int (nI at_), .int (if iw_ = true then 1 else 0), .ref (bd 6), .ref (bd 7), .ref (bd 8), .ref (bd 9), .ref (bd 10), .ref (bd 11), .ref (bd 12), .ref (bd 13), .ref (bd 14)])), ((bd 1), .inl (cy 0, 130, .inl (nIf f_))), ((bd 2), .inl (cy 0, 780, .inl (nIf u_)))] H := hP
    have hD : va_D zA [((bd 0), .inr (5, [.int (nI 0), .ref (bd 1), .ref (bd 2), .int (nI ((mU m_) - 1)), .ref (bd 3), .ref (bd 4), .ref (bd 5), .int (nI ln_), .int (nI at_), .int (if iw_ = true then 1 else 0), .ref (bd 6), .ref (bd 7), .ref (bd 8), .ref (bd 9), .ref (bd 10), .ref (bd 11), .ref (bd 12), .ref (bd 13), .ref (bd 14)])), ((bd 1), .inl (cy 0, 130, .inl (nIf f_))), ((bd 2), .inl (cy 0, 780, .inl (nIf u_)))] := hD
    refine lv_iconst (v := nI 0) hx hb dX8_undo_25 (by decide) ?_
    refine lv_istore_n (lv' := [(1, .int (nI 0)), (0, .ref (bd 0))]) hx hb dX8_undo_26 rfl hl (by decide) rfl (fun ls hl => ?_)
    have L27 : ∀ (kf_ : Nat) (i_ : Nat) (w_ : Nat → Nat) (hi : i_ ≤ 130) (hn_ : ∀ z_, z_ < i_ → w_ z_ = u_ (130 * (mU m_ - 1) + z_)), 130 - i_ < kf_ → ∀ (H : Heap) (locs : List Loc), va_P D vwCl [((bd 0), .inr (5, [.int (nI 0), .ref (bd 1), .ref (bd 2), .int (nI ((mU m_) - 1)), .ref (bd 3), .ref (bd 4), .ref (bd 5), .int (nI ln_), .int (nI at_), .int (if iw_ = true then 1 else 0), .ref (bd 6), .ref (bd 7), .ref (bd 8), .ref (bd 9), .ref (bd 10), .ref (bd 11), .ref (bd 12), .ref (bd 13), .ref (bd 14)])), ((bd 1), .inl (cy 0, 130, .inl (nIf w_))), ((bd 2), .inl (cy 0, 780, .inl (nIf u_)))] H → va_D zA [((bd 0), .inr (5, [.int (nI 0), .ref (bd 1), .ref (bd 2), .int (nI ((mU m_) - 1)), .ref (bd 3), .ref (bd 4), .ref (bd 5), .int (nI ln_), .int (nI at_), .int (if iw_ = true then 1 else 0), .ref (bd 6), .ref (bd 7), .ref (bd 8), .ref (bd 9), .ref (bd 10), .ref (bd 11), .ref (bd 12), .ref (bd 13), .ref (bd 14)])), ((bd 1), .inl (cy 0, 130, .inl (nIf w_))), ((bd 2), .inl (cy 0, 780, .inl (nIf u_)))] → va_S zA zs.heap H locs → ∀ ls : Array Slot, lv_has ls 2 [(0, .ref (bd 0)), (1, .int (nI i_))] → W zp l ze r_X8_undo zs zm za zb zme zc H locs 0 0 Q (F0 zm 27 ls []) := by
      intro kf_
      induction kf_ with
      | zero => intro i_ w_ hi hn_ hk_; exact absurd hk_ (Nat.not_lt_zero _)
      | succ kf_ ih27 =>
        intro i_ w_ hi hn_ hk_ H locs hP hD hS ls hl
        refine lv_iload_n hx hb dX8_undo_27 rfl (lv_at hl 1 rfl) ?_
        refine lv_sipush (v := nI 130) hx hb dX8_undo_28 (by decide) ?_
        refine zb_ge (a := i_) (b := 130) (tgt := 61) hx hb dX8_undo_31 (by decide) (by omega) (by omega) (fun c31 => ?_) (fun c31 => ?_)
        · skip
          refine lv_aload_n hx hb dX8_undo_61 rfl (lv_at hl 0 rfl) ?_
          refine va_get (D := D) (ci := 5) (v := .int (nI ((mU m_) - 1))) (C := RX8) (T := TX8) (N := 19) hx hb hts (fun w h => List.mem_cons_of_mem _ (zinX8 w h)) hown hK.1 hP 0 rfl rfl 3 (by decide) (hts _ (List.mem_cons_of_mem _ zw_128)) (fun _ h9 => h9) rfl dX8_undo_62 ?_
          have e_ : opUndo m_ = (nI (mU m_ - 1), (mV m_ (pvK (mX m_)), mV m_, mF m_, mU m_ - 1, pvK (mX m_))) := if_neg c9
          rw [e_] at kr
          exact kr _ (w_, u_) _ _ _ _ dX8_undo_65 (vp_nar_int _) ⟨rfl, (top_back hX6 hU6 c9 hM.2 (fun z_ hz_ => hn_ z_ (by omega))).2, und_back hX6 hU6 c9 hM.2 _⟩ hP hD hS
        · skip
          refine lv_aload_n hx hb dX8_undo_34 rfl (lv_at hl 0 rfl) ?_
          refine va_get (D := D) (ci := 5) (v := .ref (bd 1)) (C := RX8) (T := TX8) (N := 19) hx hb hts (fun w h => List.mem_cons_of_mem _ (zinX8 w h)) hown hK.1 hP 0 rfl rfl 1 (by decide) (hts _ (List.mem_cons_of_mem _ zw_74)) (fun _ h9 => h9) rfl dX8_undo_35 ?_
          refine lv_iload_n hx hb dX8_undo_38 rfl (lv_at hl 1 rfl) ?_
          refine lv_aload_n hx hb dX8_undo_39 rfl (lv_at hl 0 rfl) ?_
          refine va_get (D := D) (ci := 5) (v := .ref (bd 2)) (C := RX8) (T := TX8) (N := 19) hx hb hts (fun w h => List.mem_cons_of_mem _ (zinX8 w h)) hown hK.1 hP 0 rfl rfl 2 (by decide) (hts _ (List.mem_cons_of_mem _ zw_75)) (fun _ h9 => h9) rfl dX8_undo_40 ?_
          refine lv_sipush (v := nI 130) hx hb dX8_undo_43 (by decide) ?_
          refine lv_aload_n hx hb dX8_undo_46 rfl (lv_at hl 0 rfl) ?_
          refine va_get (D := D) (ci := 5) (v := .int (nI ((mU m_) - 1))) (C := RX8) (T := TX8) (N := 19) hx hb hts (fun w h => List.mem_cons_of_mem _ (zinX8 w h)) hown hK.1 hP 0 rfl rfl 3 (by decide) (hts _ (List.mem_cons_of_mem _ zw_128)) (fun _ h9 => h9) rfl dX8_undo_47 ?_
          refine zi_mul (v := nI (130 * ((mU m_) - 1))) hx hb dX8_undo_50 (pk_mul _ _) ?_
          refine lv_iload_n hx hb dX8_undo_51 rfl (lv_at hl 1 rfl) ?_
          refine zi_add (v := nI ((130 * ((mU m_) - 1)) + i_)) hx hb dX8_undo_52 (nI_add _ _) ?_
          refine zi_iald (v := nI (u_ ((130 * ((mU m_) - 1)) + i_))) hx hb hK hP 2 rfl (by omega) (by omega) rfl dX8_undo_53 ?_
          refine zi_iast hx hb hK hP hD hS 1 rfl (by omega) (by omega) dX8_undo_54 (fun H locs hP hD hS => ?_)
          rw [upd_nIf] at hP hD
          have hP : va_P D vwCl [((bd 0), .inr (5, [.int (nI 0), .ref (bd 1), .ref (bd 2), .int (nI ((mU m_) - 1)), .ref (bd 3), .ref (bd 4), .ref (bd 5), .int (nI ln_), .int (nI at_), .int (if iw_ = true then 1 else 0), .ref (bd 6), .ref (bd 7), .ref (bd 8), .ref (bd 9), .ref (bd 10), .ref (bd 11), .ref (bd 12), .ref (bd 13), .ref (bd 14)])), ((bd 1), .inl (cy 0, 130, .inl (nIf (uN1 w_ i_ (u_ ((130 * ((mU m_) - 1)) + i_)))))), ((bd 2), .inl (cy 0, 780, .inl (nIf u_)))] H := hP
          have hD : va_D zA [((bd 0), .inr (5, [.int (nI 0), .ref (bd 1), .ref (bd 2), .int (nI ((mU m_) - 1)), .ref (bd 3), .ref (bd 4), .ref (bd 5), .int (nI ln_), .int (nI at_), .int (if iw_ = true then 1 else 0), .ref (bd 6), .ref (bd 7), .ref (bd 8), .ref (bd 9), .ref (bd 10), .ref (bd 11), .ref (bd 12), .ref (bd 13), .ref (bd 14)])), ((bd 1), .inl (cy 0, 130, .inl (nIf (uN1 w_ i_ (u_ ((130 * ((mU m_) - 1)) + i_)))))), ((bd 2), .inl (cy 0, 780, .inl (nIf u_)))] := hD
          refine lv_iinc (v := nI (i_ + 1)) (lv' := [(1, .int (nI (i_ + 1))), (0, .ref (bd 0))]) hx hb dX8_undo_55 hl (k := 1) rfl (nI_1 _) (by decide) rfl (fun ls hl => ?_)
          refine lv_goto (tgt := 27) hx hb dX8_undo_58 (by decide) ?_
          exact ih27 (i_ + 1) (uN1 w_ i_ (u_ ((130 * ((mU m_) - 1)) + i_))) (by omega) (fun z_ hz_ => by by_cases q_ : z_ = i_; subst q_; exact uN1_s _ _ _; rw [uN1_n _ q_]; exact hn_ z_ (by omega)) (by omega) _ _ hP hD hS _ (lv_sub hl [1, 0] rfl)
    exact L27 (130 - 0 + 1) 0 f_ (Nat.zero_le _) (fun z_ hz_ => absurd hz_ (Nat.not_lt_zero _)) (Nat.lt_succ_self _) _ _ hP hD hS _ (lv_sub hl [1, 0] rfl)
  · skip
    refine lv_bipush (v := (-5)) hx hb dX8_undo_12 (by decide) ?_
    have e_ : opUndo m_ = (-5, m_) := if_pos c9
    rw [e_] at kr
    exact kr _ (f_, u_) _ _ _ _ dX8_undo_14 (vp_nar_int _) ⟨rfl, hM⟩ hP hD hS
abbrev w_X8_save : List Cond := Cond.code yX8_save cX8_save 3 (some .int) :: zAll
abbrev r_X8_save : Room := { frames := 1, cells := 0, slots := 0, locals := 22 }
theorem zd_X8_save : yX8_save.cls = RX8 ∧ yX8_save.cls ≠ "java/lang/invoke/MethodHandle" ∧ yX8_save.cls ≠ "java/lang/invoke/VarHandle" ∧ (parseMethodDescriptor yX8_save.desc).map (fun d => d.parameters.length) = some 1 := by decide +kernel
set_option maxHeartbeats 4000000 in
set_option maxRecDepth 100000 in
theorem c_X8_save (l : Launch) (D : va_G) (cy : Nat → ClassId) (sz : Nat) (bd : Nat → Nat) (m_ : MT) (ln_ : Nat) (at_ : Nat) (iw_ : Bool) (f_ : Nat → Nat) (s_ : SL) (l_ : Nat → Nat) (x_ : Int32) (hw : TVok m_.1) (hR : RowR m_.1 f_) (hSl : SlR s_ l_) : zWi l yX8_save w_X8_save r_X8_save D cy [((bd 0), .inr (5, [.int (nI 0), .ref (bd 1), .ref (bd 2), .int (nI (mU m_)), .ref (bd 3), .ref (bd 4), .ref (bd 5), .int (nI ln_), .int (nI at_), .int (if iw_ = true then 1 else 0), .ref (bd 6), .ref (bd 7), .ref (bd 8), .ref (bd 9), .ref (bd 10), .ref (bd 11), .ref (bd 12), .ref (bd 13), .ref (bd 14)])), ((bd 1), .inl (cy 0, 130, .inl (nIf f_))), ((bd 3), .inl (cy 0, 260, .inl (nIf l_))), ((bd 4), .inl (cy 2, 2, .inl (nBf (s_).2)))] sz [.ref (bd 0), .int x_] (fun (r_ : Int32) (u : (Nat → Nat)) => r_ = ((opSave m_ s_ x_).1) ∧ SlR (opSave m_ s_ x_).2 u) (fun u : (Nat → Nat) => ([((bd 0), .inr (5, [.int (nI 0), .ref (bd 1), .ref (bd 2), .int (nI (mU m_)), .ref (bd 3), .ref (bd 4), .ref (bd 5), .int (nI ln_), .int (nI at_), .int (if iw_ = true then 1 else 0), .ref (bd 6), .ref (bd 7), .ref (bd 8), .ref (bd 9), .ref (bd 10), .ref (bd 11), .ref (bd 12), .ref (bd 13), .ref (bd 14)])), ((bd 1), .inl (cy 0, 130, .inl (nIf f_))), ((bd 3), .inl (cy 0, 260, .inl (nIf u))), ((bd 4), .inl (cy 2, 2, .inl (nBf ((opSave m_ s_ x_).2).2)))] : va_W)) := by
  refine zOfW (cc := cX8_save) (maxL := 3) (ty := .int) (by decide) rfl (Nat.le_of_ble_eq_true rfl) ?_
  intro zp ze zs zm za zb zme zc hx hb hml hts hown hP hK zA hD hA Q kr ls hl
  have hS : va_S zA zs.heap zs.heap [] := va_S.rf
  have hown : zs.vm.findClass RX8 = some zm.cls := hown
  have hl : lv_has ls 3 [(0, .ref (bd 0)), (1, .int x_)] := hl
  have hf1 : f_ 1 = mC m_ := hR.2.1
  have hk0_ : (nI 0).toInt = 0 := rfl
  have hk1_ : (nI 1).toInt = 1 := rfl
  refine lv_aload_n hx hb dX8_save_0 rfl (lv_at hl 0 rfl) ?_
  refine lv_iconst (v := nI 0) hx hb dX8_save_1 (by decide) ?_
  refine va_put (D := D) (ci := 5) (v := .int (nI 0)) (ty := .int) (C := RX8) (T := TX8) (N := 19) hx hb hts (fun w h => List.mem_cons_of_mem _ (zinX8 w h)) tyX8 tyX8_ok nmX8 hown hK.1 hP hD hS 0 rfl rfl 0 (by decide) (hts _ (List.mem_cons_of_mem _ zw_88)) (fun _ h9 => h9) rfl (tyX8_ok 0 (by decide)) rfl rfl (Nat.le_of_ble_eq_true rfl) dX8_save_2 (fun H locs hP hD hS => ?_)
  have hP : va_P D vwCl [((bd 0), .inr (5, [.int (nI 0), .ref (bd 1), .ref (bd 2), .int (nI (mU m_)), .ref (bd 3), .ref (bd 4), .ref (bd 5), .int (nI ln_), .int (nI at_), .int (if iw_ = true then 1 else 0), .ref (bd 6), .ref (bd 7), .ref (bd 8), .ref (bd 9), .ref (bd 10), .ref (bd 11), .ref (bd 12), .ref (bd 13), .ref (bd 14)])), ((bd 1), .inl (cy 0, 130, .inl (nIf f_))), ((bd 3), .inl (cy 0, 260, .inl (nIf l_))), ((bd 4), .inl (cy 2, 2, .inl (nBf (s_).2)))] H := hP
  have hD : va_D zA [((bd 0), .inr (5, [.int (nI 0), .ref (bd 1), .ref (bd 2), .int (nI (mU m_)), .ref (bd 3), .ref (bd 4), .ref (bd 5), .int (nI ln_), .int (nI at_), .int (if iw_ = true then 1 else 0), .ref (bd 6), .ref (bd 7), .ref (bd 8), .ref (bd 9), .ref (bd 10), .ref (bd 11), .ref (bd 12), .ref (bd 13), .ref (bd 14)])), ((bd 1), .inl (cy 0, 130, .inl (nIf f_))), ((bd 3), .inl (cy 0, 260, .inl (nIf l_))), ((bd 4), .inl (cy 2, 2, .inl (nBf (s_).2)))] := hD
  refine lv_iload_n hx hb dX8_save_5 rfl (lv_at hl 1 rfl) ?_
  refine lv_iconst (v := nI 0) hx hb dX8_save_6 (by decide) ?_
  refine lv_iconst (v := nI 1) hx hb dX8_save_7 (by decide) ?_
  refine zcSi (As := [.int x_, .int (nI 0), .int (nI 1)]) (rest := []) ⟨hx, hb, hml, hown, hts⟩ (c_X8_in l D cy x_ (nI 0) (nI 1)) (va_cwS 3 hts (zG_S zw_121 zw_122 zw_5 zw_123) rfl rfl rfl zd_X8_in ⟨Nat.le_of_ble_eq_true rfl, Nat.le_of_ble_eq_true rfl⟩) hK hP [] rfl rfl hl.1 rfl (Nat.le_of_ble_eq_true rfl) dX8_save_8 ⟨Nat.zero_le _, Nat.zero_le _⟩ (fun r8 h8 => ?_)
  subst h8
  refine zq_ne (tgt := 17) hx hb dX8_save_11 (by decide) (fun c11 => ?_) (fun c11 => ?_)
  · skip
    obtain ⟨j_, hj_, ej_⟩ := zz_rng (n := 2) (x := x_) (by omega)
    rw [ej_] at hl
    refine lv_iconst (v := nI 0) hx hb dX8_save_17 (by decide) ?_
    refine lv_istore_n (lv' := [(2, .int (nI 0)), (0, .ref (bd 0)), (1, .int (nI j_))]) hx hb dX8_save_18 rfl hl (by decide) rfl (fun ls hl => ?_)
    have L19 : ∀ (kf_ : Nat) (i_ : Nat) (w_ : Nat → Nat) (hi : i_ ≤ 130) (hn_ : ∀ z_, z_ < i_ → w_ (130 * j_ + z_) = f_ z_) (ho_ : ∀ z_, z_ < 130 * j_ ∨ 130 * j_ + i_ ≤ z_ → w_ z_ = l_ z_), 130 - i_ < kf_ → ∀ (H : Heap) (locs : List Loc), va_P D vwCl [((bd 0), .inr (5, [.int (nI 0), .ref (bd 1), .ref (bd 2), .int (nI (mU m_)), .ref (bd 3), .ref (bd 4), .ref (bd 5), .int (nI ln_), .int (nI at_), .int (if iw_ = true then 1 else 0), .ref (bd 6), .ref (bd 7), .ref (bd 8), .ref (bd 9), .ref (bd 10), .ref (bd 11), .ref (bd 12), .ref (bd 13), .ref (bd 14)])), ((bd 1), .inl (cy 0, 130, .inl (nIf f_))), ((bd 3), .inl (cy 0, 260, .inl (nIf w_))), ((bd 4), .inl (cy 2, 2, .inl (nBf (s_).2)))] H → va_D zA [((bd 0), .inr (5, [.int (nI 0), .ref (bd 1), .ref (bd 2), .int (nI (mU m_)), .ref (bd 3), .ref (bd 4), .ref (bd 5), .int (nI ln_), .int (nI at_), .int (if iw_ = true then 1 else 0), .ref (bd 6), .ref (bd 7), .ref (bd 8), .ref (bd 9), .ref (bd 10), .ref (bd 11), .ref (bd 12), .ref (bd 13), .ref (bd 14)])), ((bd 1), .inl (cy 0, 130, .inl (nIf f_))), ((bd 3), .inl (cy 0, 260, .inl (nIf w_))), ((bd 4), .inl (cy 2, 2, .inl (nBf (s_).2)))] → va_S zA zs.heap H locs → ∀ ls : Array Slot, lv_has ls 3 [(0, .ref (bd 0)), (1, .int (nI j_)), (2, .int (nI i_))] → W zp l ze r_X8_save zs zm za zb zme zc H locs 0 0 Q (F0 zm 19 ls []) := by
      intro kf_
      induction kf_ with
      | zero => intro i_ w_ hi hn_ ho_ hk_; exact absurd hk_ (Nat.not_lt_zero _)
      | succ kf_ ih19 =>
        intro i_ w_ hi hn_ ho_ hk_ H locs hP hD hS ls hl
        refine lv_iload_n hx hb dX8_save_19 rfl (lv_at hl 2 rfl) ?_
        refine lv_sipush (v := nI 130) hx hb dX8_save_20 (by decide) ?_
        refine zb_ge (a := i_) (b := 130) (tgt := 50) hx hb dX8_save_23 (by decide) (by omega) (by omega) (fun c23 => ?_) (fun c23 => ?_)
        · skip
          refine lv_aload_n hx hb dX8_save_50 rfl (lv_at hl 0 rfl) ?_
          refine va_get (D := D) (ci := 5) (v := .ref (bd 4)) (C := RX8) (T := TX8) (N := 19) hx hb hts (fun w h => List.mem_cons_of_mem _ (zinX8 w h)) hown hK.1 hP 0 rfl rfl 5 (by decide) (hts _ (List.mem_cons_of_mem _ zw_77)) (fun _ h9 => h9) rfl dX8_save_51 ?_
          refine lv_iload_n hx hb dX8_save_54 rfl (lv_at hl 1 rfl) ?_
          refine lv_iconst (v := nI 1) hx hb dX8_save_55 (by decide) ?_
          refine zi_zast hx hb hK hP hD hS 3 rfl (by omega) (by omega) rfl dX8_save_56 (fun H locs hP hD hS => ?_)
          rw [upd_nB1] at hP hD
          have hP : va_P D vwCl [((bd 0), .inr (5, [.int (nI 0), .ref (bd 1), .ref (bd 2), .int (nI (mU m_)), .ref (bd 3), .ref (bd 4), .ref (bd 5), .int (nI ln_), .int (nI at_), .int (if iw_ = true then 1 else 0), .ref (bd 6), .ref (bd 7), .ref (bd 8), .ref (bd 9), .ref (bd 10), .ref (bd 11), .ref (bd 12), .ref (bd 13), .ref (bd 14)])), ((bd 1), .inl (cy 0, 130, .inl (nIf f_))), ((bd 3), .inl (cy 0, 260, .inl (nIf w_))), ((bd 4), .inl (cy 2, 2, .inl (nBf (uB1 ((s_).2) j_ true))))] H := hP
          have hD : va_D zA [((bd 0), .inr (5, [.int (nI 0), .ref (bd 1), .ref (bd 2), .int (nI (mU m_)), .ref (bd 3), .ref (bd 4), .ref (bd 5), .int (nI ln_), .int (nI at_), .int (if iw_ = true then 1 else 0), .ref (bd 6), .ref (bd 7), .ref (bd 8), .ref (bd 9), .ref (bd 10), .ref (bd 11), .ref (bd 12), .ref (bd 13), .ref (bd 14)])), ((bd 1), .inl (cy 0, 130, .inl (nIf f_))), ((bd 3), .inl (cy 0, 260, .inl (nIf w_))), ((bd 4), .inl (cy 2, 2, .inl (nBf (uB1 ((s_).2) j_ true))))] := hD
          refine lv_aload_n hx hb dX8_save_57 rfl (lv_at hl 0 rfl) ?_
          refine va_get (D := D) (ci := 5) (v := .ref (bd 1)) (C := RX8) (T := TX8) (N := 19) hx hb hts (fun w h => List.mem_cons_of_mem _ (zinX8 w h)) hown hK.1 hP 0 rfl rfl 1 (by decide) (hts _ (List.mem_cons_of_mem _ zw_74)) (fun _ h9 => h9) rfl dX8_save_58 ?_
          refine lv_iconst (v := nI 1) hx hb dX8_save_61 (by decide) ?_
          refine zi_iald (v := nI (f_ 1)) hx hb hK hP 1 rfl (by omega) (by omega) rfl dX8_save_62 ?_
          have e_ : opSave m_ s_ x_ = (nI (mC m_), (upT s_.1 j_ m_.1, uB1 s_.2 j_ true)) := by unfold opSave; rw [if_pos (by omega), ej_, ix_nI (by omega)]
          rw [e_] at kr
          exact kr _ w_ _ _ _ _ dX8_save_63 (vp_nar_int _) ⟨congrArg nI hf1, slot_put hj_ hw hR hSl (fun z_ hz_ => hn_ z_ (by omega)) (fun z_ hz_ => ho_ z_ (by omega))⟩ hP hD hS
        · skip
          refine lv_aload_n hx hb dX8_save_26 rfl (lv_at hl 0 rfl) ?_
          refine va_get (D := D) (ci := 5) (v := .ref (bd 3)) (C := RX8) (T := TX8) (N := 19) hx hb hts (fun w h => List.mem_cons_of_mem _ (zinX8 w h)) hown hK.1 hP 0 rfl rfl 4 (by decide) (hts _ (List.mem_cons_of_mem _ zw_76)) (fun _ h9 => h9) rfl dX8_save_27 ?_
          refine lv_sipush (v := nI 130) hx hb dX8_save_30 (by decide) ?_
          refine lv_iload_n hx hb dX8_save_33 rfl (lv_at hl 1 rfl) ?_
          refine zi_mul (v := nI (130 * j_)) hx hb dX8_save_34 (pk_mul _ _) ?_
          refine lv_iload_n hx hb dX8_save_35 rfl (lv_at hl 2 rfl) ?_
          refine zi_add (v := nI ((130 * j_) + i_)) hx hb dX8_save_36 (nI_add _ _) ?_
          refine lv_aload_n hx hb dX8_save_37 rfl (lv_at hl 0 rfl) ?_
          refine va_get (D := D) (ci := 5) (v := .ref (bd 1)) (C := RX8) (T := TX8) (N := 19) hx hb hts (fun w h => List.mem_cons_of_mem _ (zinX8 w h)) hown hK.1 hP 0 rfl rfl 1 (by decide) (hts _ (List.mem_cons_of_mem _ zw_74)) (fun _ h9 => h9) rfl dX8_save_38 ?_
          refine lv_iload_n hx hb dX8_save_41 rfl (lv_at hl 2 rfl) ?_
          refine zi_iald (v := nI (f_ i_)) hx hb hK hP 1 rfl (by omega) (by omega) rfl dX8_save_42 ?_
          refine zi_iast hx hb hK hP hD hS 2 rfl (by omega) (by omega) dX8_save_43 (fun H locs hP hD hS => ?_)
          rw [upd_nIf] at hP hD
          have hP : va_P D vwCl [((bd 0), .inr (5, [.int (nI 0), .ref (bd 1), .ref (bd 2), .int (nI (mU m_)), .ref (bd 3), .ref (bd 4), .ref (bd 5), .int (nI ln_), .int (nI at_), .int (if iw_ = true then 1 else 0), .ref (bd 6), .ref (bd 7), .ref (bd 8), .ref (bd 9), .ref (bd 10), .ref (bd 11), .ref (bd 12), .ref (bd 13), .ref (bd 14)])), ((bd 1), .inl (cy 0, 130, .inl (nIf f_))), ((bd 3), .inl (cy 0, 260, .inl (nIf (uN1 w_ ((130 * j_) + i_) (f_ i_))))), ((bd 4), .inl (cy 2, 2, .inl (nBf (s_).2)))] H := hP
          have hD : va_D zA [((bd 0), .inr (5, [.int (nI 0), .ref (bd 1), .ref (bd 2), .int (nI (mU m_)), .ref (bd 3), .ref (bd 4), .ref (bd 5), .int (nI ln_), .int (nI at_), .int (if iw_ = true then 1 else 0), .ref (bd 6), .ref (bd 7), .ref (bd 8), .ref (bd 9), .ref (bd 10), .ref (bd 11), .ref (bd 12), .ref (bd 13), .ref (bd 14)])), ((bd 1), .inl (cy 0, 130, .inl (nIf f_))), ((bd 3), .inl (cy 0, 260, .inl (nIf (uN1 w_ ((130 * j_) + i_) (f_ i_))))), ((bd 4), .inl (cy 2, 2, .inl (nBf (s_).2)))] := hD
          refine lv_iinc (v := nI (i_ + 1)) (lv' := [(2, .int (nI (i_ + 1))), (0, .ref (bd 0)), (1, .int (nI j_))]) hx hb dX8_save_44 hl (k := 2) rfl (nI_1 _) (by decide) rfl (fun ls hl => ?_)
          refine lv_goto (tgt := 19) hx hb dX8_save_47 (by decide) ?_
          exact ih19 (i_ + 1) (uN1 w_ ((130 * j_) + i_) (f_ i_)) (by omega) (fun z_ hz_ => by by_cases q_ : z_ = i_; subst q_; exact uN1_s _ _ _; rw [uN1_n _ (by omega)]; exact hn_ z_ (by omega)) (fun z_ hz_ => by rw [uN1_n _ (by omega)]; exact ho_ z_ (by omega)) (by omega) _ _ hP hD hS _ (lv_sub hl [1, 2, 0] rfl)
    exact L19 (130 - 0 + 1) 0 l_ (Nat.zero_le _) (fun z_ hz_ => absurd hz_ (Nat.not_lt_zero _)) (fun z_ _ => rfl) (Nat.lt_succ_self _) _ _ hP hD hS _ (lv_sub hl [1, 2, 0] rfl)
  · skip
    refine lv_bipush (v := (-2)) hx hb dX8_save_14 (by decide) ?_
    have e_ : opSave m_ s_ x_ = (-2, s_) := if_neg (by omega)
    rw [e_] at kr
    exact kr _ l_ _ _ _ _ dX8_save_16 (vp_nar_int _) ⟨rfl, hSl⟩ hP hD hS
abbrev w_X8_restore : List Cond := Cond.code yX8_restore cX8_restore 3 (some .int) :: zAll
abbrev r_X8_restore : Room := { frames := 1, cells := 0, slots := 0, locals := 22 }
theorem zd_X8_restore : yX8_restore.cls = RX8 ∧ yX8_restore.cls ≠ "java/lang/invoke/MethodHandle" ∧ yX8_restore.cls ≠ "java/lang/invoke/VarHandle" ∧ (parseMethodDescriptor yX8_restore.desc).map (fun d => d.parameters.length) = some 1 := by decide +kernel
set_option maxHeartbeats 4000000 in
set_option maxRecDepth 100000 in
theorem c_X8_restore (l : Launch) (D : va_G) (cy : Nat → ClassId) (sz : Nat) (bd : Nat → Nat) (m_ : MT) (ln_ : Nat) (at_ : Nat) (iw_ : Bool) (f_ : Nat → Nat) (u_ : Nat → Nat) (s_ : SL) (l_ : Nat → Nat) (x_ : Int32) (hw : TVok m_.1) (hX6 : mX m_ < 6) (hU6 : mU m_ ≤ 6) (hM : MR m_ f_ u_) (hSl : SlR s_ l_) : zWi l yX8_restore w_X8_restore r_X8_restore D cy [((bd 0), .inr (5, [.int (nI 0), .ref (bd 1), .ref (bd 2), .int (nI (mU m_)), .ref (bd 3), .ref (bd 4), .ref (bd 5), .int (nI ln_), .int (nI at_), .int (if iw_ = true then 1 else 0), .ref (bd 6), .ref (bd 7), .ref (bd 8), .ref (bd 9), .ref (bd 10), .ref (bd 11), .ref (bd 12), .ref (bd 13), .ref (bd 14)])), ((bd 1), .inl (cy 0, 130, .inl (nIf f_))), ((bd 2), .inl (cy 0, 780, .inl (nIf u_))), ((bd 3), .inl (cy 0, 260, .inl (nIf l_))), ((bd 4), .inl (cy 2, 2, .inl (nBf (s_).2)))] sz [.ref (bd 0), .int x_] (fun (r_ : Int32) (u : (Nat → Nat) × (Nat → Nat)) => r_ = ((opRestore m_ s_ x_).1) ∧ MR (opRestore m_ s_ x_).2 u.1 u.2) (fun u : (Nat → Nat) × (Nat → Nat) => ([((bd 0), .inr (5, [.int (nI 0), .ref (bd 1), .ref (bd 2), .int (nI (mU (opRestore m_ s_ x_).2)), .ref (bd 3), .ref (bd 4), .ref (bd 5), .int (nI ln_), .int (nI at_), .int (if iw_ = true then 1 else 0), .ref (bd 6), .ref (bd 7), .ref (bd 8), .ref (bd 9), .ref (bd 10), .ref (bd 11), .ref (bd 12), .ref (bd 13), .ref (bd 14)])), ((bd 1), .inl (cy 0, 130, .inl (nIf u.1))), ((bd 2), .inl (cy 0, 780, .inl (nIf u.2))), ((bd 3), .inl (cy 0, 260, .inl (nIf l_))), ((bd 4), .inl (cy 2, 2, .inl (nBf (s_).2)))] : va_W)) := by
  refine zOfW (cc := cX8_restore) (maxL := 3) (ty := .int) (by decide) rfl (Nat.le_of_ble_eq_true rfl) ?_
  intro zp ze zs zm za zb zme zc hx hb hml hts hown hP hK zA hD hA Q kr ls hl
  have hS : va_S zA zs.heap zs.heap [] := va_S.rf
  have hown : zs.vm.findClass RX8 = some zm.cls := hown
  have hl : lv_has ls 3 [(0, .ref (bd 0)), (1, .int x_)] := hl
  have hn2 := ok_2 hw
  have hn16 := ok_n hw
  have hC6 := ok_C hw
  have hf0 : f_ 0 = mN m_ := hM.1.1
  have hf1 : f_ 1 = mC m_ := hM.1.2.1
  have hk2_ : (nI 2).toInt = 2 := rfl
  have hk16_ : (nI 16).toInt = 16 := rfl
  have hk0_ : (nI 0).toInt = 0 := rfl
  have hk1_ : (nI 1).toInt = 1 := rfl
  have hk9_ : (nI 999).toInt = 999 := rfl
  have hk8_ : (-999 : Int32).toInt = -999 := rfl
  refine lv_aload_n hx hb dX8_restore_0 rfl (lv_at hl 0 rfl) ?_
  refine lv_iconst (v := nI 0) hx hb dX8_restore_1 (by decide) ?_
  refine va_put (D := D) (ci := 5) (v := .int (nI 0)) (ty := .int) (C := RX8) (T := TX8) (N := 19) hx hb hts (fun w h => List.mem_cons_of_mem _ (zinX8 w h)) tyX8 tyX8_ok nmX8 hown hK.1 hP hD hS 0 rfl rfl 0 (by decide) (hts _ (List.mem_cons_of_mem _ zw_88)) (fun _ h9 => h9) rfl (tyX8_ok 0 (by decide)) rfl rfl (Nat.le_of_ble_eq_true rfl) dX8_restore_2 (fun H locs hP hD hS => ?_)
  have hP : va_P D vwCl [((bd 0), .inr (5, [.int (nI 0), .ref (bd 1), .ref (bd 2), .int (nI (mU m_)), .ref (bd 3), .ref (bd 4), .ref (bd 5), .int (nI ln_), .int (nI at_), .int (if iw_ = true then 1 else 0), .ref (bd 6), .ref (bd 7), .ref (bd 8), .ref (bd 9), .ref (bd 10), .ref (bd 11), .ref (bd 12), .ref (bd 13), .ref (bd 14)])), ((bd 1), .inl (cy 0, 130, .inl (nIf f_))), ((bd 2), .inl (cy 0, 780, .inl (nIf u_))), ((bd 3), .inl (cy 0, 260, .inl (nIf l_))), ((bd 4), .inl (cy 2, 2, .inl (nBf (s_).2)))] H := hP
  have hD : va_D zA [((bd 0), .inr (5, [.int (nI 0), .ref (bd 1), .ref (bd 2), .int (nI (mU m_)), .ref (bd 3), .ref (bd 4), .ref (bd 5), .int (nI ln_), .int (nI at_), .int (if iw_ = true then 1 else 0), .ref (bd 6), .ref (bd 7), .ref (bd 8), .ref (bd 9), .ref (bd 10), .ref (bd 11), .ref (bd 12), .ref (bd 13), .ref (bd 14)])), ((bd 1), .inl (cy 0, 130, .inl (nIf f_))), ((bd 2), .inl (cy 0, 780, .inl (nIf u_))), ((bd 3), .inl (cy 0, 260, .inl (nIf l_))), ((bd 4), .inl (cy 2, 2, .inl (nBf (s_).2)))] := hD
  refine lv_iload_n hx hb dX8_restore_5 rfl (lv_at hl 1 rfl) ?_
  refine lv_iconst (v := nI 0) hx hb dX8_restore_6 (by decide) ?_
  refine lv_iconst (v := nI 1) hx hb dX8_restore_7 (by decide) ?_
  refine zcSi (As := [.int x_, .int (nI 0), .int (nI 1)]) (rest := []) ⟨hx, hb, hml, hown, hts⟩ (c_X8_in l D cy x_ (nI 0) (nI 1)) (va_cwS 3 hts (zG_S zw_121 zw_122 zw_5 zw_123) rfl rfl rfl zd_X8_in ⟨Nat.le_of_ble_eq_true rfl, Nat.le_of_ble_eq_true rfl⟩) hK hP [] rfl rfl hl.1 rfl (Nat.le_of_ble_eq_true rfl) dX8_restore_8 ⟨Nat.zero_le _, Nat.zero_le _⟩ (fun r8 h8 => ?_)
  subst h8
  refine zq_ne (tgt := 17) hx hb dX8_restore_11 (by decide) (fun c11 => ?_) (fun c11 => ?_)
  · skip
    obtain ⟨j_, hj_, ej_⟩ := zz_rng (n := 2) (x := x_) (by omega)
    rw [ej_] at hl
    refine lv_aload_n hx hb dX8_restore_17 rfl (lv_at hl 0 rfl) ?_
    refine va_get (D := D) (ci := 5) (v := .ref (bd 4)) (C := RX8) (T := TX8) (N := 19) hx hb hts (fun w h => List.mem_cons_of_mem _ (zinX8 w h)) hown hK.1 hP 0 rfl rfl 5 (by decide) (hts _ (List.mem_cons_of_mem _ zw_77)) (fun _ h9 => h9) rfl dX8_restore_18 ?_
    refine lv_iload_n hx hb dX8_restore_21 rfl (lv_at hl 1 rfl) ?_
    refine zi_zald (v := if ((s_).2) j_ = true then 1 else 0) hx hb hK hP 4 rfl (by omega) (by omega) rfl dX8_restore_22 ?_
    refine zq_ne (tgt := 29) hx hb dX8_restore_23 (by decide) (fun c23 => ?_) (fun c23 => ?_)
    · skip
      have hs29 := hSl j_ hj_ c23
      refine lv_aload_n hx hb dX8_restore_29 rfl (lv_at hl 0 rfl) ?_
      refine zcWv (As := []) (rest := []) (wr := [((bd 3), .inl (cy 0, 260, .inl (nIf l_))), ((bd 4), .inl (cy 2, 2, .inl (nBf (s_).2)))]) ⟨hx, hb, hml, hown, hts⟩ (c_X8_records l D cy H.size bd (mU m_) ln_ at_ iw_ f_ u_ (by omega)) (cwV 0 hts (zG_V zw_124 zw_125 zw_126 zw_5 zw_127) rfl rfl rfl zd_X8_records ⟨Nat.le_of_ble_eq_true rfl, Nat.le_of_ble_eq_true rfl⟩) hK hP hD hS hA [0, 1, 2] [3, 4] [2, 3, 4, 0, 1] rfl (by decide) rfl (by decide) (by decide) (w2 := (fun u_ : (Nat → Nat) => ([((bd 0), .inr (5, [.int (nI 0), .ref (bd 1), .ref (bd 2), .int (nI ((mU m_) - (mU m_) / 6 + 1)), .ref (bd 3), .ref (bd 4), .ref (bd 5), .int (nI ln_), .int (nI at_), .int (if iw_ = true then 1 else 0), .ref (bd 6), .ref (bd 7), .ref (bd 8), .ref (bd 9), .ref (bd 10), .ref (bd 11), .ref (bd 12), .ref (bd 13), .ref (bd 14)])), ((bd 1), .inl (cy 0, 130, .inl (nIf f_))), ((bd 2), .inl (cy 0, 780, .inl (nIf u_))), ((bd 3), .inl (cy 0, 260, .inl (nIf l_))), ((bd 4), .inl (cy 2, 2, .inl (nBf (s_).2)))] : va_W))) (fun _ => rfl) (by decide) rfl rfl rfl rfl hl.1 rfl (Nat.le_of_ble_eq_true rfl) dX8_restore_30 ⟨Nat.zero_le _, Nat.zero_le _⟩ (fun  u30 H locs h30 hP hD hS => ?_)
      obtain ⟨w_30, rfl⟩ : ∃ z_, z_ = u30 := ⟨_, rfl⟩
      have h30 : (∀ z_, z_ < 130 → w_30 (130 * ((mU m_) - (mU m_) / 6) + z_) = f_ z_) ∧ ∀ j_ z_, j_ < (mU m_) - (mU m_) / 6 → z_ < 130 → w_30 (130 * j_ + z_) = u_ (130 * (j_ + (mU m_) / 6) + z_) := h30
      have hP : va_P D vwCl [((bd 0), .inr (5, [.int (nI 0), .ref (bd 1), .ref (bd 2), .int (nI ((mU m_) - (mU m_) / 6 + 1)), .ref (bd 3), .ref (bd 4), .ref (bd 5), .int (nI ln_), .int (nI at_), .int (if iw_ = true then 1 else 0), .ref (bd 6), .ref (bd 7), .ref (bd 8), .ref (bd 9), .ref (bd 10), .ref (bd 11), .ref (bd 12), .ref (bd 13), .ref (bd 14)])), ((bd 1), .inl (cy 0, 130, .inl (nIf f_))), ((bd 2), .inl (cy 0, 780, .inl (nIf w_30))), ((bd 3), .inl (cy 0, 260, .inl (nIf l_))), ((bd 4), .inl (cy 2, 2, .inl (nBf (s_).2)))] H := hP
      have hD : va_D zA [((bd 0), .inr (5, [.int (nI 0), .ref (bd 1), .ref (bd 2), .int (nI ((mU m_) - (mU m_) / 6 + 1)), .ref (bd 3), .ref (bd 4), .ref (bd 5), .int (nI ln_), .int (nI at_), .int (if iw_ = true then 1 else 0), .ref (bd 6), .ref (bd 7), .ref (bd 8), .ref (bd 9), .ref (bd 10), .ref (bd 11), .ref (bd 12), .ref (bd 13), .ref (bd 14)])), ((bd 1), .inl (cy 0, 130, .inl (nIf f_))), ((bd 2), .inl (cy 0, 780, .inl (nIf w_30))), ((bd 3), .inl (cy 0, 260, .inl (nIf l_))), ((bd 4), .inl (cy 2, 2, .inl (nBf (s_).2)))] := hD
      refine lv_iconst (v := nI 0) hx hb dX8_restore_33 (by decide) ?_
      refine lv_istore_n (lv' := [(2, .int (nI 0)), (0, .ref (bd 0)), (1, .int (nI j_))]) hx hb dX8_restore_34 rfl hl (by decide) rfl (fun ls hl => ?_)
      have L35 : ∀ (kf_ : Nat) (i_ : Nat) (w_ : Nat → Nat) (hi : i_ ≤ 130) (hn_ : ∀ z_, z_ < i_ → w_ z_ = l_ (130 * j_ + z_)), 130 - i_ < kf_ → ∀ (H : Heap) (locs : List Loc), va_P D vwCl [((bd 0), .inr (5, [.int (nI 0), .ref (bd 1), .ref (bd 2), .int (nI ((mU m_) - (mU m_) / 6 + 1)), .ref (bd 3), .ref (bd 4), .ref (bd 5), .int (nI ln_), .int (nI at_), .int (if iw_ = true then 1 else 0), .ref (bd 6), .ref (bd 7), .ref (bd 8), .ref (bd 9), .ref (bd 10), .ref (bd 11), .ref (bd 12), .ref (bd 13), .ref (bd 14)])), ((bd 1), .inl (cy 0, 130, .inl (nIf w_))), ((bd 2), .inl (cy 0, 780, .inl (nIf w_30))), ((bd 3), .inl (cy 0, 260, .inl (nIf l_))), ((bd 4), .inl (cy 2, 2, .inl (nBf (s_).2)))] H → va_D zA [((bd 0), .inr (5, [.int (nI 0), .ref (bd 1), .ref (bd 2), .int (nI ((mU m_) - (mU m_) / 6 + 1)), .ref (bd 3), .ref (bd 4), .ref (bd 5), .int (nI ln_), .int (nI at_), .int (if iw_ = true then 1 else 0), .ref (bd 6), .ref (bd 7), .ref (bd 8), .ref (bd 9), .ref (bd 10), .ref (bd 11), .ref (bd 12), .ref (bd 13), .ref (bd 14)])), ((bd 1), .inl (cy 0, 130, .inl (nIf w_))), ((bd 2), .inl (cy 0, 780, .inl (nIf w_30))), ((bd 3), .inl (cy 0, 260, .inl (nIf l_))), ((bd 4), .inl (cy 2, 2, .inl (nBf (s_).2)))] → va_S zA zs.heap H locs → ∀ ls : Array Slot, lv_has ls 3 [(0, .ref (bd 0)), (1, .int (nI j_)), (2, .int (nI i_))] → W zp l ze r_X8_restore zs zm za zb zme zc H locs 0 0 Q (F0 zm 35 ls []) := by
        intro kf_
        induction kf_ with
        | zero => intro i_ w_ hi hn_ hk_; exact absurd hk_ (Nat.not_lt_zero _)
        | succ kf_ ih35 =>
          intro i_ w_ hi hn_ hk_ H locs hP hD hS ls hl
          refine lv_iload_n hx hb dX8_restore_35 rfl (lv_at hl 2 rfl) ?_
          refine lv_sipush (v := nI 130) hx hb dX8_restore_36 (by decide) ?_
          refine zb_ge (a := i_) (b := 130) (tgt := 66) hx hb dX8_restore_39 (by decide) (by omega) (by omega) (fun c39 => ?_) (fun c39 => ?_)
          · skip
            refine lv_aload_n hx hb dX8_restore_66 rfl (lv_at hl 0 rfl) ?_
            refine va_get (D := D) (ci := 5) (v := .ref (bd 1)) (C := RX8) (T := TX8) (N := 19) hx hb hts (fun w h => List.mem_cons_of_mem _ (zinX8 w h)) hown hK.1 hP 0 rfl rfl 1 (by decide) (hts _ (List.mem_cons_of_mem _ zw_74)) (fun _ h9 => h9) rfl dX8_restore_67 ?_
            refine lv_iconst (v := nI 1) hx hb dX8_restore_70 (by decide) ?_
            refine zi_iald (v := nI (w_ 1)) hx hb hK hP 1 rfl (by omega) (by omega) rfl dX8_restore_71 ?_
            have eu_ : mU m_ - mU m_ / 6 + 1 = upD (mU m_) := (upD_E hU6).symm
            rw [eu_] at hP hD
            have e_ : opRestore m_ s_ x_ = (nI (s_.1 j_).2.2.2.1, putM m_ (s_.1 j_)) := by unfold opRestore; rw [if_pos (by omega), ej_, ix_nI (by omega), if_pos c23]
            rw [e_] at kr
            exact kr _ (w_, w_30) _ _ _ _ dX8_restore_72 (vp_nar_int _) ⟨congrArg nI ((hn_ 1 (by omega)).trans hs29.2.2.1), mr_put (RowR.congr hs29.1 hs29.2 (fun z_ hz_ => hn_ z_ (by omega))) (rec_u hw hX6 hU6 hM h30)⟩ hP hD hS
          · skip
            refine lv_aload_n hx hb dX8_restore_42 rfl (lv_at hl 0 rfl) ?_
            refine va_get (D := D) (ci := 5) (v := .ref (bd 1)) (C := RX8) (T := TX8) (N := 19) hx hb hts (fun w h => List.mem_cons_of_mem _ (zinX8 w h)) hown hK.1 hP 0 rfl rfl 1 (by decide) (hts _ (List.mem_cons_of_mem _ zw_74)) (fun _ h9 => h9) rfl dX8_restore_43 ?_
            refine lv_iload_n hx hb dX8_restore_46 rfl (lv_at hl 2 rfl) ?_
            refine lv_aload_n hx hb dX8_restore_47 rfl (lv_at hl 0 rfl) ?_
            refine va_get (D := D) (ci := 5) (v := .ref (bd 3)) (C := RX8) (T := TX8) (N := 19) hx hb hts (fun w h => List.mem_cons_of_mem _ (zinX8 w h)) hown hK.1 hP 0 rfl rfl 4 (by decide) (hts _ (List.mem_cons_of_mem _ zw_76)) (fun _ h9 => h9) rfl dX8_restore_48 ?_
            refine lv_sipush (v := nI 130) hx hb dX8_restore_51 (by decide) ?_
            refine lv_iload_n hx hb dX8_restore_54 rfl (lv_at hl 1 rfl) ?_
            refine zi_mul (v := nI (130 * j_)) hx hb dX8_restore_55 (pk_mul _ _) ?_
            refine lv_iload_n hx hb dX8_restore_56 rfl (lv_at hl 2 rfl) ?_
            refine zi_add (v := nI ((130 * j_) + i_)) hx hb dX8_restore_57 (nI_add _ _) ?_
            refine zi_iald (v := nI (l_ ((130 * j_) + i_))) hx hb hK hP 3 rfl (by omega) (by omega) rfl dX8_restore_58 ?_
            refine zi_iast hx hb hK hP hD hS 1 rfl (by omega) (by omega) dX8_restore_59 (fun H locs hP hD hS => ?_)
            rw [upd_nIf] at hP hD
            have hP : va_P D vwCl [((bd 0), .inr (5, [.int (nI 0), .ref (bd 1), .ref (bd 2), .int (nI ((mU m_) - (mU m_) / 6 + 1)), .ref (bd 3), .ref (bd 4), .ref (bd 5), .int (nI ln_), .int (nI at_), .int (if iw_ = true then 1 else 0), .ref (bd 6), .ref (bd 7), .ref (bd 8), .ref (bd 9), .ref (bd 10), .ref (bd 11), .ref (bd 12), .ref (bd 13), .ref (bd 14)])), ((bd 1), .inl (cy 0, 130, .inl (nIf (uN1 w_ i_ (l_ ((130 * j_) + i_)))))), ((bd 2), .inl (cy 0, 780, .inl (nIf w_30))), ((bd 3), .inl (cy 0, 260, .inl (nIf l_))), ((bd 4), .inl (cy 2, 2, .inl (nBf (s_).2)))] H := hP
            have hD : va_D zA [((bd 0), .inr (5, [.int (nI 0), .ref (bd 1), .ref (bd 2), .int (nI ((mU m_) - (mU m_) / 6 + 1)), .ref (bd 3), .ref (bd 4), .ref (bd 5), .int (nI ln_), .int (nI at_), .int (if iw_ = true then 1 else 0), .ref (bd 6), .ref (bd 7), .ref (bd 8), .ref (bd 9), .ref (bd 10), .ref (bd 11), .ref (bd 12), .ref (bd 13), .ref (bd 14)])), ((bd 1), .inl (cy 0, 130, .inl (nIf (uN1 w_ i_ (l_ ((130 * j_) + i_)))))), ((bd 2), .inl (cy 0, 780, .inl (nIf w_30))), ((bd 3), .inl (cy 0, 260, .inl (nIf l_))), ((bd 4), .inl (cy 2, 2, .inl (nBf (s_).2)))] := hD
            refine lv_iinc (v := nI (i_ + 1)) (lv' := [(2, .int (nI (i_ + 1))), (0, .ref (bd 0)), (1, .int (nI j_))]) hx hb dX8_restore_60 hl (k := 2) rfl (nI_1 _) (by decide) rfl (fun ls hl => ?_)
            refine lv_goto (tgt := 35) hx hb dX8_restore_63 (by decide) ?_
            exact ih35 (i_ + 1) (uN1 w_ i_ (l_ ((130 * j_) + i_))) (by omega) (fun z_ hz_ => by by_cases q_ : z_ = i_; subst q_; exact uN1_s _ _ _; rw [uN1_n _ (by omega)]; exact hn_ z_ (by omega)) (by omega) _ _ hP hD hS _ (lv_sub hl [1, 2, 0] rfl)
      exact L35 (130 - 0 + 1) 0 f_ (Nat.zero_le _) (fun z_ hz_ => absurd hz_ (Nat.not_lt_zero _)) (Nat.lt_succ_self _) _ _ hP hD hS _ (lv_sub hl [1, 2, 0] rfl)
    · skip
      refine lv_bipush (v := (-5)) hx hb dX8_restore_26 (by decide) ?_
      have e_ : opRestore m_ s_ x_ = (-5, m_) := by unfold opRestore; rw [if_pos (by omega), ej_, ix_nI (by omega), if_neg c23]
      rw [e_] at kr
      exact kr _ (f_, u_) _ _ _ _ dX8_restore_28 (vp_nar_int _) ⟨rfl, hM⟩ hP hD hS
  · skip
    refine lv_bipush (v := (-2)) hx hb dX8_restore_14 (by decide) ?_
    have e_ : opRestore m_ s_ x_ = (-2, m_) := if_neg (by omega)
    rw [e_] at kr
    exact kr _ (f_, u_) _ _ _ _ dX8_restore_16 (vp_nar_int _) ⟨rfl, hM⟩ hP hD hS
abbrev w_X8_drop : List Cond := Cond.code yX8_drop cX8_drop 3 (some .int) :: zAll
abbrev r_X8_drop : Room := { frames := 2, cells := 0, slots := 0, locals := 43 }
theorem zd_X8_drop : yX8_drop.cls = RX8 ∧ yX8_drop.cls ≠ "java/lang/invoke/MethodHandle" ∧ yX8_drop.cls ≠ "java/lang/invoke/VarHandle" ∧ (parseMethodDescriptor yX8_drop.desc).map (fun d => d.parameters.length) = some 1 := by decide +kernel
set_option maxHeartbeats 4000000 in
set_option maxRecDepth 100000 in
theorem c_X8_drop (l : Launch) (D : va_G) (cy : Nat → ClassId) (sz : Nat) (bd : Nat → Nat) (m_ : MT) (ln_ : Nat) (at_ : Nat) (iw_ : Bool) (f_ : Nat → Nat) (u_ : Nat → Nat) (a_ : Int32) (hw : TVok m_.1) (hX6 : mX m_ < 6) (hU6 : mU m_ ≤ 6) (hM : MR m_ f_ u_) : zWi l yX8_drop w_X8_drop r_X8_drop D cy [((bd 0), .inr (5, [.int (nI 0), .ref (bd 1), .ref (bd 2), .int (nI (mU m_)), .ref (bd 3), .ref (bd 4), .ref (bd 5), .int (nI ln_), .int (nI at_), .int (if iw_ = true then 1 else 0), .ref (bd 6), .ref (bd 7), .ref (bd 8), .ref (bd 9), .ref (bd 10), .ref (bd 11), .ref (bd 12), .ref (bd 13), .ref (bd 14)])), ((bd 1), .inl (cy 0, 130, .inl (nIf f_))), ((bd 2), .inl (cy 0, 780, .inl (nIf u_)))] sz [.ref (bd 0), .int a_] (fun (r_ : Int32) (u : (Nat → Nat) × (Nat → Nat)) => r_ = ((opDrop m_ a_).1) ∧ MR (opDrop m_ a_).2 u.1 u.2) (fun u : (Nat → Nat) × (Nat → Nat) => ([((bd 0), .inr (5, [.int (nI 0), .ref (bd 1), .ref (bd 2), .int (nI (mU (opDrop m_ a_).2)), .ref (bd 3), .ref (bd 4), .ref (bd 5), .int (nI ln_), .int (nI at_), .int (if iw_ = true then 1 else 0), .ref (bd 6), .ref (bd 7), .ref (bd 8), .ref (bd 9), .ref (bd 10), .ref (bd 11), .ref (bd 12), .ref (bd 13), .ref (bd 14)])), ((bd 1), .inl (cy 0, 130, .inl (nIf u.1))), ((bd 2), .inl (cy 0, 780, .inl (nIf u.2)))] : va_W)) := by
  refine zOfW (cc := cX8_drop) (maxL := 3) (ty := .int) (by decide) rfl (Nat.le_of_ble_eq_true rfl) ?_
  intro zp ze zs zm za zb zme zc hx hb hml hts hown hP hK zA hD hA Q kr ls hl
  have hS : va_S zA zs.heap zs.heap [] := va_S.rf
  have hown : zs.vm.findClass RX8 = some zm.cls := hown
  have hl : lv_has ls 3 [(0, .ref (bd 0)), (1, .int a_)] := hl
  have hn2 := ok_2 hw
  have hn16 := ok_n hw
  have hC6 := ok_C hw
  have hf0 : f_ 0 = mN m_ := hM.1.1
  have hf1 : f_ 1 = mC m_ := hM.1.2.1
  have hk2_ : (nI 2).toInt = 2 := rfl
  have hk16_ : (nI 16).toInt = 16 := rfl
  have hk0_ : (nI 0).toInt = 0 := rfl
  have hk1_ : (nI 1).toInt = 1 := rfl
  have hk9_ : (nI 999).toInt = 999 := rfl
  have hk8_ : (-999 : Int32).toInt = -999 := rfl
  refine lv_aload_n hx hb dX8_drop_0 rfl (lv_at hl 0 rfl) ?_
  refine lv_iconst (v := nI 0) hx hb dX8_drop_1 (by decide) ?_
  refine va_put (D := D) (ci := 5) (v := .int (nI 0)) (ty := .int) (C := RX8) (T := TX8) (N := 19) hx hb hts (fun w h => List.mem_cons_of_mem _ (zinX8 w h)) tyX8 tyX8_ok nmX8 hown hK.1 hP hD hS 0 rfl rfl 0 (by decide) (hts _ (List.mem_cons_of_mem _ zw_88)) (fun _ h9 => h9) rfl (tyX8_ok 0 (by decide)) rfl rfl (Nat.le_of_ble_eq_true rfl) dX8_drop_2 (fun H locs hP hD hS => ?_)
  have hP : va_P D vwCl [((bd 0), .inr (5, [.int (nI 0), .ref (bd 1), .ref (bd 2), .int (nI (mU m_)), .ref (bd 3), .ref (bd 4), .ref (bd 5), .int (nI ln_), .int (nI at_), .int (if iw_ = true then 1 else 0), .ref (bd 6), .ref (bd 7), .ref (bd 8), .ref (bd 9), .ref (bd 10), .ref (bd 11), .ref (bd 12), .ref (bd 13), .ref (bd 14)])), ((bd 1), .inl (cy 0, 130, .inl (nIf f_))), ((bd 2), .inl (cy 0, 780, .inl (nIf u_)))] H := hP
  have hD : va_D zA [((bd 0), .inr (5, [.int (nI 0), .ref (bd 1), .ref (bd 2), .int (nI (mU m_)), .ref (bd 3), .ref (bd 4), .ref (bd 5), .int (nI ln_), .int (nI at_), .int (if iw_ = true then 1 else 0), .ref (bd 6), .ref (bd 7), .ref (bd 8), .ref (bd 9), .ref (bd 10), .ref (bd 11), .ref (bd 12), .ref (bd 13), .ref (bd 14)])), ((bd 1), .inl (cy 0, 130, .inl (nIf f_))), ((bd 2), .inl (cy 0, 780, .inl (nIf u_)))] := hD
  refine lv_aload_n hx hb dX8_drop_5 rfl (lv_at hl 0 rfl) ?_
  refine lv_iload_n hx hb dX8_drop_6 rfl (lv_at hl 1 rfl) ?_
  refine zcRi (As := [.int a_]) (rest := []) ⟨hx, hb, hml, hown, hts⟩ (c_X8_isMark l D cy bd (mU m_) ln_ at_ iw_ f_ a_ (by omega)) (cwV 1 hts (zG_V zw_253 zw_254 zw_255 zw_5 zw_256) rfl rfl rfl zd_X8_isMark ⟨Nat.le_of_ble_eq_true rfl, Nat.le_of_ble_eq_true rfl⟩) hK hP [0, 1] rfl rfl rfl rfl rfl hl.1 rfl (Nat.le_of_ble_eq_true rfl) dX8_drop_7 ⟨Nat.zero_le _, Nat.zero_le _⟩ (fun r7 h7 => ?_)
  subst h7
  refine zq_ne (tgt := 15) hx hb dX8_drop_10 (by decide) (fun c10 => ?_) (fun c10 => ?_)
  · skip
    have hba : bM m_ a_ = true := bM_iff.mpr (by omega)
    obtain ⟨j_, hj_, ej_⟩ := zz_rng (n := mC m_) (x := a_) (by omega)
    rw [ej_] at hl
    refine lv_aload_n hx hb dX8_drop_15 rfl (lv_at hl 0 rfl) ?_
    refine zcWv (As := []) (rest := []) (wr := []) ⟨hx, hb, hml, hown, hts⟩ (c_X8_records l D cy H.size bd (mU m_) ln_ at_ iw_ f_ u_ (by omega)) (cwV 0 hts (zG_V zw_124 zw_125 zw_126 zw_5 zw_127) rfl rfl rfl zd_X8_records ⟨Nat.le_of_ble_eq_true rfl, Nat.le_of_ble_eq_true rfl⟩) hK hP hD hS hA [0, 1, 2] [] [0, 1, 2] rfl (by decide) rfl (by decide) (by decide) (w2 := (fun u_ : (Nat → Nat) => ([((bd 0), .inr (5, [.int (nI 0), .ref (bd 1), .ref (bd 2), .int (nI ((mU m_) - (mU m_) / 6 + 1)), .ref (bd 3), .ref (bd 4), .ref (bd 5), .int (nI ln_), .int (nI at_), .int (if iw_ = true then 1 else 0), .ref (bd 6), .ref (bd 7), .ref (bd 8), .ref (bd 9), .ref (bd 10), .ref (bd 11), .ref (bd 12), .ref (bd 13), .ref (bd 14)])), ((bd 1), .inl (cy 0, 130, .inl (nIf f_))), ((bd 2), .inl (cy 0, 780, .inl (nIf u_)))] : va_W))) (fun _ => rfl) (by decide) rfl rfl rfl rfl hl.1 rfl (Nat.le_of_ble_eq_true rfl) dX8_drop_16 ⟨Nat.zero_le _, Nat.zero_le _⟩ (fun  u16 H locs h16 hP hD hS => ?_)
    obtain ⟨w_16, rfl⟩ : ∃ z_, z_ = u16 := ⟨_, rfl⟩
    have h16 : (∀ z_, z_ < 130 → w_16 (130 * ((mU m_) - (mU m_) / 6) + z_) = f_ z_) ∧ ∀ j_ z_, j_ < (mU m_) - (mU m_) / 6 → z_ < 130 → w_16 (130 * j_ + z_) = u_ (130 * (j_ + (mU m_) / 6) + z_) := h16
    have hP : va_P D vwCl [((bd 0), .inr (5, [.int (nI 0), .ref (bd 1), .ref (bd 2), .int (nI ((mU m_) - (mU m_) / 6 + 1)), .ref (bd 3), .ref (bd 4), .ref (bd 5), .int (nI ln_), .int (nI at_), .int (if iw_ = true then 1 else 0), .ref (bd 6), .ref (bd 7), .ref (bd 8), .ref (bd 9), .ref (bd 10), .ref (bd 11), .ref (bd 12), .ref (bd 13), .ref (bd 14)])), ((bd 1), .inl (cy 0, 130, .inl (nIf f_))), ((bd 2), .inl (cy 0, 780, .inl (nIf w_16)))] H := hP
    have hD : va_D zA [((bd 0), .inr (5, [.int (nI 0), .ref (bd 1), .ref (bd 2), .int (nI ((mU m_) - (mU m_) / 6 + 1)), .ref (bd 3), .ref (bd 4), .ref (bd 5), .int (nI ln_), .int (nI at_), .int (if iw_ = true then 1 else 0), .ref (bd 6), .ref (bd 7), .ref (bd 8), .ref (bd 9), .ref (bd 10), .ref (bd 11), .ref (bd 12), .ref (bd 13), .ref (bd 14)])), ((bd 1), .inl (cy 0, 130, .inl (nIf f_))), ((bd 2), .inl (cy 0, 780, .inl (nIf w_16)))] := hD
    refine lv_aload_n hx hb dX8_drop_19 rfl (lv_at hl 0 rfl) ?_
    refine va_get (D := D) (ci := 5) (v := .ref (bd 1)) (C := RX8) (T := TX8) (N := 19) hx hb hts (fun w h => List.mem_cons_of_mem _ (zinX8 w h)) hown hK.1 hP 0 rfl rfl 1 (by decide) (hts _ (List.mem_cons_of_mem _ zw_74)) (fun _ h9 => h9) rfl dX8_drop_20 ?_
    refine lv_iconst (v := nI 1) hx hb dX8_drop_23 (by decide) ?_
    refine lv_dup2_11 hx hb dX8_drop_24 rfl rfl ?_
    refine zi_iald (v := nI (f_ 1)) hx hb hK hP 1 rfl (by omega) (by omega) rfl dX8_drop_25 ?_
    refine lv_iconst (v := nI 1) hx hb dX8_drop_26 (by decide) ?_
    refine zi_sub (v := nI ((f_ 1) - 1)) hx hb dX8_drop_27 (pk_sub (by omega)) ?_
    refine zi_iast hx hb hK hP hD hS 1 rfl (by omega) (by omega) dX8_drop_28 (fun H locs hP hD hS => ?_)
    rw [upd_nIf] at hP hD
    have hP : va_P D vwCl [((bd 0), .inr (5, [.int (nI 0), .ref (bd 1), .ref (bd 2), .int (nI ((mU m_) - (mU m_) / 6 + 1)), .ref (bd 3), .ref (bd 4), .ref (bd 5), .int (nI ln_), .int (nI at_), .int (if iw_ = true then 1 else 0), .ref (bd 6), .ref (bd 7), .ref (bd 8), .ref (bd 9), .ref (bd 10), .ref (bd 11), .ref (bd 12), .ref (bd 13), .ref (bd 14)])), ((bd 1), .inl (cy 0, 130, .inl (nIf (uN1 f_ 1 ((f_ 1) - 1))))), ((bd 2), .inl (cy 0, 780, .inl (nIf w_16)))] H := hP
    have hD : va_D zA [((bd 0), .inr (5, [.int (nI 0), .ref (bd 1), .ref (bd 2), .int (nI ((mU m_) - (mU m_) / 6 + 1)), .ref (bd 3), .ref (bd 4), .ref (bd 5), .int (nI ln_), .int (nI at_), .int (if iw_ = true then 1 else 0), .ref (bd 6), .ref (bd 7), .ref (bd 8), .ref (bd 9), .ref (bd 10), .ref (bd 11), .ref (bd 12), .ref (bd 13), .ref (bd 14)])), ((bd 1), .inl (cy 0, 130, .inl (nIf (uN1 f_ 1 ((f_ 1) - 1))))), ((bd 2), .inl (cy 0, 780, .inl (nIf w_16)))] := hD
    refine lv_bipush (v := nI 16) hx hb dX8_drop_29 (by decide) ?_
    refine lv_iload_n hx hb dX8_drop_31 rfl (lv_at hl 1 rfl) ?_
    refine zi_mul (v := nI (16 * j_)) hx hb dX8_drop_32 (pk_mul _ _) ?_
    refine lv_istore_n (lv' := [(2, .int (nI (16 * j_))), (0, .ref (bd 0)), (1, .int (nI j_))]) hx hb dX8_drop_33 rfl hl (by decide) rfl (fun ls hl => ?_)
    have L34 : ∀ (kf_ : Nat) (t_ : Nat) (w_ : Nat → Nat) (h0_ : 16 * j_ ≤ t_) (hi : t_ ≤ 16 * (f_ 1 - 1)) (h1_ : w_ 1 = f_ 1 - 1) (hn_ : ∀ z_, 34 + 16 * j_ ≤ z_ → z_ < 34 + t_ → w_ z_ = f_ (z_ + 16)) (ho_ : ∀ z_, z_ ≠ 1 → z_ < 34 + 16 * j_ ∨ 34 + t_ ≤ z_ → w_ z_ = f_ z_), 16 * (f_ 1 - 1) - t_ < kf_ → ∀ (H : Heap) (locs : List Loc), va_P D vwCl [((bd 0), .inr (5, [.int (nI 0), .ref (bd 1), .ref (bd 2), .int (nI ((mU m_) - (mU m_) / 6 + 1)), .ref (bd 3), .ref (bd 4), .ref (bd 5), .int (nI ln_), .int (nI at_), .int (if iw_ = true then 1 else 0), .ref (bd 6), .ref (bd 7), .ref (bd 8), .ref (bd 9), .ref (bd 10), .ref (bd 11), .ref (bd 12), .ref (bd 13), .ref (bd 14)])), ((bd 1), .inl (cy 0, 130, .inl (nIf w_))), ((bd 2), .inl (cy 0, 780, .inl (nIf w_16)))] H → va_D zA [((bd 0), .inr (5, [.int (nI 0), .ref (bd 1), .ref (bd 2), .int (nI ((mU m_) - (mU m_) / 6 + 1)), .ref (bd 3), .ref (bd 4), .ref (bd 5), .int (nI ln_), .int (nI at_), .int (if iw_ = true then 1 else 0), .ref (bd 6), .ref (bd 7), .ref (bd 8), .ref (bd 9), .ref (bd 10), .ref (bd 11), .ref (bd 12), .ref (bd 13), .ref (bd 14)])), ((bd 1), .inl (cy 0, 130, .inl (nIf w_))), ((bd 2), .inl (cy 0, 780, .inl (nIf w_16)))] → va_S zA zs.heap H locs → ∀ ls : Array Slot, lv_has ls 3 [(0, .ref (bd 0)), (1, .int (nI j_)), (2, .int (nI t_))] → W zp l ze r_X8_drop zs zm za zb zme zc H locs 0 0 Q (F0 zm 34 ls []) := by
      intro kf_
      induction kf_ with
      | zero => intro t_ w_ h0_ hi h1_ hn_ ho_ hk_; exact absurd hk_ (Nat.not_lt_zero _)
      | succ kf_ ih34 =>
        intro t_ w_ h0_ hi h1_ hn_ ho_ hk_ H locs hP hD hS ls hl
        refine lv_iload_n hx hb dX8_drop_34 rfl (lv_at hl 2 rfl) ?_
        refine lv_bipush (v := nI 16) hx hb dX8_drop_35 (by decide) ?_
        refine lv_aload_n hx hb dX8_drop_37 rfl (lv_at hl 0 rfl) ?_
        refine va_get (D := D) (ci := 5) (v := .ref (bd 1)) (C := RX8) (T := TX8) (N := 19) hx hb hts (fun w h => List.mem_cons_of_mem _ (zinX8 w h)) hown hK.1 hP 0 rfl rfl 1 (by decide) (hts _ (List.mem_cons_of_mem _ zw_74)) (fun _ h9 => h9) rfl dX8_drop_38 ?_
        refine lv_iconst (v := nI 1) hx hb dX8_drop_41 (by decide) ?_
        refine zi_iald (v := nI (f_ 1 - 1)) hx hb hK hP 1 rfl (by omega) (by omega) (congrArg nI h1_) dX8_drop_42 ?_
        refine zi_mul (v := nI (16 * (f_ 1 - 1))) hx hb dX8_drop_43 (pk_mul _ _) ?_
        refine zb_ge (a := t_) (b := 16 * (f_ 1 - 1)) (tgt := 74) hx hb dX8_drop_44 (by decide) (by omega) (by omega) (fun c44 => ?_) (fun c44 => ?_)
        · skip
          refine lv_iconst (v := nI 0) hx hb dX8_drop_74 (by decide) ?_
          refine lv_istore_n (lv' := [(2, .int (nI 0)), (0, .ref (bd 0)), (1, .int (nI j_))]) hx hb dX8_drop_75 rfl hl (by decide) rfl (fun ls hl => ?_)
          have L76 : ∀ (kf_ : Nat) (i_ : Nat) (w_ : Nat → Nat) (hi : i_ ≤ 16) (h1_ : w_ 1 = f_ 1 - 1) (hn_ : ∀ z_, 34 + 16 * j_ ≤ z_ → z_ < 34 + 16 * (f_ 1 - 1) → w_ z_ = f_ (z_ + 16)) (ho_ : ∀ z_, z_ ≠ 1 → z_ < 34 + 16 * j_ → w_ z_ = f_ z_), 16 - i_ < kf_ → ∀ (H : Heap) (locs : List Loc), va_P D vwCl [((bd 0), .inr (5, [.int (nI 0), .ref (bd 1), .ref (bd 2), .int (nI ((mU m_) - (mU m_) / 6 + 1)), .ref (bd 3), .ref (bd 4), .ref (bd 5), .int (nI ln_), .int (nI at_), .int (if iw_ = true then 1 else 0), .ref (bd 6), .ref (bd 7), .ref (bd 8), .ref (bd 9), .ref (bd 10), .ref (bd 11), .ref (bd 12), .ref (bd 13), .ref (bd 14)])), ((bd 1), .inl (cy 0, 130, .inl (nIf w_))), ((bd 2), .inl (cy 0, 780, .inl (nIf w_16)))] H → va_D zA [((bd 0), .inr (5, [.int (nI 0), .ref (bd 1), .ref (bd 2), .int (nI ((mU m_) - (mU m_) / 6 + 1)), .ref (bd 3), .ref (bd 4), .ref (bd 5), .int (nI ln_), .int (nI at_), .int (if iw_ = true then 1 else 0), .ref (bd 6), .ref (bd 7), .ref (bd 8), .ref (bd 9), .ref (bd 10), .ref (bd 11), .ref (bd 12), .ref (bd 13), .ref (bd 14)])), ((bd 1), .inl (cy 0, 130, .inl (nIf w_))), ((bd 2), .inl (cy 0, 780, .inl (nIf w_16)))] → va_S zA zs.heap H locs → ∀ ls : Array Slot, lv_has ls 3 [(0, .ref (bd 0)), (1, .int (nI j_)), (2, .int (nI i_))] → W zp l ze r_X8_drop zs zm za zb zme zc H locs 0 0 Q (F0 zm 76 ls []) := by
            intro kf_
            induction kf_ with
            | zero => intro i_ w_ hi h1_ hn_ ho_ hk_; exact absurd hk_ (Nat.not_lt_zero _)
            | succ kf_ ih76 =>
              intro i_ w_ hi h1_ hn_ ho_ hk_ H locs hP hD hS ls hl
              refine lv_iload_n hx hb dX8_drop_76 rfl (lv_at hl 2 rfl) ?_
              refine lv_bipush (v := nI 16) hx hb dX8_drop_77 (by decide) ?_
              refine zb_ge (a := i_) (b := 16) (tgt := 108) hx hb dX8_drop_79 (by decide) (by omega) (by omega) (fun c79 => ?_) (fun c79 => ?_)
              · skip
                refine lv_aload_n hx hb dX8_drop_108 rfl (lv_at hl 0 rfl) ?_
                refine va_get (D := D) (ci := 5) (v := .ref (bd 1)) (C := RX8) (T := TX8) (N := 19) hx hb hts (fun w h => List.mem_cons_of_mem _ (zinX8 w h)) hown hK.1 hP 0 rfl rfl 1 (by decide) (hts _ (List.mem_cons_of_mem _ zw_74)) (fun _ h9 => h9) rfl dX8_drop_109 ?_
                refine lv_iconst (v := nI 1) hx hb dX8_drop_112 (by decide) ?_
                refine zi_iald (v := nI (f_ 1 - 1)) hx hb hK hP 1 rfl (by omega) (by omega) (congrArg nI h1_) dX8_drop_113 ?_
                have eu_ : mU m_ - mU m_ / 6 + 1 = upD (mU m_) := (upD_E hU6).symm
                rw [eu_] at hP hD
                have e_ : opDrop m_ a_ = (nI (mC m_ - 1), putM m_ (mN m_, mP m_, mT m_, mC m_ - 1, rmL (mM m_) j_ 5)) := by unfold opDrop; rw [if_pos hba, ej_, ix_nI (by omega)]
                rw [e_] at kr
                exact kr _ (w_, w_16) _ _ _ _ dX8_drop_114 (vp_nar_int _) ⟨congrArg nI (by omega), mr_put (row_drop hj_ hw hM.1 h1_ (fun i2_ p2_ hi2_ hp2_ => by by_cases q_ : j_ ≤ i2_; rw [if_pos q_]; exact (hn_ _ (by omega) (by omega)).trans (congrArg f_ (by omega)); rw [if_neg q_]; exact ho_ _ (by omega) (by omega)) (fun z_ h2_ h3_ => ho_ z_ h3_ (by omega))) (rec_u hw hX6 hU6 hM h16)⟩ hP hD hS
              · skip
                refine lv_aload_n hx hb dX8_drop_82 rfl (lv_at hl 0 rfl) ?_
                refine va_get (D := D) (ci := 5) (v := .ref (bd 1)) (C := RX8) (T := TX8) (N := 19) hx hb hts (fun w h => List.mem_cons_of_mem _ (zinX8 w h)) hown hK.1 hP 0 rfl rfl 1 (by decide) (hts _ (List.mem_cons_of_mem _ zw_74)) (fun _ h9 => h9) rfl dX8_drop_83 ?_
                refine lv_bipush (v := nI 34) hx hb dX8_drop_86 (by decide) ?_
                refine lv_bipush (v := nI 16) hx hb dX8_drop_88 (by decide) ?_
                refine lv_aload_n hx hb dX8_drop_90 rfl (lv_at hl 0 rfl) ?_
                refine va_get (D := D) (ci := 5) (v := .ref (bd 1)) (C := RX8) (T := TX8) (N := 19) hx hb hts (fun w h => List.mem_cons_of_mem _ (zinX8 w h)) hown hK.1 hP 0 rfl rfl 1 (by decide) (hts _ (List.mem_cons_of_mem _ zw_74)) (fun _ h9 => h9) rfl dX8_drop_91 ?_
                refine lv_iconst (v := nI 1) hx hb dX8_drop_94 (by decide) ?_
                refine zi_iald (v := nI (f_ 1 - 1)) hx hb hK hP 1 rfl (by omega) (by omega) (congrArg nI h1_) dX8_drop_95 ?_
                refine zi_mul (v := nI (16 * (f_ 1 - 1))) hx hb dX8_drop_96 (pk_mul _ _) ?_
                refine zi_add (v := nI (34 + (16 * (f_ 1 - 1)))) hx hb dX8_drop_97 (nI_add _ _) ?_
                refine lv_iload_n hx hb dX8_drop_98 rfl (lv_at hl 2 rfl) ?_
                refine zi_add (v := nI ((34 + (16 * (f_ 1 - 1))) + i_)) hx hb dX8_drop_99 (nI_add _ _) ?_
                refine lv_iconst (v := nI 0) hx hb dX8_drop_100 (by decide) ?_
                refine zi_iast hx hb hK hP hD hS 1 rfl (by omega) (by omega) dX8_drop_101 (fun H locs hP hD hS => ?_)
                rw [upd_nIf] at hP hD
                have hP : va_P D vwCl [((bd 0), .inr (5, [.int (nI 0), .ref (bd 1), .ref (bd 2), .int (nI ((mU m_) - (mU m_) / 6 + 1)), .ref (bd 3), .ref (bd 4), .ref (bd 5), .int (nI ln_), .int (nI at_), .int (if iw_ = true then 1 else 0), .ref (bd 6), .ref (bd 7), .ref (bd 8), .ref (bd 9), .ref (bd 10), .ref (bd 11), .ref (bd 12), .ref (bd 13), .ref (bd 14)])), ((bd 1), .inl (cy 0, 130, .inl (nIf (uN1 w_ ((34 + (16 * (f_ 1 - 1))) + i_) 0)))), ((bd 2), .inl (cy 0, 780, .inl (nIf w_16)))] H := hP
                have hD : va_D zA [((bd 0), .inr (5, [.int (nI 0), .ref (bd 1), .ref (bd 2), .int (nI ((mU m_) - (mU m_) / 6 + 1)), .ref (bd 3), .ref (bd 4), .ref (bd 5), .int (nI ln_), .int (nI at_), .int (if iw_ = true then 1 else 0), .ref (bd 6), .ref (bd 7), .ref (bd 8), .ref (bd 9), .ref (bd 10), .ref (bd 11), .ref (bd 12), .ref (bd 13), .ref (bd 14)])), ((bd 1), .inl (cy 0, 130, .inl (nIf (uN1 w_ ((34 + (16 * (f_ 1 - 1))) + i_) 0)))), ((bd 2), .inl (cy 0, 780, .inl (nIf w_16)))] := hD
                refine lv_iinc (v := nI (i_ + 1)) (lv' := [(2, .int (nI (i_ + 1))), (0, .ref (bd 0)), (1, .int (nI j_))]) hx hb dX8_drop_102 hl (k := 2) rfl (nI_1 _) (by decide) rfl (fun ls hl => ?_)
                refine lv_goto (tgt := 76) hx hb dX8_drop_105 (by decide) ?_
                exact ih76 (i_ + 1) (uN1 w_ ((34 + (16 * (f_ 1 - 1))) + i_) 0) (by omega) ((uN1_n _ (by omega)).trans h1_) (fun z_ h2_ h3_ => by rw [uN1_n _ (by omega)]; exact hn_ z_ h2_ h3_) (fun z_ h2_ h3_ => by rw [uN1_n _ (by omega)]; exact ho_ z_ h2_ h3_) (by omega) _ _ hP hD hS _ (lv_sub hl [1, 2, 0] rfl)
          exact L76 (16 - 0 + 1) 0 w_ (Nat.zero_le _) h1_ (fun z_ h2_ h3_ => hn_ z_ h2_ (by omega)) (fun z_ h2_ h3_ => ho_ z_ h2_ (Or.inl h3_)) (Nat.lt_succ_self _) _ _ hP hD hS _ (lv_sub hl [1, 2, 0] rfl)
        · skip
          refine lv_aload_n hx hb dX8_drop_47 rfl (lv_at hl 0 rfl) ?_
          refine va_get (D := D) (ci := 5) (v := .ref (bd 1)) (C := RX8) (T := TX8) (N := 19) hx hb hts (fun w h => List.mem_cons_of_mem _ (zinX8 w h)) hown hK.1 hP 0 rfl rfl 1 (by decide) (hts _ (List.mem_cons_of_mem _ zw_74)) (fun _ h9 => h9) rfl dX8_drop_48 ?_
          refine lv_bipush (v := nI 34) hx hb dX8_drop_51 (by decide) ?_
          refine lv_iload_n hx hb dX8_drop_53 rfl (lv_at hl 2 rfl) ?_
          refine zi_add (v := nI (34 + t_)) hx hb dX8_drop_54 (nI_add _ _) ?_
          refine lv_aload_n hx hb dX8_drop_55 rfl (lv_at hl 0 rfl) ?_
          refine va_get (D := D) (ci := 5) (v := .ref (bd 1)) (C := RX8) (T := TX8) (N := 19) hx hb hts (fun w h => List.mem_cons_of_mem _ (zinX8 w h)) hown hK.1 hP 0 rfl rfl 1 (by decide) (hts _ (List.mem_cons_of_mem _ zw_74)) (fun _ h9 => h9) rfl dX8_drop_56 ?_
          refine lv_bipush (v := nI 34) hx hb dX8_drop_59 (by decide) ?_
          refine lv_iload_n hx hb dX8_drop_61 rfl (lv_at hl 2 rfl) ?_
          refine zi_add (v := nI (34 + t_)) hx hb dX8_drop_62 (nI_add _ _) ?_
          refine lv_bipush (v := nI 16) hx hb dX8_drop_63 (by decide) ?_
          refine zi_add (v := nI ((34 + t_) + 16)) hx hb dX8_drop_65 (nI_add _ _) ?_
          refine zi_iald (v := nI (f_ (34 + t_ + 16))) hx hb hK hP 1 rfl (by omega) (by omega) (congrArg nI (ho_ _ (by omega) (by omega))) dX8_drop_66 ?_
          refine zi_iast hx hb hK hP hD hS 1 rfl (by omega) (by omega) dX8_drop_67 (fun H locs hP hD hS => ?_)
          rw [upd_nIf] at hP hD
          have hP : va_P D vwCl [((bd 0), .inr (5, [.int (nI 0), .ref (bd 1), .ref (bd 2), .int (nI ((mU m_) - (mU m_) / 6 + 1)), .ref (bd 3), .ref (bd 4), .ref (bd 5), .int (nI ln_), .int (nI at_), .int (if iw_ = true then 1 else 0), .ref (bd 6), .ref (bd 7), .ref (bd 8), .ref (bd 9), .ref (bd 10), .ref (bd 11), .ref (bd 12), .ref (bd 13), .ref (bd 14)])), ((bd 1), .inl (cy 0, 130, .inl (nIf (uN1 w_ (34 + t_) (f_ (34 + t_ + 16)))))), ((bd 2), .inl (cy 0, 780, .inl (nIf w_16)))] H := hP
          have hD : va_D zA [((bd 0), .inr (5, [.int (nI 0), .ref (bd 1), .ref (bd 2), .int (nI ((mU m_) - (mU m_) / 6 + 1)), .ref (bd 3), .ref (bd 4), .ref (bd 5), .int (nI ln_), .int (nI at_), .int (if iw_ = true then 1 else 0), .ref (bd 6), .ref (bd 7), .ref (bd 8), .ref (bd 9), .ref (bd 10), .ref (bd 11), .ref (bd 12), .ref (bd 13), .ref (bd 14)])), ((bd 1), .inl (cy 0, 130, .inl (nIf (uN1 w_ (34 + t_) (f_ (34 + t_ + 16)))))), ((bd 2), .inl (cy 0, 780, .inl (nIf w_16)))] := hD
          refine lv_iinc (v := nI (t_ + 1)) (lv' := [(2, .int (nI (t_ + 1))), (0, .ref (bd 0)), (1, .int (nI j_))]) hx hb dX8_drop_68 hl (k := 2) rfl (nI_1 _) (by decide) rfl (fun ls hl => ?_)
          refine lv_goto (tgt := 34) hx hb dX8_drop_71 (by decide) ?_
          exact ih34 (t_ + 1) (uN1 w_ (34 + t_) (f_ (34 + t_ + 16))) (by omega) (by omega) ((uN1_n _ (by omega)).trans h1_) (fun z_ h2_ h3_ => by by_cases q_ : z_ = 34 + t_; subst q_; exact uN1_s _ _ _; rw [uN1_n _ q_]; exact hn_ z_ h2_ (by omega)) (fun z_ h2_ h3_ => by rw [uN1_n _ (by omega)]; exact ho_ z_ h2_ (by omega)) (by omega) _ _ hP hD hS _ (lv_sub hl [1, 2, 0] rfl)
    exact L34 (16 * (f_ 1 - 1) - (16 * j_) + 1) (16 * j_) (uN1 f_ 1 ((f_ 1) - 1)) (by omega) (by omega) (uN1_s _ _ _) (fun z_ h2_ h3_ => by omega) (fun z_ h2_ _ => uN1_n _ h2_) (Nat.lt_succ_self _) _ _ hP hD hS _ (lv_sub hl [1, 2, 0] rfl)
  · skip
    refine lv_iconst (v := (-1)) hx hb dX8_drop_13 (by decide) ?_
    have e_ : opDrop m_ a_ = (-1, m_) := if_neg (fun q_ => c10 (by have := bM_iff.mp q_; omega))
    rw [e_] at kr
    exact kr _ (f_, u_) _ _ _ _ dX8_drop_14 (vp_nar_int _) ⟨rfl, hM⟩ hP hD hS

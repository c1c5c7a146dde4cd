abbrev w_X8_set : List Cond := Cond.code yX8_set cX8_set 3 (some .int) :: zAll
abbrev r_X8_set : Room := { frames := 1, cells := 0, slots := 0, locals := 22 }
theorem zd_X8_set : yX8_set.cls = RX8 ∧ yX8_set.cls ≠ "java/lang/invoke/MethodHandle" ∧ yX8_set.cls ≠ "java/lang/invoke/VarHandle" ∧ (parseMethodDescriptor yX8_set.desc).map (fun d => d.parameters.length) = some 1 := by decide +kernel
set_option maxHeartbeats 4000000 in
set_option maxRecDepth 100000 in
theorem c_X8_set (l : Launch) (D : va_G) (cy : Nat → ClassId) (sz : Nat) (bd : Nat → Nat) (m_ : MT) (ln_ : Nat) (at_ : Nat) (iw_ : Bool) (f_ : Nat → Nat) (u_ : Nat → Nat) (x_ : Int32) (hw : TVok m_.1) (hX6 : mX m_ < 6) (hU6 : mU m_ ≤ 6) (hM : MR m_ f_ u_) : zWi l yX8_set w_X8_set r_X8_set D cy [((bd 0), .inr (5, [.int (nI 0), .ref (bd 1), .ref (bd 2), .int (nI (mU m_)), .ref (bd 3), .ref (bd 4), .ref (bd 5), .int (nI ln_), .int (nI at_), .int (if iw_ = true then 1 else 0), .ref (bd 6), .ref (bd 7), .ref (bd 8), .ref (bd 9), .ref (bd 10), .ref (bd 11), .ref (bd 12), .ref (bd 13), .ref (bd 14)])), ((bd 1), .inl (cy 0, 130, .inl (nIf f_))), ((bd 2), .inl (cy 0, 780, .inl (nIf u_)))] sz [.ref (bd 0), .int x_] (fun (r_ : Int32) (u : (Nat → Nat) × (Nat → Nat)) => r_ = ((opSet m_ x_).1) ∧ MR (opSet m_ x_).2 u.1 u.2) (fun u : (Nat → Nat) × (Nat → Nat) => ([((bd 0), .inr (5, [.int (nI 0), .ref (bd 1), .ref (bd 2), .int (nI (mU (opSet m_ x_).2)), .ref (bd 3), .ref (bd 4), .ref (bd 5), .int (nI ln_), .int (nI at_), .int (if iw_ = true then 1 else 0), .ref (bd 6), .ref (bd 7), .ref (bd 8), .ref (bd 9), .ref (bd 10), .ref (bd 11), .ref (bd 12), .ref (bd 13), .ref (bd 14)])), ((bd 1), .inl (cy 0, 130, .inl (nIf u.1))), ((bd 2), .inl (cy 0, 780, .inl (nIf u.2)))] : va_W)) := by
  refine zOfW (cc := cX8_set) (maxL := 3) (ty := .int) (by decide) rfl (Nat.le_of_ble_eq_true rfl) ?_
  intro zp ze zs zm za zb zme zc hx hb hml hts hown hP hK zA hD hA Q kr ls hl
  have hS : va_S zA zs.heap zs.heap [] := va_S.rf
  have hown : zs.vm.findClass RX8 = some zm.cls := hown
  have hl : lv_has ls 3 [(0, .ref (bd 0)), (1, .int x_)] := hl
  have hn2 := ok_2 hw
  have hn16 := ok_n hw
  have hC6 := ok_C hw
  have hf0 : f_ 0 = mN m_ := hM.1.1
  have hf1 : f_ 1 = mC m_ := hM.1.2.1
  have hk2_ : (nI 2).toInt = 2 := rfl
  have hk16_ : (nI 16).toInt = 16 := rfl
  have hk0_ : (nI 0).toInt = 0 := rfl
  have hk1_ : (nI 1).toInt = 1 := rfl
  have hk9_ : (nI 999).toInt = 999 := rfl
  have hk8_ : (-999 : Int32).toInt = -999 := rfl
  refine lv_aload_n hx hb dX8_set_0 rfl (lv_at hl 0 rfl) ?_
  refine lv_iconst (v := nI 0) hx hb dX8_set_1 (by decide) ?_
  refine va_put (D := D) (ci := 5) (v := .int (nI 0)) (ty := .int) (C := RX8) (T := TX8) (N := 19) hx hb hts (fun w h => List.mem_cons_of_mem _ (zinX8 w h)) tyX8 tyX8_ok nmX8 hown hK.1 hP hD hS 0 rfl rfl 0 (by decide) (hts _ (List.mem_cons_of_mem _ zw_88)) (fun _ h9 => h9) rfl (tyX8_ok 0 (by decide)) rfl rfl (Nat.le_of_ble_eq_true rfl) dX8_set_2 (fun H locs hP hD hS => ?_)
  have hP : va_P D vwCl [((bd 0), .inr (5, [.int (nI 0), .ref (bd 1), .ref (bd 2), .int (nI (mU m_)), .ref (bd 3), .ref (bd 4), .ref (bd 5), .int (nI ln_), .int (nI at_), .int (if iw_ = true then 1 else 0), .ref (bd 6), .ref (bd 7), .ref (bd 8), .ref (bd 9), .ref (bd 10), .ref (bd 11), .ref (bd 12), .ref (bd 13), .ref (bd 14)])), ((bd 1), .inl (cy 0, 130, .inl (nIf f_))), ((bd 2), .inl (cy 0, 780, .inl (nIf u_)))] H := hP
  have hD : va_D zA [((bd 0), .inr (5, [.int (nI 0), .ref (bd 1), .ref (bd 2), .int (nI (mU m_)), .ref (bd 3), .ref (bd 4), .ref (bd 5), .int (nI ln_), .int (nI at_), .int (if iw_ = true then 1 else 0), .ref (bd 6), .ref (bd 7), .ref (bd 8), .ref (bd 9), .ref (bd 10), .ref (bd 11), .ref (bd 12), .ref (bd 13), .ref (bd 14)])), ((bd 1), .inl (cy 0, 130, .inl (nIf f_))), ((bd 2), .inl (cy 0, 780, .inl (nIf u_)))] := hD
  refine lv_iload_n hx hb dX8_set_5 rfl (lv_at hl 1 rfl) ?_
  refine lv_iconst (v := nI 2) hx hb dX8_set_6 (by decide) ?_
  refine lv_bipush (v := nI 16) hx hb dX8_set_7 (by decide) ?_
  refine zcSi (As := [.int x_, .int (nI 2), .int (nI 16)]) (rest := []) ⟨hx, hb, hml, hown, hts⟩ (c_X8_in l D cy x_ (nI 2) (nI 16)) (va_cwS 3 hts (zG_S zw_121 zw_122 zw_5 zw_123) rfl rfl rfl zd_X8_in ⟨Nat.le_of_ble_eq_true rfl, Nat.le_of_ble_eq_true rfl⟩) hK hP [] rfl rfl hl.1 rfl (Nat.le_of_ble_eq_true rfl) dX8_set_9 ⟨Nat.zero_le _, Nat.zero_le _⟩ (fun r9 h9 => ?_)
  subst h9
  refine zq_ne (tgt := 18) hx hb dX8_set_12 (by decide) (fun c12 => ?_) (fun c12 => ?_)
  · skip
    refine lv_aload_n hx hb dX8_set_18 rfl (lv_at hl 0 rfl) ?_
    refine zcWv (As := []) (rest := []) (wr := []) ⟨hx, hb, hml, hown, hts⟩ (c_X8_records l D cy H.size bd (mU m_) ln_ at_ iw_ f_ u_ (by omega)) (cwV 0 hts (zG_V zw_124 zw_125 zw_126 zw_5 zw_127) rfl rfl rfl zd_X8_records ⟨Nat.le_of_ble_eq_true rfl, Nat.le_of_ble_eq_true rfl⟩) hK hP hD hS hA [0, 1, 2] [] [0, 1, 2] rfl (by decide) rfl (by decide) (by decide) (w2 := (fun u_ : (Nat → Nat) => ([((bd 0), .inr (5, [.int (nI 0), .ref (bd 1), .ref (bd 2), .int (nI ((mU m_) - (mU m_) / 6 + 1)), .ref (bd 3), .ref (bd 4), .ref (bd 5), .int (nI ln_), .int (nI at_), .int (if iw_ = true then 1 else 0), .ref (bd 6), .ref (bd 7), .ref (bd 8), .ref (bd 9), .ref (bd 10), .ref (bd 11), .ref (bd 12), .ref (bd 13), .ref (bd 14)])), ((bd 1), .inl (cy 0, 130, .inl (nIf f_))), ((bd 2), .inl (cy 0, 780, .inl (nIf u_)))] : va_W))) (fun _ => rfl) (by decide) rfl rfl rfl rfl hl.1 rfl (Nat.le_of_ble_eq_true rfl) dX8_set_19 ⟨Nat.zero_le _, Nat.zero_le _⟩ (fun  u19 H locs h19 hP hD hS => ?_)
    obtain ⟨w_19, rfl⟩ : ∃ z_, z_ = u19 := ⟨_, rfl⟩
    have h19 : (∀ z_, z_ < 130 → w_19 (130 * ((mU m_) - (mU m_) / 6) + z_) = f_ z_) ∧ ∀ j_ z_, j_ < (mU m_) - (mU m_) / 6 → z_ < 130 → w_19 (130 * j_ + z_) = u_ (130 * (j_ + (mU m_) / 6) + z_) := h19
    have hP : va_P D vwCl [((bd 0), .inr (5, [.int (nI 0), .ref (bd 1), .ref (bd 2), .int (nI ((mU m_) - (mU m_) / 6 + 1)), .ref (bd 3), .ref (bd 4), .ref (bd 5), .int (nI ln_), .int (nI at_), .int (if iw_ = true then 1 else 0), .ref (bd 6), .ref (bd 7), .ref (bd 8), .ref (bd 9), .ref (bd 10), .ref (bd 11), .ref (bd 12), .ref (bd 13), .ref (bd 14)])), ((bd 1), .inl (cy 0, 130, .inl (nIf f_))), ((bd 2), .inl (cy 0, 780, .inl (nIf w_19)))] H := hP
    have hD : va_D zA [((bd 0), .inr (5, [.int (nI 0), .ref (bd 1), .ref (bd 2), .int (nI ((mU m_) - (mU m_) / 6 + 1)), .ref (bd 3), .ref (bd 4), .ref (bd 5), .int (nI ln_), .int (nI at_), .int (if iw_ = true then 1 else 0), .ref (bd 6), .ref (bd 7), .ref (bd 8), .ref (bd 9), .ref (bd 10), .ref (bd 11), .ref (bd 12), .ref (bd 13), .ref (bd 14)])), ((bd 1), .inl (cy 0, 130, .inl (nIf f_))), ((bd 2), .inl (cy 0, 780, .inl (nIf w_19)))] := hD
    refine lv_aload_n hx hb dX8_set_22 rfl (lv_at hl 0 rfl) ?_
    refine va_get (D := D) (ci := 5) (v := .ref (bd 1)) (C := RX8) (T := TX8) (N := 19) hx hb hts (fun w h => List.mem_cons_of_mem _ (zinX8 w h)) hown hK.1 hP 0 rfl rfl 1 (by decide) (hts _ (List.mem_cons_of_mem _ zw_74)) (fun _ h9 => h9) rfl dX8_set_23 ?_
    refine lv_iconst (v := nI 0) hx hb dX8_set_26 (by decide) ?_
    refine zi_iald (v := nI (f_ 0)) hx hb hK hP 1 rfl (by omega) (by omega) rfl dX8_set_27 ?_
    refine lv_istore_n (lv' := [(2, .int (nI (f_ 0))), (0, .ref (bd 0)), (1, .int x_)]) hx hb dX8_set_28 rfl hl (by decide) rfl (fun ls hl => ?_)
    refine lv_aload_n hx hb dX8_set_29 rfl (lv_at hl 1 rfl) ?_
    refine lv_iload_n hx hb dX8_set_30 rfl (lv_at hl 2 rfl) ?_
    obtain ⟨j_, hj_, ej_⟩ := zz_rng (n := 17) (x := x_) ⟨by omega, by omega⟩
    refine zi_top (v := nI j_) ej_ ?_
    refine zcWv (As := [.int (nI j_)]) (rest := []) (wr := [((bd 2), .inl (cy 0, 780, .inl (nIf w_19)))]) ⟨hx, hb, hml, hown, hts⟩ (c_X8_begins l D cy H.size bd ((mU m_) - (mU m_) / 6 + 1) ln_ at_ iw_ f_ j_ (by omega)) (cwV 1 hts (zG_V zw_89 zw_90 zw_91 zw_5 zw_92) rfl rfl rfl zd_X8_begins ⟨Nat.le_of_ble_eq_true rfl, Nat.le_of_ble_eq_true rfl⟩) hK hP hD hS hA [0, 1] [2] [1, 2, 0] rfl (by decide) rfl (by decide) (by decide) (w2 := (fun u_ : (Nat → Nat) => ([((bd 0), .inr (5, [.int (nI 0), .ref (bd 1), .ref (bd 2), .int (nI ((mU m_) - (mU m_) / 6 + 1)), .ref (bd 3), .ref (bd 4), .ref (bd 5), .int (nI ln_), .int (nI at_), .int (if iw_ = true then 1 else 0), .ref (bd 6), .ref (bd 7), .ref (bd 8), .ref (bd 9), .ref (bd 10), .ref (bd 11), .ref (bd 12), .ref (bd 13), .ref (bd 14)])), ((bd 1), .inl (cy 0, 130, .inl (nIf u_))), ((bd 2), .inl (cy 0, 780, .inl (nIf w_19)))] : va_W))) (fun _ => rfl) (by decide) rfl rfl rfl rfl hl.1 rfl (Nat.le_of_ble_eq_true rfl) dX8_set_31 ⟨Nat.zero_le _, Nat.zero_le _⟩ (fun  u31 H locs h31 hP hD hS => ?_)
    obtain ⟨w_31, rfl⟩ : ∃ z_, z_ = u31 := ⟨_, rfl⟩
    have h31 : w_31 0 = j_ ∧ w_31 1 = 0 ∧ (∀ z_, z_ < j_ → w_31 (2 + z_) = z_) ∧ ∀ z_, z_ < j_ → w_31 (18 + z_) = z_ := h31
    have hP : va_P D vwCl [((bd 0), .inr (5, [.int (nI 0), .ref (bd 1), .ref (bd 2), .int (nI ((mU m_) - (mU m_) / 6 + 1)), .ref (bd 3), .ref (bd 4), .ref (bd 5), .int (nI ln_), .int (nI at_), .int (if iw_ = true then 1 else 0), .ref (bd 6), .ref (bd 7), .ref (bd 8), .ref (bd 9), .ref (bd 10), .ref (bd 11), .ref (bd 12), .ref (bd 13), .ref (bd 14)])), ((bd 1), .inl (cy 0, 130, .inl (nIf w_31))), ((bd 2), .inl (cy 0, 780, .inl (nIf w_19)))] H := hP
    have hD : va_D zA [((bd 0), .inr (5, [.int (nI 0), .ref (bd 1), .ref (bd 2), .int (nI ((mU m_) - (mU m_) / 6 + 1)), .ref (bd 3), .ref (bd 4), .ref (bd 5), .int (nI ln_), .int (nI at_), .int (if iw_ = true then 1 else 0), .ref (bd 6), .ref (bd 7), .ref (bd 8), .ref (bd 9), .ref (bd 10), .ref (bd 11), .ref (bd 12), .ref (bd 13), .ref (bd 14)])), ((bd 1), .inl (cy 0, 130, .inl (nIf w_31))), ((bd 2), .inl (cy 0, 780, .inl (nIf w_19)))] := hD
    refine lv_iload_n hx hb dX8_set_34 rfl (lv_at hl 0 rfl) ?_
    have eu_ : mU m_ - mU m_ / 6 + 1 = upD (mU m_) := (upD_E hU6).symm
    rw [eu_] at hP hD
    have e_ : opSet m_ x_ = (nI (mN m_), putM m_ (j_, stayL, stayL, 0, mM m_)) := by unfold opSet; rw [if_pos (by omega), ej_, ix_nI (by omega)]
    rw [e_] at kr
    exact kr _ (w_31, w_19) _ _ _ _ dX8_set_35 (vp_nar_int _) ⟨congrArg nI hf0, mr_put (row_set (by omega) h31) (rec_u hw hX6 hU6 hM h19)⟩ hP hD hS
  · skip
    refine lv_bipush (v := (-2)) hx hb dX8_set_15 (by decide) ?_
    have e_ : opSet m_ x_ = (-2, m_) := if_neg (by omega)
    rw [e_] at kr
    exact kr _ (f_, u_) _ _ _ _ dX8_set_17 (vp_nar_int _) ⟨rfl, hM⟩ hP hD hS
abbrev w_X8_trick : List Cond := Cond.code yX8_trick cX8_trick 1 (some .int) :: zAll
abbrev r_X8_trick : Room := { frames := 2, cells := 0, slots := 0, locals := 45 }
theorem zd_X8_trick : yX8_trick.cls = RX8 ∧ yX8_trick.cls ≠ "java/lang/invoke/MethodHandle" ∧ yX8_trick.cls ≠ "java/lang/invoke/VarHandle" ∧ (parseMethodDescriptor yX8_trick.desc).map (fun d => d.parameters.length) = some 0 := by decide +kernel
set_option maxHeartbeats 4000000 in
set_option maxRecDepth 100000 in
theorem c_X8_trick (l : Launch) (D : va_G) (cy : Nat → ClassId) (sz : Nat) (bd : Nat → Nat) (m_ : MT) (ln_ : Nat) (at_ : Nat) (iw_ : Bool) (f_ : Nat → Nat) (u_ : Nat → Nat) (o1_ : Nat → Nat) (hw : TVok m_.1) (hX6 : mX m_ < 6) (hU6 : mU m_ ≤ 6) (hM : MR m_ f_ u_) : zWi l yX8_trick w_X8_trick r_X8_trick D cy [((bd 0), .inr (5, [.int (nI 0), .ref (bd 1), .ref (bd 2), .int (nI (mU m_)), .ref (bd 3), .ref (bd 4), .ref (bd 5), .int (nI ln_), .int (nI at_), .int (if iw_ = true then 1 else 0), .ref (bd 6), .ref (bd 7), .ref (bd 8), .ref (bd 9), .ref (bd 10), .ref (bd 11), .ref (bd 12), .ref (bd 13), .ref (bd 14)])), ((bd 1), .inl (cy 0, 130, .inl (nIf f_))), ((bd 2), .inl (cy 0, 780, .inl (nIf u_))), ((bd 8), .inl (cy 0, 16, .inl (nIf o1_)))] sz [.ref (bd 0)] (fun (r_ : Int32) (u : (Nat → Nat) × (Nat → Nat) × (Nat → Nat)) => r_ = ((opTrick m_).1) ∧ MR (opTrick m_).2 u.1 u.2.1) (fun u : (Nat → Nat) × (Nat → Nat) × (Nat → Nat) => ([((bd 0), .inr (5, [.int (nI 0), .ref (bd 1), .ref (bd 2), .int (nI (mU (opTrick m_).2)), .ref (bd 3), .ref (bd 4), .ref (bd 5), .int (nI ln_), .int (nI at_), .int (if iw_ = true then 1 else 0), .ref (bd 6), .ref (bd 7), .ref (bd 8), .ref (bd 9), .ref (bd 10), .ref (bd 11), .ref (bd 12), .ref (bd 13), .ref (bd 14)])), ((bd 1), .inl (cy 0, 130, .inl (nIf u.1))), ((bd 2), .inl (cy 0, 780, .inl (nIf u.2.1))), ((bd 8), .inl (cy 0, 16, .inl (nIf u.2.2)))] : va_W)) := by
  refine zOfW (cc := cX8_trick) (maxL := 1) (ty := .int) (by decide) rfl (Nat.le_of_ble_eq_true rfl) ?_
  intro zp ze zs zm za zb zme zc hx hb hml hts hown hP hK zA hD hA Q kr ls hl
  have hS : va_S zA zs.heap zs.heap [] := va_S.rf
  have hown : zs.vm.findClass RX8 = some zm.cls := hown
  have hl : lv_has ls 1 [(0, .ref (bd 0))] := hl
  have hn2 := ok_2 hw
  have hn16 := ok_n hw
  have hC6 := ok_C hw
  have hf0 : f_ 0 = mN m_ := hM.1.1
  have hf1 : f_ 1 = mC m_ := hM.1.2.1
  have hk2_ : (nI 2).toInt = 2 := rfl
  have hk16_ : (nI 16).toInt = 16 := rfl
  have hk0_ : (nI 0).toInt = 0 := rfl
  have hk1_ : (nI 1).toInt = 1 := rfl
  have hk9_ : (nI 999).toInt = 999 := rfl
  have hk8_ : (-999 : Int32).toInt = -999 := rfl
  refine lv_aload_n hx hb dX8_trick_0 rfl (lv_at hl 0 rfl) ?_
  refine lv_iconst (v := nI 0) hx hb dX8_trick_1 (by decide) ?_
  refine va_put (D := D) (ci := 5) (v := .int (nI 0)) (ty := .int) (C := RX8) (T := TX8) (N := 19) hx hb hts (fun w h => List.mem_cons_of_mem _ (zinX8 w h)) tyX8 tyX8_ok nmX8 hown hK.1 hP hD hS 0 rfl rfl 0 (by decide) (hts _ (List.mem_cons_of_mem _ zw_88)) (fun _ h9 => h9) rfl (tyX8_ok 0 (by decide)) rfl rfl (Nat.le_of_ble_eq_true rfl) dX8_trick_2 (fun H locs hP hD hS => ?_)
  have hP : va_P D vwCl [((bd 0), .inr (5, [.int (nI 0), .ref (bd 1), .ref (bd 2), .int (nI (mU m_)), .ref (bd 3), .ref (bd 4), .ref (bd 5), .int (nI ln_), .int (nI at_), .int (if iw_ = true then 1 else 0), .ref (bd 6), .ref (bd 7), .ref (bd 8), .ref (bd 9), .ref (bd 10), .ref (bd 11), .ref (bd 12), .ref (bd 13), .ref (bd 14)])), ((bd 1), .inl (cy 0, 130, .inl (nIf f_))), ((bd 2), .inl (cy 0, 780, .inl (nIf u_))), ((bd 8), .inl (cy 0, 16, .inl (nIf o1_)))] H := hP
  have hD : va_D zA [((bd 0), .inr (5, [.int (nI 0), .ref (bd 1), .ref (bd 2), .int (nI (mU m_)), .ref (bd 3), .ref (bd 4), .ref (bd 5), .int (nI ln_), .int (nI at_), .int (if iw_ = true then 1 else 0), .ref (bd 6), .ref (bd 7), .ref (bd 8), .ref (bd 9), .ref (bd 10), .ref (bd 11), .ref (bd 12), .ref (bd 13), .ref (bd 14)])), ((bd 1), .inl (cy 0, 130, .inl (nIf f_))), ((bd 2), .inl (cy 0, 780, .inl (nIf u_))), ((bd 8), .inl (cy 0, 16, .inl (nIf o1_)))] := hD
  refine lv_aload_n hx hb dX8_trick_5 rfl (lv_at hl 0 rfl) ?_
  refine va_get (D := D) (ci := 5) (v := .ref (bd 1)) (C := RX8) (T := TX8) (N := 19) hx hb hts (fun w h => List.mem_cons_of_mem _ (zinX8 w h)) hown hK.1 hP 0 rfl rfl 1 (by decide) (hts _ (List.mem_cons_of_mem _ zw_74)) (fun _ h9 => h9) rfl dX8_trick_6 ?_
  refine lv_iconst (v := nI 1) hx hb dX8_trick_9 (by decide) ?_
  refine zi_iald (v := nI (f_ 1)) hx hb hK hP 1 rfl (by omega) (by omega) rfl dX8_trick_10 ?_
  refine lv_bipush (v := nI 6) hx hb dX8_trick_11 (by decide) ?_
  refine zb_ne (a := f_ 1) (b := 6) (tgt := 19) hx hb dX8_trick_13 (by decide) (by omega) (by omega) (fun c13 => ?_) (fun c13 => ?_)
  · skip
    refine lv_aload_n hx hb dX8_trick_19 rfl (lv_at hl 0 rfl) ?_
    refine zcWv (As := []) (rest := []) (wr := [((bd 8), .inl (cy 0, 16, .inl (nIf o1_)))]) ⟨hx, hb, hml, hown, hts⟩ (c_X8_records l D cy H.size bd (mU m_) ln_ at_ iw_ f_ u_ (by omega)) (cwV 0 hts (zG_V zw_124 zw_125 zw_126 zw_5 zw_127) rfl rfl rfl zd_X8_records ⟨Nat.le_of_ble_eq_true rfl, Nat.le_of_ble_eq_true rfl⟩) hK hP hD hS hA [0, 1, 2] [3] [1, 2, 3, 0] rfl (by decide) rfl (by decide) (by decide) (w2 := (fun u_ : (Nat → Nat) => ([((bd 0), .inr (5, [.int (nI 0), .ref (bd 1), .ref (bd 2), .int (nI ((mU m_) - (mU m_) / 6 + 1)), .ref (bd 3), .ref (bd 4), .ref (bd 5), .int (nI ln_), .int (nI at_), .int (if iw_ = true then 1 else 0), .ref (bd 6), .ref (bd 7), .ref (bd 8), .ref (bd 9), .ref (bd 10), .ref (bd 11), .ref (bd 12), .ref (bd 13), .ref (bd 14)])), ((bd 1), .inl (cy 0, 130, .inl (nIf f_))), ((bd 2), .inl (cy 0, 780, .inl (nIf u_))), ((bd 8), .inl (cy 0, 16, .inl (nIf o1_)))] : va_W))) (fun _ => rfl) (by decide) rfl rfl rfl rfl hl.1 rfl (Nat.le_of_ble_eq_true rfl) dX8_trick_20 ⟨Nat.zero_le _, Nat.zero_le _⟩ (fun  u20 H locs h20 hP hD hS => ?_)
    obtain ⟨w_20, rfl⟩ : ∃ z_, z_ = u20 := ⟨_, rfl⟩
    have h20 : (∀ z_, z_ < 130 → w_20 (130 * ((mU m_) - (mU m_) / 6) + z_) = f_ z_) ∧ ∀ j_ z_, j_ < (mU m_) - (mU m_) / 6 → z_ < 130 → w_20 (130 * j_ + z_) = u_ (130 * (j_ + (mU m_) / 6) + z_) := h20
    have hP : va_P D vwCl [((bd 0), .inr (5, [.int (nI 0), .ref (bd 1), .ref (bd 2), .int (nI ((mU m_) - (mU m_) / 6 + 1)), .ref (bd 3), .ref (bd 4), .ref (bd 5), .int (nI ln_), .int (nI at_), .int (if iw_ = true then 1 else 0), .ref (bd 6), .ref (bd 7), .ref (bd 8), .ref (bd 9), .ref (bd 10), .ref (bd 11), .ref (bd 12), .ref (bd 13), .ref (bd 14)])), ((bd 1), .inl (cy 0, 130, .inl (nIf f_))), ((bd 2), .inl (cy 0, 780, .inl (nIf w_20))), ((bd 8), .inl (cy 0, 16, .inl (nIf o1_)))] H := hP
    have hD : va_D zA [((bd 0), .inr (5, [.int (nI 0), .ref (bd 1), .ref (bd 2), .int (nI ((mU m_) - (mU m_) / 6 + 1)), .ref (bd 3), .ref (bd 4), .ref (bd 5), .int (nI ln_), .int (nI at_), .int (if iw_ = true then 1 else 0), .ref (bd 6), .ref (bd 7), .ref (bd 8), .ref (bd 9), .ref (bd 10), .ref (bd 11), .ref (bd 12), .ref (bd 13), .ref (bd 14)])), ((bd 1), .inl (cy 0, 130, .inl (nIf f_))), ((bd 2), .inl (cy 0, 780, .inl (nIf w_20))), ((bd 8), .inl (cy 0, 16, .inl (nIf o1_)))] := hD
    refine lv_aload_n hx hb dX8_trick_23 rfl (lv_at hl 0 rfl) ?_
    refine lv_aload_n hx hb dX8_trick_24 rfl (lv_at hl 0 rfl) ?_
    refine va_get (D := D) (ci := 5) (v := .ref (bd 8)) (C := RX8) (T := TX8) (N := 19) hx hb hts (fun w h => List.mem_cons_of_mem _ (zinX8 w h)) hown hK.1 hP 0 rfl rfl 12 (by decide) (hts _ (List.mem_cons_of_mem _ zw_81)) (fun _ h9 => h9) rfl dX8_trick_25 ?_
    refine lv_bipush (v := (-6)) hx hb dX8_trick_28 (by decide) ?_
    refine zcWv (As := [.ref (bd 8), .int (-6)]) (rest := []) (wr := [((bd 2), .inl (cy 0, 780, .inl (nIf w_20)))]) ⟨hx, hb, hml, hown, hts⟩ (c_X8_fetches l D cy H.size bd ((mU m_) - (mU m_) / 6 + 1) ln_ at_ iw_ f_ (bd 8) o1_ (-6) (by omega) (Or.inl rfl)) (cwV 2 hts (zG_V zw_257 zw_258 zw_259 zw_5 zw_260) rfl rfl rfl zd_X8_fetches ⟨Nat.le_of_ble_eq_true rfl, Nat.le_of_ble_eq_true rfl⟩) hK hP hD hS hA [0, 1, 3] [2] [1, 2, 0, 3] rfl (by decide) rfl (by decide) (by decide) (w2 := (fun u_ : Unit => ([((bd 0), .inr (5, [.int (nI 0), .ref (bd 1), .ref (bd 2), .int (nI ((mU m_) - (mU m_) / 6 + 1)), .ref (bd 3), .ref (bd 4), .ref (bd 5), .int (nI ln_), .int (nI at_), .int (if iw_ = true then 1 else 0), .ref (bd 6), .ref (bd 7), .ref (bd 8), .ref (bd 9), .ref (bd 10), .ref (bd 11), .ref (bd 12), .ref (bd 13), .ref (bd 14)])), ((bd 1), .inl (cy 0, 130, .inl (nIf f_))), ((bd 2), .inl (cy 0, 780, .inl (nIf w_20))), ((bd 8), .inl (cy 0, 16, .inl (nIf (fil (gTo f_ (-6)) o1_ (f_ 0)))))] : va_W))) (fun _ => rfl) (by decide) rfl rfl rfl rfl hl.1 rfl (Nat.le_of_ble_eq_true rfl) dX8_trick_30 ⟨Nat.zero_le _, Nat.zero_le _⟩ (fun  u30 H locs h30 hP hD hS => ?_)
    have h30 : True := h30
    have hP : va_P D vwCl [((bd 0), .inr (5, [.int (nI 0), .ref (bd 1), .ref (bd 2), .int (nI ((mU m_) - (mU m_) / 6 + 1)), .ref (bd 3), .ref (bd 4), .ref (bd 5), .int (nI ln_), .int (nI at_), .int (if iw_ = true then 1 else 0), .ref (bd 6), .ref (bd 7), .ref (bd 8), .ref (bd 9), .ref (bd 10), .ref (bd 11), .ref (bd 12), .ref (bd 13), .ref (bd 14)])), ((bd 1), .inl (cy 0, 130, .inl (nIf f_))), ((bd 2), .inl (cy 0, 780, .inl (nIf w_20))), ((bd 8), .inl (cy 0, 16, .inl (nIf (fil (gTo f_ (-6)) o1_ (f_ 0)))))] H := hP
    have hD : va_D zA [((bd 0), .inr (5, [.int (nI 0), .ref (bd 1), .ref (bd 2), .int (nI ((mU m_) - (mU m_) / 6 + 1)), .ref (bd 3), .ref (bd 4), .ref (bd 5), .int (nI ln_), .int (nI at_), .int (if iw_ = true then 1 else 0), .ref (bd 6), .ref (bd 7), .ref (bd 8), .ref (bd 9), .ref (bd 10), .ref (bd 11), .ref (bd 12), .ref (bd 13), .ref (bd 14)])), ((bd 1), .inl (cy 0, 130, .inl (nIf f_))), ((bd 2), .inl (cy 0, 780, .inl (nIf w_20))), ((bd 8), .inl (cy 0, 16, .inl (nIf (fil (gTo f_ (-6)) o1_ (f_ 0)))))] := hD
    refine lv_aload_n hx hb dX8_trick_33 rfl (lv_at hl 0 rfl) ?_
    refine lv_aload_n hx hb dX8_trick_34 rfl (lv_at hl 0 rfl) ?_
    refine va_get (D := D) (ci := 5) (v := .ref (bd 8)) (C := RX8) (T := TX8) (N := 19) hx hb hts (fun w h => List.mem_cons_of_mem _ (zinX8 w h)) hown hK.1 hP 0 rfl rfl 12 (by decide) (hts _ (List.mem_cons_of_mem _ zw_81)) (fun _ h9 => h9) rfl dX8_trick_35 ?_
    refine zcWi (As := [.ref (bd 8)]) (rest := []) (wr := [((bd 2), .inl (cy 0, 780, .inl (nIf w_20)))]) ⟨hx, hb, hml, hown, hts⟩ (c_X8_adds l D cy H.size bd ((mU m_) - (mU m_) / 6 + 1) ln_ at_ iw_ f_ (bd 8) (fil (gTo f_ (-6)) o1_ (f_ 0)) (by omega) (by omega)) (cwV 1 hts (zG_V zw_226 zw_227 zw_228 zw_5 zw_229) rfl rfl rfl zd_X8_adds ⟨Nat.le_of_ble_eq_true rfl, Nat.le_of_ble_eq_true rfl⟩) hK hP hD hS hA [0, 1, 3] [2] [1, 2, 0, 3] rfl (by decide) rfl (by decide) (by decide) (w2 := (fun u_ : (Nat → Nat) => ([((bd 0), .inr (5, [.int (nI 0), .ref (bd 1), .ref (bd 2), .int (nI ((mU m_) - (mU m_) / 6 + 1)), .ref (bd 3), .ref (bd 4), .ref (bd 5), .int (nI ln_), .int (nI at_), .int (if iw_ = true then 1 else 0), .ref (bd 6), .ref (bd 7), .ref (bd 8), .ref (bd 9), .ref (bd 10), .ref (bd 11), .ref (bd 12), .ref (bd 13), .ref (bd 14)])), ((bd 1), .inl (cy 0, 130, .inl (nIf u_))), ((bd 2), .inl (cy 0, 780, .inl (nIf w_20))), ((bd 8), .inl (cy 0, 16, .inl (nIf (fil (gTo f_ (-6)) o1_ (f_ 0)))))] : va_W))) (fun _ => rfl) (by decide) rfl rfl rfl rfl hl.1 rfl (Nat.le_of_ble_eq_true rfl) dX8_trick_38 ⟨Nat.zero_le _, Nat.zero_le _⟩ (fun r38 u38 H locs h38 hP hD hS => ?_)
    obtain ⟨w_38, rfl⟩ : ∃ z_, z_ = u38 := ⟨_, rfl⟩
    obtain ⟨hr38, h38⟩ := h38
    have hr38 : r38 = nI (f_ 1) := hr38
    have h38 : w_38 1 = f_ 1 + 1 ∧ (∀ z_, z_ < f_ 0 → w_38 (34 + 16 * f_ 1 + z_) = (fil (gTo f_ (-6)) o1_ (f_ 0)) z_) ∧ ∀ z_, z_ ≠ 1 → z_ < 34 + 16 * f_ 1 → w_38 z_ = f_ z_ := h38
    subst hr38
    have hP : va_P D vwCl [((bd 0), .inr (5, [.int (nI 0), .ref (bd 1), .ref (bd 2), .int (nI ((mU m_) - (mU m_) / 6 + 1)), .ref (bd 3), .ref (bd 4), .ref (bd 5), .int (nI ln_), .int (nI at_), .int (if iw_ = true then 1 else 0), .ref (bd 6), .ref (bd 7), .ref (bd 8), .ref (bd 9), .ref (bd 10), .ref (bd 11), .ref (bd 12), .ref (bd 13), .ref (bd 14)])), ((bd 1), .inl (cy 0, 130, .inl (nIf w_38))), ((bd 2), .inl (cy 0, 780, .inl (nIf w_20))), ((bd 8), .inl (cy 0, 16, .inl (nIf (fil (gTo f_ (-6)) o1_ (f_ 0)))))] H := hP
    have hD : va_D zA [((bd 0), .inr (5, [.int (nI 0), .ref (bd 1), .ref (bd 2), .int (nI ((mU m_) - (mU m_) / 6 + 1)), .ref (bd 3), .ref (bd 4), .ref (bd 5), .int (nI ln_), .int (nI at_), .int (if iw_ = true then 1 else 0), .ref (bd 6), .ref (bd 7), .ref (bd 8), .ref (bd 9), .ref (bd 10), .ref (bd 11), .ref (bd 12), .ref (bd 13), .ref (bd 14)])), ((bd 1), .inl (cy 0, 130, .inl (nIf w_38))), ((bd 2), .inl (cy 0, 780, .inl (nIf w_20))), ((bd 8), .inl (cy 0, 16, .inl (nIf (fil (gTo f_ (-6)) o1_ (f_ 0)))))] := hD
    have eu_ : mU m_ - mU m_ / 6 + 1 = upD (mU m_) := (upD_E hU6).symm
    rw [eu_] at hP hD
    have e_ : opTrick m_ = (nI (mC m_), putM m_ (mN m_, mP m_, mT m_, mC m_ + 1, vp_updL (mM m_) (mC m_) (mT m_))) := by unfold opTrick comeM; rw [if_pos (by omega)]
    rw [e_] at kr
    exact kr _ (w_38, w_20, (fil (gTo f_ (-6)) o1_ (f_ 0))) _ _ _ _ dX8_trick_41 (vp_nar_int _) (adds_m hw hM (rec_u hw hX6 hU6 hM h20) (fetch_T hM.1 rfl _) h38) hP hD hS
  · skip
    refine lv_bipush (v := (-4)) hx hb dX8_trick_16 (by decide) ?_
    have e_ : opTrick m_ = (-4, m_) := by unfold opTrick comeM; rw [if_neg (by omega)]
    rw [e_] at kr
    exact kr _ (f_, u_, o1_) _ _ _ _ dX8_trick_18 (vp_nar_int _) ⟨rfl, hM⟩ hP hD hS
abbrev w_X8_product : List Cond := Cond.code yX8_product cX8_product 3 (some .int) :: zAll
abbrev r_X8_product : Room := { frames := 2, cells := 0, slots := 0, locals := 45 }
theorem zd_X8_product : yX8_product.cls = RX8 ∧ yX8_product.cls ≠ "java/lang/invoke/MethodHandle" ∧ yX8_product.cls ≠ "java/lang/invoke/VarHandle" ∧ (parseMethodDescriptor yX8_product.desc).map (fun d => d.parameters.length) = some 2 := by decide +kernel
set_option maxHeartbeats 4000000 in
set_option maxRecDepth 100000 in
theorem c_X8_product (l : Launch) (D : va_G) (cy : Nat → ClassId) (sz : Nat) (bd : Nat → Nat) (m_ : MT) (ln_ : Nat) (at_ : Nat) (iw_ : Bool) (f_ : Nat → Nat) (u_ : Nat → Nat) (o1_ : Nat → Nat) (o2_ : Nat → Nat) (o3_ : Nat → Nat) (a_ : Int32) (b_ : Int32) (hw : TVok m_.1) (hX6 : mX m_ < 6) (hU6 : mU m_ ≤ 6) (hM : MR m_ f_ u_) : zWi l yX8_product w_X8_product r_X8_product D cy [((bd 0), .inr (5, [.int (nI 0), .ref (bd 1), .ref (bd 2), .int (nI (mU m_)), .ref (bd 3), .ref (bd 4), .ref (bd 5), .int (nI ln_), .int (nI at_), .int (if iw_ = true then 1 else 0), .ref (bd 6), .ref (bd 7), .ref (bd 8), .ref (bd 9), .ref (bd 10), .ref (bd 11), .ref (bd 12), .ref (bd 13), .ref (bd 14)])), ((bd 1), .inl (cy 0, 130, .inl (nIf f_))), ((bd 2), .inl (cy 0, 780, .inl (nIf u_))), ((bd 8), .inl (cy 0, 16, .inl (nIf o1_))), ((bd 9), .inl (cy 0, 16, .inl (nIf o2_))), ((bd 10), .inl (cy 0, 16, .inl (nIf o3_)))] sz [.ref (bd 0), .int a_, .int b_] (fun (r_ : Int32) (u : (Nat → Nat) × (Nat → Nat) × (Nat → Nat) × (Nat → Nat) × (Nat → Nat)) => r_ = ((opProduct m_ a_ b_).1) ∧ MR (opProduct m_ a_ b_).2 u.1 u.2.1) (fun u : (Nat → Nat) × (Nat → Nat) × (Nat → Nat) × (Nat → Nat) × (Nat → Nat) => ([((bd 0), .inr (5, [.int (nI 0), .ref (bd 1), .ref (bd 2), .int (nI (mU (opProduct m_ a_ b_).2)), .ref (bd 3), .ref (bd 4), .ref (bd 5), .int (nI ln_), .int (nI at_), .int (if iw_ = true then 1 else 0), .ref (bd 6), .ref (bd 7), .ref (bd 8), .ref (bd 9), .ref (bd 10), .ref (bd 11), .ref (bd 12), .ref (bd 13), .ref (bd 14)])), ((bd 1), .inl (cy 0, 130, .inl (nIf u.1))), ((bd 2), .inl (cy 0, 780, .inl (nIf u.2.1))), ((bd 8), .inl (cy 0, 16, .inl (nIf u.2.2.1))), ((bd 9), .inl (cy 0, 16, .inl (nIf u.2.2.2.1))), ((bd 10), .inl (cy 0, 16, .inl (nIf u.2.2.2.2)))] : va_W)) := by
  refine zOfW (cc := cX8_product) (maxL := 3) (ty := .int) (by decide) rfl (Nat.le_of_ble_eq_true rfl) ?_
  intro zp ze zs zm za zb zme zc hx hb hml hts hown hP hK zA hD hA Q kr ls hl
  have hS : va_S zA zs.heap zs.heap [] := va_S.rf
  have hown : zs.vm.findClass RX8 = some zm.cls := hown
  have hl : lv_has ls 3 [(0, .ref (bd 0)), (1, .int a_), (2, .int b_)] := hl
  have hn2 := ok_2 hw
  have hn16 := ok_n hw
  have hC6 := ok_C hw
  have hf0 : f_ 0 = mN m_ := hM.1.1
  have hf1 : f_ 1 = mC m_ := hM.1.2.1
  have hk2_ : (nI 2).toInt = 2 := rfl
  have hk16_ : (nI 16).toInt = 16 := rfl
  have hk0_ : (nI 0).toInt = 0 := rfl
  have hk1_ : (nI 1).toInt = 1 := rfl
  have hk9_ : (nI 999).toInt = 999 := rfl
  have hk8_ : (-999 : Int32).toInt = -999 := rfl
  refine lv_aload_n hx hb dX8_product_0 rfl (lv_at hl 0 rfl) ?_
  refine lv_iconst (v := nI 0) hx hb dX8_product_1 (by decide) ?_
  refine va_put (D := D) (ci := 5) (v := .int (nI 0)) (ty := .int) (C := RX8) (T := TX8) (N := 19) hx hb hts (fun w h => List.mem_cons_of_mem _ (zinX8 w h)) tyX8 tyX8_ok nmX8 hown hK.1 hP hD hS 0 rfl rfl 0 (by decide) (hts _ (List.mem_cons_of_mem _ zw_88)) (fun _ h9 => h9) rfl (tyX8_ok 0 (by decide)) rfl rfl (Nat.le_of_ble_eq_true rfl) dX8_product_2 (fun H locs hP hD hS => ?_)
  have hP : va_P D vwCl [((bd 0), .inr (5, [.int (nI 0), .ref (bd 1), .ref (bd 2), .int (nI (mU m_)), .ref (bd 3), .ref (bd 4), .ref (bd 5), .int (nI ln_), .int (nI at_), .int (if iw_ = true then 1 else 0), .ref (bd 6), .ref (bd 7), .ref (bd 8), .ref (bd 9), .ref (bd 10), .ref (bd 11), .ref (bd 12), .ref (bd 13), .ref (bd 14)])), ((bd 1), .inl (cy 0, 130, .inl (nIf f_))), ((bd 2), .inl (cy 0, 780, .inl (nIf u_))), ((bd 8), .inl (cy 0, 16, .inl (nIf o1_))), ((bd 9), .inl (cy 0, 16, .inl (nIf o2_))), ((bd 10), .inl (cy 0, 16, .inl (nIf o3_)))] H := hP
  have hD : va_D zA [((bd 0), .inr (5, [.int (nI 0), .ref (bd 1), .ref (bd 2), .int (nI (mU m_)), .ref (bd 3), .ref (bd 4), .ref (bd 5), .int (nI ln_), .int (nI at_), .int (if iw_ = true then 1 else 0), .ref (bd 6), .ref (bd 7), .ref (bd 8), .ref (bd 9), .ref (bd 10), .ref (bd 11), .ref (bd 12), .ref (bd 13), .ref (bd 14)])), ((bd 1), .inl (cy 0, 130, .inl (nIf f_))), ((bd 2), .inl (cy 0, 780, .inl (nIf u_))), ((bd 8), .inl (cy 0, 16, .inl (nIf o1_))), ((bd 9), .inl (cy 0, 16, .inl (nIf o2_))), ((bd 10), .inl (cy 0, 16, .inl (nIf o3_)))] := hD
  refine lv_aload_n hx hb dX8_product_5 rfl (lv_at hl 0 rfl) ?_
  refine lv_iload_n hx hb dX8_product_6 rfl (lv_at hl 1 rfl) ?_
  refine zcRi (As := [.int a_]) (rest := []) ⟨hx, hb, hml, hown, hts⟩ (c_X8_isMark l D cy bd (mU m_) ln_ at_ iw_ f_ a_ (by omega)) (cwV 1 hts (zG_V zw_253 zw_254 zw_255 zw_5 zw_256) rfl rfl rfl zd_X8_isMark ⟨Nat.le_of_ble_eq_true rfl, Nat.le_of_ble_eq_true rfl⟩) hK hP [0, 1] rfl rfl rfl rfl rfl hl.1 rfl (Nat.le_of_ble_eq_true rfl) dX8_product_7 ⟨Nat.zero_le _, Nat.zero_le _⟩ (fun r7 h7 => ?_)
  subst h7
  refine zq_eq (tgt := 21) hx hb dX8_product_10 (by decide) (fun c10 => ?_) (fun c10 => ?_)
  · skip
    refine lv_iconst (v := (-1)) hx hb dX8_product_21 (by decide) ?_
    have e_ : opProduct m_ a_ b_ = (-1, m_) := if_neg (fun q_ => c10 (by have := bM_iff.mp q_.1; omega))
    rw [e_] at kr
    exact kr _ (f_, u_, o1_, o2_, o3_) _ _ _ _ dX8_product_22 (vp_nar_int _) ⟨rfl, hM⟩ hP hD hS
  · skip
    refine lv_aload_n hx hb dX8_product_13 rfl (lv_at hl 0 rfl) ?_
    refine lv_iload_n hx hb dX8_product_14 rfl (lv_at hl 2 rfl) ?_
    refine zcRi (As := [.int b_]) (rest := []) ⟨hx, hb, hml, hown, hts⟩ (c_X8_isMark l D cy bd (mU m_) ln_ at_ iw_ f_ b_ (by omega)) (cwV 1 hts (zG_V zw_253 zw_254 zw_255 zw_5 zw_256) rfl rfl rfl zd_X8_isMark ⟨Nat.le_of_ble_eq_true rfl, Nat.le_of_ble_eq_true rfl⟩) hK hP [0, 1] rfl rfl rfl rfl rfl hl.1 rfl (Nat.le_of_ble_eq_true rfl) dX8_product_15 ⟨Nat.zero_le _, Nat.zero_le _⟩ (fun r15 h15 => ?_)
    subst h15
    refine zq_ne (tgt := 23) hx hb dX8_product_18 (by decide) (fun c18 => ?_) (fun c18 => ?_)
    · skip
      refine lv_aload_n hx hb dX8_product_23 rfl (lv_at hl 0 rfl) ?_
      refine va_get (D := D) (ci := 5) (v := .ref (bd 1)) (C := RX8) (T := TX8) (N := 19) hx hb hts (fun w h => List.mem_cons_of_mem _ (zinX8 w h)) hown hK.1 hP 0 rfl rfl 1 (by decide) (hts _ (List.mem_cons_of_mem _ zw_74)) (fun _ h9 => h9) rfl dX8_product_24 ?_
      refine lv_iconst (v := nI 1) hx hb dX8_product_27 (by decide) ?_
      refine zi_iald (v := nI (f_ 1)) hx hb hK hP 1 rfl (by omega) (by omega) rfl dX8_product_28 ?_
      refine lv_bipush (v := nI 6) hx hb dX8_product_29 (by decide) ?_
      refine zb_ne (a := f_ 1) (b := 6) (tgt := 37) hx hb dX8_product_31 (by decide) (by omega) (by omega) (fun c31 => ?_) (fun c31 => ?_)
      · skip
        have hba : bM m_ a_ = true := bM_iff.mpr (by omega)
        have hbb : bM m_ b_ = true := bM_iff.mpr (by omega)
        have hia : ix a_ < mC m_ := by unfold ix; omega
        obtain ⟨xa_, hxa_⟩ : ∃ zz_, zz_ = mM m_ (ix a_) := ⟨_, rfl⟩
        obtain ⟨xb_, hxb_⟩ : ∃ zz_, zz_ = mM m_ (ix b_) := ⟨_, rfl⟩
        obtain ⟨y_, hy_⟩ : ∃ zz_, zz_ = thenL xa_ xb_ := ⟨_, rfl⟩
        have hXa := fetch_X hM.1 hba o1_
        have hXb := fetch_X hM.1 hbb o2_
        have hwa := ok_M hw hia
        rw [← hf0, ← hxa_] at hwa
        rw [← hxa_] at hXa
        rw [← hxb_] at hXb
        have hXy := prod_X (old := o3_) hXa hXb hwa (by omega) hy_
        refine lv_aload_n hx hb dX8_product_37 rfl (lv_at hl 0 rfl) ?_
        refine zcWv (As := []) (rest := []) (wr := [((bd 8), .inl (cy 0, 16, .inl (nIf o1_))), ((bd 9), .inl (cy 0, 16, .inl (nIf o2_))), ((bd 10), .inl (cy 0, 16, .inl (nIf o3_)))]) ⟨hx, hb, hml, hown, hts⟩ (c_X8_records l D cy H.size bd (mU m_) ln_ at_ iw_ f_ u_ (by omega)) (cwV 0 hts (zG_V zw_124 zw_125 zw_126 zw_5 zw_127) rfl rfl rfl zd_X8_records ⟨Nat.le_of_ble_eq_true rfl, Nat.le_of_ble_eq_true rfl⟩) hK hP hD hS hA [0, 1, 2] [3, 4, 5] [3, 4, 5, 0, 1, 2] rfl (by decide) rfl (by decide) (by decide) (w2 := (fun u_ : (Nat → Nat) => ([((bd 0), .inr (5, [.int (nI 0), .ref (bd 1), .ref (bd 2), .int (nI ((mU m_) - (mU m_) / 6 + 1)), .ref (bd 3), .ref (bd 4), .ref (bd 5), .int (nI ln_), .int (nI at_), .int (if iw_ = true then 1 else 0), .ref (bd 6), .ref (bd 7), .ref (bd 8), .ref (bd 9), .ref (bd 10), .ref (bd 11), .ref (bd 12), .ref (bd 13), .ref (bd 14)])), ((bd 1), .inl (cy 0, 130, .inl (nIf f_))), ((bd 2), .inl (cy 0, 780, .inl (nIf u_))), ((bd 8), .inl (cy 0, 16, .inl (nIf o1_))), ((bd 9), .inl (cy 0, 16, .inl (nIf o2_))), ((bd 10), .inl (cy 0, 16, .inl (nIf o3_)))] : va_W))) (fun _ => rfl) (by decide) rfl rfl rfl rfl hl.1 rfl (Nat.le_of_ble_eq_true rfl) dX8_product_38 ⟨Nat.zero_le _, Nat.zero_le _⟩ (fun  u38 H locs h38 hP hD hS => ?_)
        obtain ⟨w_38, rfl⟩ : ∃ z_, z_ = u38 := ⟨_, rfl⟩
        have h38 : (∀ z_, z_ < 130 → w_38 (130 * ((mU m_) - (mU m_) / 6) + z_) = f_ z_) ∧ ∀ j_ z_, j_ < (mU m_) - (mU m_) / 6 → z_ < 130 → w_38 (130 * j_ + z_) = u_ (130 * (j_ + (mU m_) / 6) + z_) := h38
        have hP : va_P D vwCl [((bd 0), .inr (5, [.int (nI 0), .ref (bd 1), .ref (bd 2), .int (nI ((mU m_) - (mU m_) / 6 + 1)), .ref (bd 3), .ref (bd 4), .ref (bd 5), .int (nI ln_), .int (nI at_), .int (if iw_ = true then 1 else 0), .ref (bd 6), .ref (bd 7), .ref (bd 8), .ref (bd 9), .ref (bd 10), .ref (bd 11), .ref (bd 12), .ref (bd 13), .ref (bd 14)])), ((bd 1), .inl (cy 0, 130, .inl (nIf f_))), ((bd 2), .inl (cy 0, 780, .inl (nIf w_38))), ((bd 8), .inl (cy 0, 16, .inl (nIf o1_))), ((bd 9), .inl (cy 0, 16, .inl (nIf o2_))), ((bd 10), .inl (cy 0, 16, .inl (nIf o3_)))] H := hP
        have hD : va_D zA [((bd 0), .inr (5, [.int (nI 0), .ref (bd 1), .ref (bd 2), .int (nI ((mU m_) - (mU m_) / 6 + 1)), .ref (bd 3), .ref (bd 4), .ref (bd 5), .int (nI ln_), .int (nI at_), .int (if iw_ = true then 1 else 0), .ref (bd 6), .ref (bd 7), .ref (bd 8), .ref (bd 9), .ref (bd 10), .ref (bd 11), .ref (bd 12), .ref (bd 13), .ref (bd 14)])), ((bd 1), .inl (cy 0, 130, .inl (nIf f_))), ((bd 2), .inl (cy 0, 780, .inl (nIf w_38))), ((bd 8), .inl (cy 0, 16, .inl (nIf o1_))), ((bd 9), .inl (cy 0, 16, .inl (nIf o2_))), ((bd 10), .inl (cy 0, 16, .inl (nIf o3_)))] := hD
        refine lv_aload_n hx hb dX8_product_41 rfl (lv_at hl 0 rfl) ?_
        refine lv_aload_n hx hb dX8_product_42 rfl (lv_at hl 0 rfl) ?_
        refine va_get (D := D) (ci := 5) (v := .ref (bd 8)) (C := RX8) (T := TX8) (N := 19) hx hb hts (fun w h => List.mem_cons_of_mem _ (zinX8 w h)) hown hK.1 hP 0 rfl rfl 12 (by decide) (hts _ (List.mem_cons_of_mem _ zw_81)) (fun _ h9 => h9) rfl dX8_product_43 ?_
        refine lv_iload_n hx hb dX8_product_46 rfl (lv_at hl 1 rfl) ?_
        refine zcWv (As := [.ref (bd 8), .int a_]) (rest := []) (wr := [((bd 2), .inl (cy 0, 780, .inl (nIf w_38))), ((bd 9), .inl (cy 0, 16, .inl (nIf o2_))), ((bd 10), .inl (cy 0, 16, .inl (nIf o3_)))]) ⟨hx, hb, hml, hown, hts⟩ (c_X8_fetches l D cy H.size bd ((mU m_) - (mU m_) / 6 + 1) ln_ at_ iw_ f_ (bd 8) o1_ a_ (by omega) (by omega)) (cwV 2 hts (zG_V zw_257 zw_258 zw_259 zw_5 zw_260) rfl rfl rfl zd_X8_fetches ⟨Nat.le_of_ble_eq_true rfl, Nat.le_of_ble_eq_true rfl⟩) hK hP hD hS hA [0, 1, 3] [2, 4, 5] [3, 4, 0, 5, 1, 2] rfl (by decide) rfl (by decide) (by decide) (w2 := (fun u_ : Unit => ([((bd 0), .inr (5, [.int (nI 0), .ref (bd 1), .ref (bd 2), .int (nI ((mU m_) - (mU m_) / 6 + 1)), .ref (bd 3), .ref (bd 4), .ref (bd 5), .int (nI ln_), .int (nI at_), .int (if iw_ = true then 1 else 0), .ref (bd 6), .ref (bd 7), .ref (bd 8), .ref (bd 9), .ref (bd 10), .ref (bd 11), .ref (bd 12), .ref (bd 13), .ref (bd 14)])), ((bd 1), .inl (cy 0, 130, .inl (nIf f_))), ((bd 2), .inl (cy 0, 780, .inl (nIf w_38))), ((bd 8), .inl (cy 0, 16, .inl (nIf (fil (gTo f_ a_) o1_ (f_ 0))))), ((bd 9), .inl (cy 0, 16, .inl (nIf o2_))), ((bd 10), .inl (cy 0, 16, .inl (nIf o3_)))] : va_W))) (fun _ => rfl) (by decide) rfl rfl rfl rfl hl.1 rfl (Nat.le_of_ble_eq_true rfl) dX8_product_47 ⟨Nat.zero_le _, Nat.zero_le _⟩ (fun  u47 H locs h47 hP hD hS => ?_)
        have h47 : True := h47
        have hP : va_P D vwCl [((bd 0), .inr (5, [.int (nI 0), .ref (bd 1), .ref (bd 2), .int (nI ((mU m_) - (mU m_) / 6 + 1)), .ref (bd 3), .ref (bd 4), .ref (bd 5), .int (nI ln_), .int (nI at_), .int (if iw_ = true then 1 else 0), .ref (bd 6), .ref (bd 7), .ref (bd 8), .ref (bd 9), .ref (bd 10), .ref (bd 11), .ref (bd 12), .ref (bd 13), .ref (bd 14)])), ((bd 1), .inl (cy 0, 130, .inl (nIf f_))), ((bd 2), .inl (cy 0, 780, .inl (nIf w_38))), ((bd 8), .inl (cy 0, 16, .inl (nIf (fil (gTo f_ a_) o1_ (f_ 0))))), ((bd 9), .inl (cy 0, 16, .inl (nIf o2_))), ((bd 10), .inl (cy 0, 16, .inl (nIf o3_)))] H := hP
        have hD : va_D zA [((bd 0), .inr (5, [.int (nI 0), .ref (bd 1), .ref (bd 2), .int (nI ((mU m_) - (mU m_) / 6 + 1)), .ref (bd 3), .ref (bd 4), .ref (bd 5), .int (nI ln_), .int (nI at_), .int (if iw_ = true then 1 else 0), .ref (bd 6), .ref (bd 7), .ref (bd 8), .ref (bd 9), .ref (bd 10), .ref (bd 11), .ref (bd 12), .ref (bd 13), .ref (bd 14)])), ((bd 1), .inl (cy 0, 130, .inl (nIf f_))), ((bd 2), .inl (cy 0, 780, .inl (nIf w_38))), ((bd 8), .inl (cy 0, 16, .inl (nIf (fil (gTo f_ a_) o1_ (f_ 0))))), ((bd 9), .inl (cy 0, 16, .inl (nIf o2_))), ((bd 10), .inl (cy 0, 16, .inl (nIf o3_)))] := hD
        refine lv_aload_n hx hb dX8_product_50 rfl (lv_at hl 0 rfl) ?_
        refine lv_aload_n hx hb dX8_product_51 rfl (lv_at hl 0 rfl) ?_
        refine va_get (D := D) (ci := 5) (v := .ref (bd 9)) (C := RX8) (T := TX8) (N := 19) hx hb hts (fun w h => List.mem_cons_of_mem _ (zinX8 w h)) hown hK.1 hP 0 rfl rfl 13 (by decide) (hts _ (List.mem_cons_of_mem _ zw_82)) (fun _ h9 => h9) rfl dX8_product_52 ?_
        refine lv_iload_n hx hb dX8_product_55 rfl (lv_at hl 2 rfl) ?_
        refine zcWv (As := [.ref (bd 9), .int b_]) (rest := []) (wr := [((bd 2), .inl (cy 0, 780, .inl (nIf w_38))), ((bd 8), .inl (cy 0, 16, .inl (nIf (fil (gTo f_ a_) o1_ (f_ 0))))), ((bd 10), .inl (cy 0, 16, .inl (nIf o3_)))]) ⟨hx, hb, hml, hown, hts⟩ (c_X8_fetches l D cy H.size bd ((mU m_) - (mU m_) / 6 + 1) ln_ at_ iw_ f_ (bd 9) o2_ b_ (by omega) (by omega)) (cwV 2 hts (zG_V zw_257 zw_258 zw_259 zw_5 zw_260) rfl rfl rfl zd_X8_fetches ⟨Nat.le_of_ble_eq_true rfl, Nat.le_of_ble_eq_true rfl⟩) hK hP hD hS hA [0, 1, 4] [2, 3, 5] [3, 4, 0, 1, 5, 2] rfl (by decide) rfl (by decide) (by decide) (w2 := (fun u_ : Unit => ([((bd 0), .inr (5, [.int (nI 0), .ref (bd 1), .ref (bd 2), .int (nI ((mU m_) - (mU m_) / 6 + 1)), .ref (bd 3), .ref (bd 4), .ref (bd 5), .int (nI ln_), .int (nI at_), .int (if iw_ = true then 1 else 0), .ref (bd 6), .ref (bd 7), .ref (bd 8), .ref (bd 9), .ref (bd 10), .ref (bd 11), .ref (bd 12), .ref (bd 13), .ref (bd 14)])), ((bd 1), .inl (cy 0, 130, .inl (nIf f_))), ((bd 2), .inl (cy 0, 780, .inl (nIf w_38))), ((bd 8), .inl (cy 0, 16, .inl (nIf (fil (gTo f_ a_) o1_ (f_ 0))))), ((bd 9), .inl (cy 0, 16, .inl (nIf (fil (gTo f_ b_) o2_ (f_ 0))))), ((bd 10), .inl (cy 0, 16, .inl (nIf o3_)))] : va_W))) (fun _ => rfl) (by decide) rfl rfl rfl rfl hl.1 rfl (Nat.le_of_ble_eq_true rfl) dX8_product_56 ⟨Nat.zero_le _, Nat.zero_le _⟩ (fun  u56 H locs h56 hP hD hS => ?_)
        have h56 : True := h56
        have hP : va_P D vwCl [((bd 0), .inr (5, [.int (nI 0), .ref (bd 1), .ref (bd 2), .int (nI ((mU m_) - (mU m_) / 6 + 1)), .ref (bd 3), .ref (bd 4), .ref (bd 5), .int (nI ln_), .int (nI at_), .int (if iw_ = true then 1 else 0), .ref (bd 6), .ref (bd 7), .ref (bd 8), .ref (bd 9), .ref (bd 10), .ref (bd 11), .ref (bd 12), .ref (bd 13), .ref (bd 14)])), ((bd 1), .inl (cy 0, 130, .inl (nIf f_))), ((bd 2), .inl (cy 0, 780, .inl (nIf w_38))), ((bd 8), .inl (cy 0, 16, .inl (nIf (fil (gTo f_ a_) o1_ (f_ 0))))), ((bd 9), .inl (cy 0, 16, .inl (nIf (fil (gTo f_ b_) o2_ (f_ 0))))), ((bd 10), .inl (cy 0, 16, .inl (nIf o3_)))] H := hP
        have hD : va_D zA [((bd 0), .inr (5, [.int (nI 0), .ref (bd 1), .ref (bd 2), .int (nI ((mU m_) - (mU m_) / 6 + 1)), .ref (bd 3), .ref (bd 4), .ref (bd 5), .int (nI ln_), .int (nI at_), .int (if iw_ = true then 1 else 0), .ref (bd 6), .ref (bd 7), .ref (bd 8), .ref (bd 9), .ref (bd 10), .ref (bd 11), .ref (bd 12), .ref (bd 13), .ref (bd 14)])), ((bd 1), .inl (cy 0, 130, .inl (nIf f_))), ((bd 2), .inl (cy 0, 780, .inl (nIf w_38))), ((bd 8), .inl (cy 0, 16, .inl (nIf (fil (gTo f_ a_) o1_ (f_ 0))))), ((bd 9), .inl (cy 0, 16, .inl (nIf (fil (gTo f_ b_) o2_ (f_ 0))))), ((bd 10), .inl (cy 0, 16, .inl (nIf o3_)))] := hD
        refine lv_aload_n hx hb dX8_product_59 rfl (lv_at hl 0 rfl) ?_
        refine lv_aload_n hx hb dX8_product_60 rfl (lv_at hl 0 rfl) ?_
        refine va_get (D := D) (ci := 5) (v := .ref (bd 10)) (C := RX8) (T := TX8) (N := 19) hx hb hts (fun w h => List.mem_cons_of_mem _ (zinX8 w h)) hown hK.1 hP 0 rfl rfl 14 (by decide) (hts _ (List.mem_cons_of_mem _ zw_83)) (fun _ h9 => h9) rfl dX8_product_61 ?_
        refine lv_aload_n hx hb dX8_product_64 rfl (lv_at hl 0 rfl) ?_
        refine va_get (D := D) (ci := 5) (v := .ref (bd 8)) (C := RX8) (T := TX8) (N := 19) hx hb hts (fun w h => List.mem_cons_of_mem _ (zinX8 w h)) hown hK.1 hP 0 rfl rfl 12 (by decide) (hts _ (List.mem_cons_of_mem _ zw_81)) (fun _ h9 => h9) rfl dX8_product_65 ?_
        refine lv_aload_n hx hb dX8_product_68 rfl (lv_at hl 0 rfl) ?_
        refine va_get (D := D) (ci := 5) (v := .ref (bd 9)) (C := RX8) (T := TX8) (N := 19) hx hb hts (fun w h => List.mem_cons_of_mem _ (zinX8 w h)) hown hK.1 hP 0 rfl rfl 13 (by decide) (hts _ (List.mem_cons_of_mem _ zw_82)) (fun _ h9 => h9) rfl dX8_product_69 ?_
        refine zcWv (As := [.ref (bd 10), .ref (bd 8), .ref (bd 9)]) (rest := []) (wr := [((bd 2), .inl (cy 0, 780, .inl (nIf w_38)))]) ⟨hx, hb, hml, hown, hts⟩ (c_X8_laysProduct l D cy H.size bd ((mU m_) - (mU m_) / 6 + 1) ln_ at_ iw_ f_ (bd 10) o3_ (bd 8) (fil (gTo f_ a_) o1_ (f_ 0)) (bd 9) (fil (gTo f_ b_) o2_ (f_ 0)) (by omega) (fun z_ hz_ => Nat.lt_of_lt_of_le (RowX.lt hXa hwa (by omega) hz_) (by omega))) (cwV 3 hts (zG_V zw_265 zw_266 zw_267 zw_5 zw_268) rfl rfl rfl zd_X8_laysProduct ⟨Nat.le_of_ble_eq_true rfl, Nat.le_of_ble_eq_true rfl⟩) hK hP hD hS hA [0, 1, 5, 3, 4] [2] [1, 2, 0, 4, 5, 3] rfl (by decide) rfl (by decide) (by decide) (w2 := (fun u_ : Unit => ([((bd 0), .inr (5, [.int (nI 0), .ref (bd 1), .ref (bd 2), .int (nI ((mU m_) - (mU m_) / 6 + 1)), .ref (bd 3), .ref (bd 4), .ref (bd 5), .int (nI ln_), .int (nI at_), .int (if iw_ = true then 1 else 0), .ref (bd 6), .ref (bd 7), .ref (bd 8), .ref (bd 9), .ref (bd 10), .ref (bd 11), .ref (bd 12), .ref (bd 13), .ref (bd 14)])), ((bd 1), .inl (cy 0, 130, .inl (nIf f_))), ((bd 2), .inl (cy 0, 780, .inl (nIf w_38))), ((bd 8), .inl (cy 0, 16, .inl (nIf (fil (gTo f_ a_) o1_ (f_ 0))))), ((bd 9), .inl (cy 0, 16, .inl (nIf (fil (gTo f_ b_) o2_ (f_ 0))))), ((bd 10), .inl (cy 0, 16, .inl (nIf (fil (fun z_ => (fil (gTo f_ b_) o2_ (f_ 0)) ((fil (gTo f_ a_) o1_ (f_ 0)) z_)) o3_ (f_ 0)))))] : va_W))) (fun _ => rfl) (by decide) rfl rfl rfl rfl hl.1 rfl (Nat.le_of_ble_eq_true rfl) dX8_product_72 ⟨Nat.zero_le _, Nat.zero_le _⟩ (fun  u72 H locs h72 hP hD hS => ?_)
        have h72 : True := h72
        have hP : va_P D vwCl [((bd 0), .inr (5, [.int (nI 0), .ref (bd 1), .ref (bd 2), .int (nI ((mU m_) - (mU m_) / 6 + 1)), .ref (bd 3), .ref (bd 4), .ref (bd 5), .int (nI ln_), .int (nI at_), .int (if iw_ = true then 1 else 0), .ref (bd 6), .ref (bd 7), .ref (bd 8), .ref (bd 9), .ref (bd 10), .ref (bd 11), .ref (bd 12), .ref (bd 13), .ref (bd 14)])), ((bd 1), .inl (cy 0, 130, .inl (nIf f_))), ((bd 2), .inl (cy 0, 780, .inl (nIf w_38))), ((bd 8), .inl (cy 0, 16, .inl (nIf (fil (gTo f_ a_) o1_ (f_ 0))))), ((bd 9), .inl (cy 0, 16, .inl (nIf (fil (gTo f_ b_) o2_ (f_ 0))))), ((bd 10), .inl (cy 0, 16, .inl (nIf (fil (fun z_ => (fil (gTo f_ b_) o2_ (f_ 0)) ((fil (gTo f_ a_) o1_ (f_ 0)) z_)) o3_ (f_ 0)))))] H := hP
        have hD : va_D zA [((bd 0), .inr (5, [.int (nI 0), .ref (bd 1), .ref (bd 2), .int (nI ((mU m_) - (mU m_) / 6 + 1)), .ref (bd 3), .ref (bd 4), .ref (bd 5), .int (nI ln_), .int (nI at_), .int (if iw_ = true then 1 else 0), .ref (bd 6), .ref (bd 7), .ref (bd 8), .ref (bd 9), .ref (bd 10), .ref (bd 11), .ref (bd 12), .ref (bd 13), .ref (bd 14)])), ((bd 1), .inl (cy 0, 130, .inl (nIf f_))), ((bd 2), .inl (cy 0, 780, .inl (nIf w_38))), ((bd 8), .inl (cy 0, 16, .inl (nIf (fil (gTo f_ a_) o1_ (f_ 0))))), ((bd 9), .inl (cy 0, 16, .inl (nIf (fil (gTo f_ b_) o2_ (f_ 0))))), ((bd 10), .inl (cy 0, 16, .inl (nIf (fil (fun z_ => (fil (gTo f_ b_) o2_ (f_ 0)) ((fil (gTo f_ a_) o1_ (f_ 0)) z_)) o3_ (f_ 0)))))] := hD
        refine lv_aload_n hx hb dX8_product_75 rfl (lv_at hl 0 rfl) ?_
        refine lv_aload_n hx hb dX8_product_76 rfl (lv_at hl 0 rfl) ?_
        refine va_get (D := D) (ci := 5) (v := .ref (bd 10)) (C := RX8) (T := TX8) (N := 19) hx hb hts (fun w h => List.mem_cons_of_mem _ (zinX8 w h)) hown hK.1 hP 0 rfl rfl 14 (by decide) (hts _ (List.mem_cons_of_mem _ zw_83)) (fun _ h9 => h9) rfl dX8_product_77 ?_
        refine zcWi (As := [.ref (bd 10)]) (rest := []) (wr := [((bd 2), .inl (cy 0, 780, .inl (nIf w_38))), ((bd 8), .inl (cy 0, 16, .inl (nIf (fil (gTo f_ a_) o1_ (f_ 0))))), ((bd 9), .inl (cy 0, 16, .inl (nIf (fil (gTo f_ b_) o2_ (f_ 0)))))]) ⟨hx, hb, hml, hown, hts⟩ (c_X8_adds l D cy H.size bd ((mU m_) - (mU m_) / 6 + 1) ln_ at_ iw_ f_ (bd 10) (fil (fun z_ => (fil (gTo f_ b_) o2_ (f_ 0)) ((fil (gTo f_ a_) o1_ (f_ 0)) z_)) o3_ (f_ 0)) (by omega) (by omega)) (cwV 1 hts (zG_V zw_226 zw_227 zw_228 zw_5 zw_229) rfl rfl rfl zd_X8_adds ⟨Nat.le_of_ble_eq_true rfl, Nat.le_of_ble_eq_true rfl⟩) hK hP hD hS hA [0, 1, 5] [2, 3, 4] [3, 4, 0, 1, 2, 5] rfl (by decide) rfl (by decide) (by decide) (w2 := (fun u_ : (Nat → Nat) => ([((bd 0), .inr (5, [.int (nI 0), .ref (bd 1), .ref (bd 2), .int (nI ((mU m_) - (mU m_) / 6 + 1)), .ref (bd 3), .ref (bd 4), .ref (bd 5), .int (nI ln_), .int (nI at_), .int (if iw_ = true then 1 else 0), .ref (bd 6), .ref (bd 7), .ref (bd 8), .ref (bd 9), .ref (bd 10), .ref (bd 11), .ref (bd 12), .ref (bd 13), .ref (bd 14)])), ((bd 1), .inl (cy 0, 130, .inl (nIf u_))), ((bd 2), .inl (cy 0, 780, .inl (nIf w_38))), ((bd 8), .inl (cy 0, 16, .inl (nIf (fil (gTo f_ a_) o1_ (f_ 0))))), ((bd 9), .inl (cy 0, 16, .inl (nIf (fil (gTo f_ b_) o2_ (f_ 0))))), ((bd 10), .inl (cy 0, 16, .inl (nIf (fil (fun z_ => (fil (gTo f_ b_) o2_ (f_ 0)) ((fil (gTo f_ a_) o1_ (f_ 0)) z_)) o3_ (f_ 0)))))] : va_W))) (fun _ => rfl) (by decide) rfl rfl rfl rfl hl.1 rfl (Nat.le_of_ble_eq_true rfl) dX8_product_80 ⟨Nat.zero_le _, Nat.zero_le _⟩ (fun r80 u80 H locs h80 hP hD hS => ?_)
        obtain ⟨w_80, rfl⟩ : ∃ z_, z_ = u80 := ⟨_, rfl⟩
        obtain ⟨hr80, h80⟩ := h80
        have hr80 : r80 = nI (f_ 1) := hr80
        have h80 : w_80 1 = f_ 1 + 1 ∧ (∀ z_, z_ < f_ 0 → w_80 (34 + 16 * f_ 1 + z_) = (fil (fun z_ => (fil (gTo f_ b_) o2_ (f_ 0)) ((fil (gTo f_ a_) o1_ (f_ 0)) z_)) o3_ (f_ 0)) z_) ∧ ∀ z_, z_ ≠ 1 → z_ < 34 + 16 * f_ 1 → w_80 z_ = f_ z_ := h80
        subst hr80
        have hP : va_P D vwCl [((bd 0), .inr (5, [.int (nI 0), .ref (bd 1), .ref (bd 2), .int (nI ((mU m_) - (mU m_) / 6 + 1)), .ref (bd 3), .ref (bd 4), .ref (bd 5), .int (nI ln_), .int (nI at_), .int (if iw_ = true then 1 else 0), .ref (bd 6), .ref (bd 7), .ref (bd 8), .ref (bd 9), .ref (bd 10), .ref (bd 11), .ref (bd 12), .ref (bd 13), .ref (bd 14)])), ((bd 1), .inl (cy 0, 130, .inl (nIf w_80))), ((bd 2), .inl (cy 0, 780, .inl (nIf w_38))), ((bd 8), .inl (cy 0, 16, .inl (nIf (fil (gTo f_ a_) o1_ (f_ 0))))), ((bd 9), .inl (cy 0, 16, .inl (nIf (fil (gTo f_ b_) o2_ (f_ 0))))), ((bd 10), .inl (cy 0, 16, .inl (nIf (fil (fun z_ => (fil (gTo f_ b_) o2_ (f_ 0)) ((fil (gTo f_ a_) o1_ (f_ 0)) z_)) o3_ (f_ 0)))))] H := hP
        have hD : va_D zA [((bd 0), .inr (5, [.int (nI 0), .ref (bd 1), .ref (bd 2), .int (nI ((mU m_) - (mU m_) / 6 + 1)), .ref (bd 3), .ref (bd 4), .ref (bd 5), .int (nI ln_), .int (nI at_), .int (if iw_ = true then 1 else 0), .ref (bd 6), .ref (bd 7), .ref (bd 8), .ref (bd 9), .ref (bd 10), .ref (bd 11), .ref (bd 12), .ref (bd 13), .ref (bd 14)])), ((bd 1), .inl (cy 0, 130, .inl (nIf w_80))), ((bd 2), .inl (cy 0, 780, .inl (nIf w_38))), ((bd 8), .inl (cy 0, 16, .inl (nIf (fil (gTo f_ a_) o1_ (f_ 0))))), ((bd 9), .inl (cy 0, 16, .inl (nIf (fil (gTo f_ b_) o2_ (f_ 0))))), ((bd 10), .inl (cy 0, 16, .inl (nIf (fil (fun z_ => (fil (gTo f_ b_) o2_ (f_ 0)) ((fil (gTo f_ a_) o1_ (f_ 0)) z_)) o3_ (f_ 0)))))] := hD
        have eu_ : mU m_ - mU m_ / 6 + 1 = upD (mU m_) := (upD_E hU6).symm
        rw [eu_] at hP hD
        have e_ : opProduct m_ a_ b_ = (nI (mC m_), putM m_ (mN m_, mP m_, mT m_, mC m_ + 1, vp_updL (mM m_) (mC m_) y_)) := by unfold opProduct comeM; rw [if_pos ⟨hba, hbb⟩, if_pos (by omega), hy_, hxa_, hxb_]
        rw [e_] at kr
        exact kr _ (w_80, w_38, (fil (gTo f_ a_) o1_ (f_ 0)), (fil (gTo f_ b_) o2_ (f_ 0)), (fil (fun z_ => (fil (gTo f_ b_) o2_ (f_ 0)) ((fil (gTo f_ a_) o1_ (f_ 0)) z_)) o3_ (f_ 0))) _ _ _ _ dX8_product_83 (vp_nar_int _) (adds_m hw hM (rec_u hw hX6 hU6 hM h38) hXy h80) hP hD hS
      · skip
        refine lv_bipush (v := (-4)) hx hb dX8_product_34 (by decide) ?_
        have e_ : opProduct m_ a_ b_ = (-4, m_) := by unfold opProduct comeM; rw [if_pos ⟨bM_iff.mpr (by omega), bM_iff.mpr (by omega)⟩, if_neg (by omega)]
        rw [e_] at kr
        exact kr _ (f_, u_, o1_, o2_, o3_) _ _ _ _ dX8_product_36 (vp_nar_int _) ⟨rfl, hM⟩ hP hD hS
    · skip
      refine lv_iconst (v := (-1)) hx hb dX8_product_21 (by decide) ?_
      have e_ : opProduct m_ a_ b_ = (-1, m_) := if_neg (fun q_ => c18 (by have := bM_iff.mp q_.2; omega))
      rw [e_] at kr
      exact kr _ (f_, u_, o1_, o2_, o3_) _ _ _ _ dX8_product_22 (vp_nar_int _) ⟨rfl, hM⟩ hP hD hS
abbrev w_X8_play : List Cond := Cond.code yX8_play cX8_play 2 (some .int) :: zAll
abbrev r_X8_play : Room := { frames := 2, cells := 0, slots := 0, locals := 45 }
theorem zd_X8_play : yX8_play.cls = RX8 ∧ yX8_play.cls ≠ "java/lang/invoke/MethodHandle" ∧ yX8_play.cls ≠ "java/lang/invoke/VarHandle" ∧ (parseMethodDescriptor yX8_play.desc).map (fun d => d.parameters.length) = some 1 := by decide +kernel
set_option maxHeartbeats 4000000 in
set_option maxRecDepth 100000 in
theorem c_X8_play (l : Launch) (D : va_G) (cy : Nat → ClassId) (sz : Nat) (bd : Nat → Nat) (m_ : MT) (ln_ : Nat) (at_ : Nat) (iw_ : Bool) (f_ : Nat → Nat) (u_ : Nat → Nat) (o1_ : Nat → Nat) (nx_ : Nat → Nat) (a_ : Int32) (hw : TVok m_.1) (hX6 : mX m_ < 6) (hU6 : mU m_ ≤ 6) (hM : MR m_ f_ u_) : zWi l yX8_play w_X8_play r_X8_play D cy [((bd 0), .inr (5, [.int (nI 0), .ref (bd 1), .ref (bd 2), .int (nI (mU m_)), .ref (bd 3), .ref (bd 4), .ref (bd 5), .int (nI ln_), .int (nI at_), .int (if iw_ = true then 1 else 0), .ref (bd 6), .ref (bd 7), .ref (bd 8), .ref (bd 9), .ref (bd 10), .ref (bd 11), .ref (bd 12), .ref (bd 13), .ref (bd 14)])), ((bd 1), .inl (cy 0, 130, .inl (nIf f_))), ((bd 2), .inl (cy 0, 780, .inl (nIf u_))), ((bd 8), .inl (cy 0, 16, .inl (nIf o1_))), ((bd 12), .inl (cy 0, 16, .inl (nIf nx_)))] sz [.ref (bd 0), .int a_] (fun (r_ : Int32) (u : (Nat → Nat) × (Nat → Nat) × (Nat → Nat) × (Nat → Nat)) => r_ = ((opPlay m_ a_).1) ∧ MR (opPlay m_ a_).2 u.1 u.2.1) (fun u : (Nat → Nat) × (Nat → Nat) × (Nat → Nat) × (Nat → Nat) => ([((bd 0), .inr (5, [.int (nI 0), .ref (bd 1), .ref (bd 2), .int (nI (mU (opPlay m_ a_).2)), .ref (bd 3), .ref (bd 4), .ref (bd 5), .int (nI ln_), .int (nI at_), .int (if iw_ = true then 1 else 0), .ref (bd 6), .ref (bd 7), .ref (bd 8), .ref (bd 9), .ref (bd 10), .ref (bd 11), .ref (bd 12), .ref (bd 13), .ref (bd 14)])), ((bd 1), .inl (cy 0, 130, .inl (nIf u.1))), ((bd 2), .inl (cy 0, 780, .inl (nIf u.2.1))), ((bd 8), .inl (cy 0, 16, .inl (nIf u.2.2.1))), ((bd 12), .inl (cy 0, 16, .inl (nIf u.2.2.2)))] : va_W)) := by
  refine zOfW (cc := cX8_play) (maxL := 2) (ty := .int) (by decide) rfl (Nat.le_of_ble_eq_true rfl) ?_
  intro zp ze zs zm za zb zme zc hx hb hml hts hown hP hK zA hD hA Q kr ls hl
  have hS : va_S zA zs.heap zs.heap [] := va_S.rf
  have hown : zs.vm.findClass RX8 = some zm.cls := hown
  have hl : lv_has ls 2 [(0, .ref (bd 0)), (1, .int a_)] := hl
  have hn2 := ok_2 hw
  have hn16 := ok_n hw
  have hC6 := ok_C hw
  have hf0 : f_ 0 = mN m_ := hM.1.1
  have hf1 : f_ 1 = mC m_ := hM.1.2.1
  have hk2_ : (nI 2).toInt = 2 := rfl
  have hk16_ : (nI 16).toInt = 16 := rfl
  have hk0_ : (nI 0).toInt = 0 := rfl
  have hk1_ : (nI 1).toInt = 1 := rfl
  have hk9_ : (nI 999).toInt = 999 := rfl
  have hk8_ : (-999 : Int32).toInt = -999 := rfl
  refine lv_aload_n hx hb dX8_play_0 rfl (lv_at hl 0 rfl) ?_
  refine lv_iconst (v := nI 0) hx hb dX8_play_1 (by decide) ?_
  refine va_put (D := D) (ci := 5) (v := .int (nI 0)) (ty := .int) (C := RX8) (T := TX8) (N := 19) hx hb hts (fun w h => List.mem_cons_of_mem _ (zinX8 w h)) tyX8 tyX8_ok nmX8 hown hK.1 hP hD hS 0 rfl rfl 0 (by decide) (hts _ (List.mem_cons_of_mem _ zw_88)) (fun _ h9 => h9) rfl (tyX8_ok 0 (by decide)) rfl rfl (Nat.le_of_ble_eq_true rfl) dX8_play_2 (fun H locs hP hD hS => ?_)
  have hP : va_P D vwCl [((bd 0), .inr (5, [.int (nI 0), .ref (bd 1), .ref (bd 2), .int (nI (mU m_)), .ref (bd 3), .ref (bd 4), .ref (bd 5), .int (nI ln_), .int (nI at_), .int (if iw_ = true then 1 else 0), .ref (bd 6), .ref (bd 7), .ref (bd 8), .ref (bd 9), .ref (bd 10), .ref (bd 11), .ref (bd 12), .ref (bd 13), .ref (bd 14)])), ((bd 1), .inl (cy 0, 130, .inl (nIf f_))), ((bd 2), .inl (cy 0, 780, .inl (nIf u_))), ((bd 8), .inl (cy 0, 16, .inl (nIf o1_))), ((bd 12), .inl (cy 0, 16, .inl (nIf nx_)))] H := hP
  have hD : va_D zA [((bd 0), .inr (5, [.int (nI 0), .ref (bd 1), .ref (bd 2), .int (nI (mU m_)), .ref (bd 3), .ref (bd 4), .ref (bd 5), .int (nI ln_), .int (nI at_), .int (if iw_ = true then 1 else 0), .ref (bd 6), .ref (bd 7), .ref (bd 8), .ref (bd 9), .ref (bd 10), .ref (bd 11), .ref (bd 12), .ref (bd 13), .ref (bd 14)])), ((bd 1), .inl (cy 0, 130, .inl (nIf f_))), ((bd 2), .inl (cy 0, 780, .inl (nIf u_))), ((bd 8), .inl (cy 0, 16, .inl (nIf o1_))), ((bd 12), .inl (cy 0, 16, .inl (nIf nx_)))] := hD
  refine lv_aload_n hx hb dX8_play_5 rfl (lv_at hl 0 rfl) ?_
  refine lv_iload_n hx hb dX8_play_6 rfl (lv_at hl 1 rfl) ?_
  refine zcRi (As := [.int a_]) (rest := []) ⟨hx, hb, hml, hown, hts⟩ (c_X8_isMark l D cy bd (mU m_) ln_ at_ iw_ f_ a_ (by omega)) (cwV 1 hts (zG_V zw_253 zw_254 zw_255 zw_5 zw_256) rfl rfl rfl zd_X8_isMark ⟨Nat.le_of_ble_eq_true rfl, Nat.le_of_ble_eq_true rfl⟩) hK hP [0, 1] rfl rfl rfl rfl rfl hl.1 rfl (Nat.le_of_ble_eq_true rfl) dX8_play_7 ⟨Nat.zero_le _, Nat.zero_le _⟩ (fun r7 h7 => ?_)
  subst h7
  refine zq_ne (tgt := 15) hx hb dX8_play_10 (by decide) (fun c10 => ?_) (fun c10 => ?_)
  · skip
    have hba : bM m_ a_ = true := bM_iff.mpr (by omega)
    have hia : ix a_ < mC m_ := by unfold ix; omega
    obtain ⟨xa_, hxa_⟩ : ∃ zz_, zz_ = mM m_ (ix a_) := ⟨_, rfl⟩
    have hXa := fetch_X hM.1 hba o1_
    have hwa := ok_M hw hia
    rw [← hf0, ← hxa_] at hwa
    rw [← hxa_] at hXa
    obtain ⟨p_, hp_⟩ : ∃ zz_, zz_ = thenL (mP m_) xa_ := ⟨_, rfl⟩
    obtain ⟨t_, ht_⟩ : ∃ zz_, zz_ = thenL (mT m_) xa_ := ⟨_, rfl⟩
    refine lv_aload_n hx hb dX8_play_15 rfl (lv_at hl 0 rfl) ?_
    refine zcWv (As := []) (rest := []) (wr := [((bd 8), .inl (cy 0, 16, .inl (nIf o1_))), ((bd 12), .inl (cy 0, 16, .inl (nIf nx_)))]) ⟨hx, hb, hml, hown, hts⟩ (c_X8_records l D cy H.size bd (mU m_) ln_ at_ iw_ f_ u_ (by omega)) (cwV 0 hts (zG_V zw_124 zw_125 zw_126 zw_5 zw_127) rfl rfl rfl zd_X8_records ⟨Nat.le_of_ble_eq_true rfl, Nat.le_of_ble_eq_true rfl⟩) hK hP hD hS hA [0, 1, 2] [3, 4] [2, 3, 4, 0, 1] rfl (by decide) rfl (by decide) (by decide) (w2 := (fun u_ : (Nat → Nat) => ([((bd 0), .inr (5, [.int (nI 0), .ref (bd 1), .ref (bd 2), .int (nI ((mU m_) - (mU m_) / 6 + 1)), .ref (bd 3), .ref (bd 4), .ref (bd 5), .int (nI ln_), .int (nI at_), .int (if iw_ = true then 1 else 0), .ref (bd 6), .ref (bd 7), .ref (bd 8), .ref (bd 9), .ref (bd 10), .ref (bd 11), .ref (bd 12), .ref (bd 13), .ref (bd 14)])), ((bd 1), .inl (cy 0, 130, .inl (nIf f_))), ((bd 2), .inl (cy 0, 780, .inl (nIf u_))), ((bd 8), .inl (cy 0, 16, .inl (nIf o1_))), ((bd 12), .inl (cy 0, 16, .inl (nIf nx_)))] : va_W))) (fun _ => rfl) (by decide) rfl rfl rfl rfl hl.1 rfl (Nat.le_of_ble_eq_true rfl) dX8_play_16 ⟨Nat.zero_le _, Nat.zero_le _⟩ (fun  u16 H locs h16 hP hD hS => ?_)
    obtain ⟨w_16, rfl⟩ : ∃ z_, z_ = u16 := ⟨_, rfl⟩
    have h16 : (∀ z_, z_ < 130 → w_16 (130 * ((mU m_) - (mU m_) / 6) + z_) = f_ z_) ∧ ∀ j_ z_, j_ < (mU m_) - (mU m_) / 6 → z_ < 130 → w_16 (130 * j_ + z_) = u_ (130 * (j_ + (mU m_) / 6) + z_) := h16
    have hP : va_P D vwCl [((bd 0), .inr (5, [.int (nI 0), .ref (bd 1), .ref (bd 2), .int (nI ((mU m_) - (mU m_) / 6 + 1)), .ref (bd 3), .ref (bd 4), .ref (bd 5), .int (nI ln_), .int (nI at_), .int (if iw_ = true then 1 else 0), .ref (bd 6), .ref (bd 7), .ref (bd 8), .ref (bd 9), .ref (bd 10), .ref (bd 11), .ref (bd 12), .ref (bd 13), .ref (bd 14)])), ((bd 1), .inl (cy 0, 130, .inl (nIf f_))), ((bd 2), .inl (cy 0, 780, .inl (nIf w_16))), ((bd 8), .inl (cy 0, 16, .inl (nIf o1_))), ((bd 12), .inl (cy 0, 16, .inl (nIf nx_)))] H := hP
    have hD : va_D zA [((bd 0), .inr (5, [.int (nI 0), .ref (bd 1), .ref (bd 2), .int (nI ((mU m_) - (mU m_) / 6 + 1)), .ref (bd 3), .ref (bd 4), .ref (bd 5), .int (nI ln_), .int (nI at_), .int (if iw_ = true then 1 else 0), .ref (bd 6), .ref (bd 7), .ref (bd 8), .ref (bd 9), .ref (bd 10), .ref (bd 11), .ref (bd 12), .ref (bd 13), .ref (bd 14)])), ((bd 1), .inl (cy 0, 130, .inl (nIf f_))), ((bd 2), .inl (cy 0, 780, .inl (nIf w_16))), ((bd 8), .inl (cy 0, 16, .inl (nIf o1_))), ((bd 12), .inl (cy 0, 16, .inl (nIf nx_)))] := hD
    refine lv_aload_n hx hb dX8_play_19 rfl (lv_at hl 0 rfl) ?_
    refine lv_aload_n hx hb dX8_play_20 rfl (lv_at hl 0 rfl) ?_
    refine va_get (D := D) (ci := 5) (v := .ref (bd 8)) (C := RX8) (T := TX8) (N := 19) hx hb hts (fun w h => List.mem_cons_of_mem _ (zinX8 w h)) hown hK.1 hP 0 rfl rfl 12 (by decide) (hts _ (List.mem_cons_of_mem _ zw_81)) (fun _ h9 => h9) rfl dX8_play_21 ?_
    refine lv_iload_n hx hb dX8_play_24 rfl (lv_at hl 1 rfl) ?_
    refine zcWv (As := [.ref (bd 8), .int a_]) (rest := []) (wr := [((bd 2), .inl (cy 0, 780, .inl (nIf w_16))), ((bd 12), .inl (cy 0, 16, .inl (nIf nx_)))]) ⟨hx, hb, hml, hown, hts⟩ (c_X8_fetches l D cy H.size bd ((mU m_) - (mU m_) / 6 + 1) ln_ at_ iw_ f_ (bd 8) o1_ a_ (by omega) (by omega)) (cwV 2 hts (zG_V zw_257 zw_258 zw_259 zw_5 zw_260) rfl rfl rfl zd_X8_fetches ⟨Nat.le_of_ble_eq_true rfl, Nat.le_of_ble_eq_true rfl⟩) hK hP hD hS hA [0, 1, 3] [2, 4] [2, 3, 0, 4, 1] rfl (by decide) rfl (by decide) (by decide) (w2 := (fun u_ : Unit => ([((bd 0), .inr (5, [.int (nI 0), .ref (bd 1), .ref (bd 2), .int (nI ((mU m_) - (mU m_) / 6 + 1)), .ref (bd 3), .ref (bd 4), .ref (bd 5), .int (nI ln_), .int (nI at_), .int (if iw_ = true then 1 else 0), .ref (bd 6), .ref (bd 7), .ref (bd 8), .ref (bd 9), .ref (bd 10), .ref (bd 11), .ref (bd 12), .ref (bd 13), .ref (bd 14)])), ((bd 1), .inl (cy 0, 130, .inl (nIf f_))), ((bd 2), .inl (cy 0, 780, .inl (nIf w_16))), ((bd 8), .inl (cy 0, 16, .inl (nIf (fil (gTo f_ a_) o1_ (f_ 0))))), ((bd 12), .inl (cy 0, 16, .inl (nIf nx_)))] : va_W))) (fun _ => rfl) (by decide) rfl rfl rfl rfl hl.1 rfl (Nat.le_of_ble_eq_true rfl) dX8_play_25 ⟨Nat.zero_le _, Nat.zero_le _⟩ (fun  u25 H locs h25 hP hD hS => ?_)
    have h25 : True := h25
    have hP : va_P D vwCl [((bd 0), .inr (5, [.int (nI 0), .ref (bd 1), .ref (bd 2), .int (nI ((mU m_) - (mU m_) / 6 + 1)), .ref (bd 3), .ref (bd 4), .ref (bd 5), .int (nI ln_), .int (nI at_), .int (if iw_ = true then 1 else 0), .ref (bd 6), .ref (bd 7), .ref (bd 8), .ref (bd 9), .ref (bd 10), .ref (bd 11), .ref (bd 12), .ref (bd 13), .ref (bd 14)])), ((bd 1), .inl (cy 0, 130, .inl (nIf f_))), ((bd 2), .inl (cy 0, 780, .inl (nIf w_16))), ((bd 8), .inl (cy 0, 16, .inl (nIf (fil (gTo f_ a_) o1_ (f_ 0))))), ((bd 12), .inl (cy 0, 16, .inl (nIf nx_)))] H := hP
    have hD : va_D zA [((bd 0), .inr (5, [.int (nI 0), .ref (bd 1), .ref (bd 2), .int (nI ((mU m_) - (mU m_) / 6 + 1)), .ref (bd 3), .ref (bd 4), .ref (bd 5), .int (nI ln_), .int (nI at_), .int (if iw_ = true then 1 else 0), .ref (bd 6), .ref (bd 7), .ref (bd 8), .ref (bd 9), .ref (bd 10), .ref (bd 11), .ref (bd 12), .ref (bd 13), .ref (bd 14)])), ((bd 1), .inl (cy 0, 130, .inl (nIf f_))), ((bd 2), .inl (cy 0, 780, .inl (nIf w_16))), ((bd 8), .inl (cy 0, 16, .inl (nIf (fil (gTo f_ a_) o1_ (f_ 0))))), ((bd 12), .inl (cy 0, 16, .inl (nIf nx_)))] := hD
    refine lv_aload_n hx hb dX8_play_28 rfl (lv_at hl 0 rfl) ?_
    refine lv_aload_n hx hb dX8_play_29 rfl (lv_at hl 0 rfl) ?_
    refine va_get (D := D) (ci := 5) (v := .ref (bd 8)) (C := RX8) (T := TX8) (N := 19) hx hb hts (fun w h => List.mem_cons_of_mem _ (zinX8 w h)) hown hK.1 hP 0 rfl rfl 12 (by decide) (hts _ (List.mem_cons_of_mem _ zw_81)) (fun _ h9 => h9) rfl dX8_play_30 ?_
    refine zcWi (As := [.ref (bd 8)]) (rest := []) (wr := [((bd 2), .inl (cy 0, 780, .inl (nIf w_16)))]) ⟨hx, hb, hml, hown, hts⟩ (c_X8_does l D cy H.size bd ((mU m_) - (mU m_) / 6 + 1) ln_ at_ iw_ f_ (bd 8) (fil (gTo f_ a_) o1_ (f_ 0)) xa_ nx_ (by omega) hXa hwa (row_T hw hM.1)) (cwV 1 hts (zG_V zw_332 zw_333 zw_334 zw_5 zw_335) rfl rfl rfl zd_X8_does ⟨Nat.le_of_ble_eq_true rfl, Nat.le_of_ble_eq_true rfl⟩) hK hP hD hS hA [0, 1, 3, 4] [2] [1, 2, 0, 3, 4] rfl (by decide) rfl (by decide) (by decide) (w2 := (fun u_ : (Nat → Nat) × (Nat → Nat) => ([((bd 0), .inr (5, [.int (nI 0), .ref (bd 1), .ref (bd 2), .int (nI ((mU m_) - (mU m_) / 6 + 1)), .ref (bd 3), .ref (bd 4), .ref (bd 5), .int (nI ln_), .int (nI at_), .int (if iw_ = true then 1 else 0), .ref (bd 6), .ref (bd 7), .ref (bd 8), .ref (bd 9), .ref (bd 10), .ref (bd 11), .ref (bd 12), .ref (bd 13), .ref (bd 14)])), ((bd 1), .inl (cy 0, 130, .inl (nIf u_.1))), ((bd 2), .inl (cy 0, 780, .inl (nIf w_16))), ((bd 8), .inl (cy 0, 16, .inl (nIf (fil (gTo f_ a_) o1_ (f_ 0))))), ((bd 12), .inl (cy 0, 16, .inl (nIf u_.2)))] : va_W))) (fun _ => rfl) (by decide) rfl rfl rfl rfl hl.1 rfl (Nat.le_of_ble_eq_true rfl) dX8_play_33 ⟨Nat.zero_le _, Nat.zero_le _⟩ (fun r33 u33 H locs h33 hP hD hS => ?_)
    obtain ⟨w_33, y_33⟩ := u33
    obtain ⟨hr33, h33⟩ := h33
    have hr33 : r33 = nI (w_33 2) := hr33
    have h33 : (∀ z_, z_ < f_ 0 → w_33 (2 + (fil (gTo f_ a_) o1_ (f_ 0)) z_) = f_ (2 + z_)) ∧ (∀ z_, z_ < f_ 0 → w_33 (18 + z_) = (fil (gTo f_ a_) o1_ (f_ 0)) (f_ (18 + z_))) ∧ ∀ z_, z_ < 2 ∨ 34 ≤ z_ → w_33 z_ = f_ z_ := h33
    subst hr33
    have hP : va_P D vwCl [((bd 0), .inr (5, [.int (nI 0), .ref (bd 1), .ref (bd 2), .int (nI ((mU m_) - (mU m_) / 6 + 1)), .ref (bd 3), .ref (bd 4), .ref (bd 5), .int (nI ln_), .int (nI at_), .int (if iw_ = true then 1 else 0), .ref (bd 6), .ref (bd 7), .ref (bd 8), .ref (bd 9), .ref (bd 10), .ref (bd 11), .ref (bd 12), .ref (bd 13), .ref (bd 14)])), ((bd 1), .inl (cy 0, 130, .inl (nIf w_33))), ((bd 2), .inl (cy 0, 780, .inl (nIf w_16))), ((bd 8), .inl (cy 0, 16, .inl (nIf (fil (gTo f_ a_) o1_ (f_ 0))))), ((bd 12), .inl (cy 0, 16, .inl (nIf y_33)))] H := hP
    have hD : va_D zA [((bd 0), .inr (5, [.int (nI 0), .ref (bd 1), .ref (bd 2), .int (nI ((mU m_) - (mU m_) / 6 + 1)), .ref (bd 3), .ref (bd 4), .ref (bd 5), .int (nI ln_), .int (nI at_), .int (if iw_ = true then 1 else 0), .ref (bd 6), .ref (bd 7), .ref (bd 8), .ref (bd 9), .ref (bd 10), .ref (bd 11), .ref (bd 12), .ref (bd 13), .ref (bd 14)])), ((bd 1), .inl (cy 0, 130, .inl (nIf w_33))), ((bd 2), .inl (cy 0, 780, .inl (nIf w_16))), ((bd 8), .inl (cy 0, 16, .inl (nIf (fil (gTo f_ a_) o1_ (f_ 0))))), ((bd 12), .inl (cy 0, 16, .inl (nIf y_33)))] := hD
    have eu_ : mU m_ - mU m_ / 6 + 1 = upD (mU m_) := (upD_E hU6).symm
    rw [eu_] at hP hD
    have e_ : opPlay m_ a_ = (nI (fr p_ 0), putM m_ (mN m_, p_, t_, mC m_, mM m_)) := by unfold opPlay moveM; rw [if_pos hba, hp_, ht_, hxa_]
    rw [e_] at kr
    exact kr _ (w_33, w_16, (fil (gTo f_ a_) o1_ (f_ 0)), y_33) _ _ _ _ dX8_play_36 (vp_nar_int _) (does_m hp_ ht_ hw hM (rec_u hw hX6 hU6 hM h16) hwa hXa h33) hP hD hS
  · skip
    refine lv_iconst (v := (-1)) hx hb dX8_play_13 (by decide) ?_
    have e_ : opPlay m_ a_ = (-1, m_) := if_neg (fun q_ => c10 (by have := bM_iff.mp q_; omega))
    rw [e_] at kr
    exact kr _ (f_, u_, o1_, nx_) _ _ _ _ dX8_play_14 (vp_nar_int _) ⟨rfl, hM⟩ hP hD hS
abbrev w_X8_cut : List Cond := Cond.code yX8_cut cX8_cut 2 (some .int) :: zAll
abbrev r_X8_cut : Room := { frames := 2, cells := 0, slots := 0, locals := 43 }
theorem zd_X8_cut : yX8_cut.cls = RX8 ∧ yX8_cut.cls ≠ "java/lang/invoke/MethodHandle" ∧ yX8_cut.cls ≠ "java/lang/invoke/VarHandle" ∧ (parseMethodDescriptor yX8_cut.desc).map (fun d => d.parameters.length) = some 1 := by decide +kernel
set_option maxHeartbeats 4000000 in
set_option maxRecDepth 100000 in
theorem c_X8_cut (l : Launch) (D : va_G) (cy : Nat → ClassId) (sz : Nat) (bd : Nat → Nat) (m_ : MT) (ln_ : Nat) (at_ : Nat) (iw_ : Bool) (f_ : Nat → Nat) (u_ : Nat → Nat) (o1_ : Nat → Nat) (nx_ : Nat → Nat) (a_ : Int32) (hw : TVok m_.1) (hX6 : mX m_ < 6) (hU6 : mU m_ ≤ 6) (hM : MR m_ f_ u_) : zWi l yX8_cut w_X8_cut r_X8_cut D cy [((bd 0), .inr (5, [.int (nI 0), .ref (bd 1), .ref (bd 2), .int (nI (mU m_)), .ref (bd 3), .ref (bd 4), .ref (bd 5), .int (nI ln_), .int (nI at_), .int (if iw_ = true then 1 else 0), .ref (bd 6), .ref (bd 7), .ref (bd 8), .ref (bd 9), .ref (bd 10), .ref (bd 11), .ref (bd 12), .ref (bd 13), .ref (bd 14)])), ((bd 1), .inl (cy 0, 130, .inl (nIf f_))), ((bd 2), .inl (cy 0, 780, .inl (nIf u_))), ((bd 8), .inl (cy 0, 16, .inl (nIf o1_))), ((bd 12), .inl (cy 0, 16, .inl (nIf nx_)))] sz [.ref (bd 0), .int a_] (fun (r_ : Int32) (u : (Nat → Nat) × (Nat → Nat) × (Nat → Nat) × (Nat → Nat)) => r_ = ((opCut m_ a_).1) ∧ MR (opCut m_ a_).2 u.1 u.2.1) (fun u : (Nat → Nat) × (Nat → Nat) × (Nat → Nat) × (Nat → Nat) => ([((bd 0), .inr (5, [.int (nI 0), .ref (bd 1), .ref (bd 2), .int (nI (mU (opCut m_ a_).2)), .ref (bd 3), .ref (bd 4), .ref (bd 5), .int (nI ln_), .int (nI at_), .int (if iw_ = true then 1 else 0), .ref (bd 6), .ref (bd 7), .ref (bd 8), .ref (bd 9), .ref (bd 10), .ref (bd 11), .ref (bd 12), .ref (bd 13), .ref (bd 14)])), ((bd 1), .inl (cy 0, 130, .inl (nIf u.1))), ((bd 2), .inl (cy 0, 780, .inl (nIf u.2.1))), ((bd 8), .inl (cy 0, 16, .inl (nIf u.2.2.1))), ((bd 12), .inl (cy 0, 16, .inl (nIf u.2.2.2)))] : va_W)) := by
  refine zOfW (cc := cX8_cut) (maxL := 2) (ty := .int) (by decide) rfl (Nat.le_of_ble_eq_true rfl) ?_
  intro zp ze zs zm za zb zme zc hx hb hml hts hown hP hK zA hD hA Q kr ls hl
  have hS : va_S zA zs.heap zs.heap [] := va_S.rf
  have hown : zs.vm.findClass RX8 = some zm.cls := hown
  have hl : lv_has ls 2 [(0, .ref (bd 0)), (1, .int a_)] := hl
  have hn2 := ok_2 hw
  have hn16 := ok_n hw
  have hC6 := ok_C hw
  have hf0 : f_ 0 = mN m_ := hM.1.1
  have hf1 : f_ 1 = mC m_ := hM.1.2.1
  have hk2_ : (nI 2).toInt = 2 := rfl
  have hk16_ : (nI 16).toInt = 16 := rfl
  have hk0_ : (nI 0).toInt = 0 := rfl
  have hk1_ : (nI 1).toInt = 1 := rfl
  have hk9_ : (nI 999).toInt = 999 := rfl
  have hk8_ : (-999 : Int32).toInt = -999 := rfl
  refine lv_aload_n hx hb dX8_cut_0 rfl (lv_at hl 0 rfl) ?_
  refine lv_iconst (v := nI 0) hx hb dX8_cut_1 (by decide) ?_
  refine va_put (D := D) (ci := 5) (v := .int (nI 0)) (ty := .int) (C := RX8) (T := TX8) (N := 19) hx hb hts (fun w h => List.mem_cons_of_mem _ (zinX8 w h)) tyX8 tyX8_ok nmX8 hown hK.1 hP hD hS 0 rfl rfl 0 (by decide) (hts _ (List.mem_cons_of_mem _ zw_88)) (fun _ h9 => h9) rfl (tyX8_ok 0 (by decide)) rfl rfl (Nat.le_of_ble_eq_true rfl) dX8_cut_2 (fun H locs hP hD hS => ?_)
  have hP : va_P D vwCl [((bd 0), .inr (5, [.int (nI 0), .ref (bd 1), .ref (bd 2), .int (nI (mU m_)), .ref (bd 3), .ref (bd 4), .ref (bd 5), .int (nI ln_), .int (nI at_), .int (if iw_ = true then 1 else 0), .ref (bd 6), .ref (bd 7), .ref (bd 8), .ref (bd 9), .ref (bd 10), .ref (bd 11), .ref (bd 12), .ref (bd 13), .ref (bd 14)])), ((bd 1), .inl (cy 0, 130, .inl (nIf f_))), ((bd 2), .inl (cy 0, 780, .inl (nIf u_))), ((bd 8), .inl (cy 0, 16, .inl (nIf o1_))), ((bd 12), .inl (cy 0, 16, .inl (nIf nx_)))] H := hP
  have hD : va_D zA [((bd 0), .inr (5, [.int (nI 0), .ref (bd 1), .ref (bd 2), .int (nI (mU m_)), .ref (bd 3), .ref (bd 4), .ref (bd 5), .int (nI ln_), .int (nI at_), .int (if iw_ = true then 1 else 0), .ref (bd 6), .ref (bd 7), .ref (bd 8), .ref (bd 9), .ref (bd 10), .ref (bd 11), .ref (bd 12), .ref (bd 13), .ref (bd 14)])), ((bd 1), .inl (cy 0, 130, .inl (nIf f_))), ((bd 2), .inl (cy 0, 780, .inl (nIf u_))), ((bd 8), .inl (cy 0, 16, .inl (nIf o1_))), ((bd 12), .inl (cy 0, 16, .inl (nIf nx_)))] := hD
  refine lv_aload_n hx hb dX8_cut_5 rfl (lv_at hl 0 rfl) ?_
  refine lv_iload_n hx hb dX8_cut_6 rfl (lv_at hl 1 rfl) ?_
  refine zcRi (As := [.int a_]) (rest := []) ⟨hx, hb, hml, hown, hts⟩ (c_X8_isPlace l D cy bd (mU m_) ln_ at_ iw_ f_ a_ (by omega)) (cwV 1 hts (zG_V zw_222 zw_223 zw_224 zw_5 zw_225) rfl rfl rfl zd_X8_isPlace ⟨Nat.le_of_ble_eq_true rfl, Nat.le_of_ble_eq_true rfl⟩) hK hP [0, 1] rfl rfl rfl rfl rfl hl.1 rfl (Nat.le_of_ble_eq_true rfl) dX8_cut_7 ⟨Nat.zero_le _, Nat.zero_le _⟩ (fun r7 h7 => ?_)
  subst h7
  refine zq_ne (tgt := 16) hx hb dX8_cut_10 (by decide) (fun c10 => ?_) (fun c10 => ?_)
  · skip
    refine lv_aload_n hx hb dX8_cut_16 rfl (lv_at hl 0 rfl) ?_
    refine zcWv (As := []) (rest := []) (wr := [((bd 8), .inl (cy 0, 16, .inl (nIf o1_))), ((bd 12), .inl (cy 0, 16, .inl (nIf nx_)))]) ⟨hx, hb, hml, hown, hts⟩ (c_X8_records l D cy H.size bd (mU m_) ln_ at_ iw_ f_ u_ (by omega)) (cwV 0 hts (zG_V zw_124 zw_125 zw_126 zw_5 zw_127) rfl rfl rfl zd_X8_records ⟨Nat.le_of_ble_eq_true rfl, Nat.le_of_ble_eq_true rfl⟩) hK hP hD hS hA [0, 1, 2] [3, 4] [2, 3, 4, 0, 1] rfl (by decide) rfl (by decide) (by decide) (w2 := (fun u_ : (Nat → Nat) => ([((bd 0), .inr (5, [.int (nI 0), .ref (bd 1), .ref (bd 2), .int (nI ((mU m_) - (mU m_) / 6 + 1)), .ref (bd 3), .ref (bd 4), .ref (bd 5), .int (nI ln_), .int (nI at_), .int (if iw_ = true then 1 else 0), .ref (bd 6), .ref (bd 7), .ref (bd 8), .ref (bd 9), .ref (bd 10), .ref (bd 11), .ref (bd 12), .ref (bd 13), .ref (bd 14)])), ((bd 1), .inl (cy 0, 130, .inl (nIf f_))), ((bd 2), .inl (cy 0, 780, .inl (nIf u_))), ((bd 8), .inl (cy 0, 16, .inl (nIf o1_))), ((bd 12), .inl (cy 0, 16, .inl (nIf nx_)))] : va_W))) (fun _ => rfl) (by decide) rfl rfl rfl rfl hl.1 rfl (Nat.le_of_ble_eq_true rfl) dX8_cut_17 ⟨Nat.zero_le _, Nat.zero_le _⟩ (fun  u17 H locs h17 hP hD hS => ?_)
    obtain ⟨w_17, rfl⟩ : ∃ z_, z_ = u17 := ⟨_, rfl⟩
    have h17 : (∀ z_, z_ < 130 → w_17 (130 * ((mU m_) - (mU m_) / 6) + z_) = f_ z_) ∧ ∀ j_ z_, j_ < (mU m_) - (mU m_) / 6 → z_ < 130 → w_17 (130 * j_ + z_) = u_ (130 * (j_ + (mU m_) / 6) + z_) := h17
    have hP : va_P D vwCl [((bd 0), .inr (5, [.int (nI 0), .ref (bd 1), .ref (bd 2), .int (nI ((mU m_) - (mU m_) / 6 + 1)), .ref (bd 3), .ref (bd 4), .ref (bd 5), .int (nI ln_), .int (nI at_), .int (if iw_ = true then 1 else 0), .ref (bd 6), .ref (bd 7), .ref (bd 8), .ref (bd 9), .ref (bd 10), .ref (bd 11), .ref (bd 12), .ref (bd 13), .ref (bd 14)])), ((bd 1), .inl (cy 0, 130, .inl (nIf f_))), ((bd 2), .inl (cy 0, 780, .inl (nIf w_17))), ((bd 8), .inl (cy 0, 16, .inl (nIf o1_))), ((bd 12), .inl (cy 0, 16, .inl (nIf nx_)))] H := hP
    have hD : va_D zA [((bd 0), .inr (5, [.int (nI 0), .ref (bd 1), .ref (bd 2), .int (nI ((mU m_) - (mU m_) / 6 + 1)), .ref (bd 3), .ref (bd 4), .ref (bd 5), .int (nI ln_), .int (nI at_), .int (if iw_ = true then 1 else 0), .ref (bd 6), .ref (bd 7), .ref (bd 8), .ref (bd 9), .ref (bd 10), .ref (bd 11), .ref (bd 12), .ref (bd 13), .ref (bd 14)])), ((bd 1), .inl (cy 0, 130, .inl (nIf f_))), ((bd 2), .inl (cy 0, 780, .inl (nIf w_17))), ((bd 8), .inl (cy 0, 16, .inl (nIf o1_))), ((bd 12), .inl (cy 0, 16, .inl (nIf nx_)))] := hD
    refine lv_aload_n hx hb dX8_cut_20 rfl (lv_at hl 0 rfl) ?_
    refine lv_aload_n hx hb dX8_cut_21 rfl (lv_at hl 0 rfl) ?_
    refine va_get (D := D) (ci := 5) (v := .ref (bd 8)) (C := RX8) (T := TX8) (N := 19) hx hb hts (fun w h => List.mem_cons_of_mem _ (zinX8 w h)) hown hK.1 hP 0 rfl rfl 12 (by decide) (hts _ (List.mem_cons_of_mem _ zw_81)) (fun _ h9 => h9) rfl dX8_cut_22 ?_
    refine lv_iload_n hx hb dX8_cut_25 rfl (lv_at hl 1 rfl) ?_
    obtain ⟨j_, hj_, ej_⟩ := zz_rng (n := f_ 0) (x := a_) (by omega)
    refine zi_top (v := nI j_) ej_ ?_
    obtain ⟨xa_, hxa_⟩ : ∃ zz_, zz_ = perL (cutF j_ (mN m_)) (mN m_) := ⟨_, rfl⟩
    have hwa : WF (f_ 0) xa_ := by rw [hxa_, ← hf0]; exact cut_WF (by omega) hj_
    have hXa : RowX (f_ 0) (fil (cutF j_ (f_ 0)) o1_ (f_ 0)) xa_ := per_X (by omega) (h := cutF j_ (f_ 0)) (fun q_ hq_ => cutF_lt (by omega) hq_) (fun _ _ => rfl) (by rw [hxa_, ← hf0])
    obtain ⟨p_, hp_⟩ : ∃ zz_, zz_ = thenL (mP m_) xa_ := ⟨_, rfl⟩
    obtain ⟨t_, ht_⟩ : ∃ zz_, zz_ = thenL (mT m_) xa_ := ⟨_, rfl⟩
    refine zcWv (As := [.ref (bd 8), .int (nI j_)]) (rest := []) (wr := [((bd 2), .inl (cy 0, 780, .inl (nIf w_17))), ((bd 12), .inl (cy 0, 16, .inl (nIf nx_)))]) ⟨hx, hb, hml, hown, hts⟩ (c_X8_laysCut l D cy H.size bd ((mU m_) - (mU m_) / 6 + 1) ln_ at_ iw_ f_ (bd 8) o1_ j_ (by omega) (by omega)) (cwV 2 hts (zG_V zw_357 zw_358 zw_359 zw_5 zw_360) rfl rfl rfl zd_X8_laysCut ⟨Nat.le_of_ble_eq_true rfl, Nat.le_of_ble_eq_true rfl⟩) hK hP hD hS hA [0, 1, 3] [2, 4] [2, 3, 0, 4, 1] rfl (by decide) rfl (by decide) (by decide) (w2 := (fun u_ : Unit => ([((bd 0), .inr (5, [.int (nI 0), .ref (bd 1), .ref (bd 2), .int (nI ((mU m_) - (mU m_) / 6 + 1)), .ref (bd 3), .ref (bd 4), .ref (bd 5), .int (nI ln_), .int (nI at_), .int (if iw_ = true then 1 else 0), .ref (bd 6), .ref (bd 7), .ref (bd 8), .ref (bd 9), .ref (bd 10), .ref (bd 11), .ref (bd 12), .ref (bd 13), .ref (bd 14)])), ((bd 1), .inl (cy 0, 130, .inl (nIf f_))), ((bd 2), .inl (cy 0, 780, .inl (nIf w_17))), ((bd 8), .inl (cy 0, 16, .inl (nIf (fil (cutF j_ (f_ 0)) o1_ (f_ 0))))), ((bd 12), .inl (cy 0, 16, .inl (nIf nx_)))] : va_W))) (fun _ => rfl) (by decide) rfl rfl rfl rfl hl.1 rfl (Nat.le_of_ble_eq_true rfl) dX8_cut_26 ⟨Nat.zero_le _, Nat.zero_le _⟩ (fun  u26 H locs h26 hP hD hS => ?_)
    have h26 : True := h26
    have hP : va_P D vwCl [((bd 0), .inr (5, [.int (nI 0), .ref (bd 1), .ref (bd 2), .int (nI ((mU m_) - (mU m_) / 6 + 1)), .ref (bd 3), .ref (bd 4), .ref (bd 5), .int (nI ln_), .int (nI at_), .int (if iw_ = true then 1 else 0), .ref (bd 6), .ref (bd 7), .ref (bd 8), .ref (bd 9), .ref (bd 10), .ref (bd 11), .ref (bd 12), .ref (bd 13), .ref (bd 14)])), ((bd 1), .inl (cy 0, 130, .inl (nIf f_))), ((bd 2), .inl (cy 0, 780, .inl (nIf w_17))), ((bd 8), .inl (cy 0, 16, .inl (nIf (fil (cutF j_ (f_ 0)) o1_ (f_ 0))))), ((bd 12), .inl (cy 0, 16, .inl (nIf nx_)))] H := hP
    have hD : va_D zA [((bd 0), .inr (5, [.int (nI 0), .ref (bd 1), .ref (bd 2), .int (nI ((mU m_) - (mU m_) / 6 + 1)), .ref (bd 3), .ref (bd 4), .ref (bd 5), .int (nI ln_), .int (nI at_), .int (if iw_ = true then 1 else 0), .ref (bd 6), .ref (bd 7), .ref (bd 8), .ref (bd 9), .ref (bd 10), .ref (bd 11), .ref (bd 12), .ref (bd 13), .ref (bd 14)])), ((bd 1), .inl (cy 0, 130, .inl (nIf f_))), ((bd 2), .inl (cy 0, 780, .inl (nIf w_17))), ((bd 8), .inl (cy 0, 16, .inl (nIf (fil (cutF j_ (f_ 0)) o1_ (f_ 0))))), ((bd 12), .inl (cy 0, 16, .inl (nIf nx_)))] := hD
    refine lv_aload_n hx hb dX8_cut_29 rfl (lv_at hl 0 rfl) ?_
    refine lv_aload_n hx hb dX8_cut_30 rfl (lv_at hl 0 rfl) ?_
    refine va_get (D := D) (ci := 5) (v := .ref (bd 8)) (C := RX8) (T := TX8) (N := 19) hx hb hts (fun w h => List.mem_cons_of_mem _ (zinX8 w h)) hown hK.1 hP 0 rfl rfl 12 (by decide) (hts _ (List.mem_cons_of_mem _ zw_81)) (fun _ h9 => h9) rfl dX8_cut_31 ?_
    refine zcWi (As := [.ref (bd 8)]) (rest := []) (wr := [((bd 2), .inl (cy 0, 780, .inl (nIf w_17)))]) ⟨hx, hb, hml, hown, hts⟩ (c_X8_does l D cy H.size bd ((mU m_) - (mU m_) / 6 + 1) ln_ at_ iw_ f_ (bd 8) (fil (cutF j_ (f_ 0)) o1_ (f_ 0)) xa_ nx_ (by omega) hXa hwa (row_T hw hM.1)) (cwV 1 hts (zG_V zw_332 zw_333 zw_334 zw_5 zw_335) rfl rfl rfl zd_X8_does ⟨Nat.le_of_ble_eq_true rfl, Nat.le_of_ble_eq_true rfl⟩) hK hP hD hS hA [0, 1, 3, 4] [2] [1, 2, 0, 3, 4] rfl (by decide) rfl (by decide) (by decide) (w2 := (fun u_ : (Nat → Nat) × (Nat → Nat) => ([((bd 0), .inr (5, [.int (nI 0), .ref (bd 1), .ref (bd 2), .int (nI ((mU m_) - (mU m_) / 6 + 1)), .ref (bd 3), .ref (bd 4), .ref (bd 5), .int (nI ln_), .int (nI at_), .int (if iw_ = true then 1 else 0), .ref (bd 6), .ref (bd 7), .ref (bd 8), .ref (bd 9), .ref (bd 10), .ref (bd 11), .ref (bd 12), .ref (bd 13), .ref (bd 14)])), ((bd 1), .inl (cy 0, 130, .inl (nIf u_.1))), ((bd 2), .inl (cy 0, 780, .inl (nIf w_17))), ((bd 8), .inl (cy 0, 16, .inl (nIf (fil (cutF j_ (f_ 0)) o1_ (f_ 0))))), ((bd 12), .inl (cy 0, 16, .inl (nIf u_.2)))] : va_W))) (fun _ => rfl) (by decide) rfl rfl rfl rfl hl.1 rfl (Nat.le_of_ble_eq_true rfl) dX8_cut_34 ⟨Nat.zero_le _, Nat.zero_le _⟩ (fun r34 u34 H locs h34 hP hD hS => ?_)
    obtain ⟨w_34, y_34⟩ := u34
    obtain ⟨hr34, h34⟩ := h34
    have hr34 : r34 = nI (w_34 2) := hr34
    have h34 : (∀ z_, z_ < f_ 0 → w_34 (2 + (fil (cutF j_ (f_ 0)) o1_ (f_ 0)) z_) = f_ (2 + z_)) ∧ (∀ z_, z_ < f_ 0 → w_34 (18 + z_) = (fil (cutF j_ (f_ 0)) o1_ (f_ 0)) (f_ (18 + z_))) ∧ ∀ z_, z_ < 2 ∨ 34 ≤ z_ → w_34 z_ = f_ z_ := h34
    subst hr34
    have hP : va_P D vwCl [((bd 0), .inr (5, [.int (nI 0), .ref (bd 1), .ref (bd 2), .int (nI ((mU m_) - (mU m_) / 6 + 1)), .ref (bd 3), .ref (bd 4), .ref (bd 5), .int (nI ln_), .int (nI at_), .int (if iw_ = true then 1 else 0), .ref (bd 6), .ref (bd 7), .ref (bd 8), .ref (bd 9), .ref (bd 10), .ref (bd 11), .ref (bd 12), .ref (bd 13), .ref (bd 14)])), ((bd 1), .inl (cy 0, 130, .inl (nIf w_34))), ((bd 2), .inl (cy 0, 780, .inl (nIf w_17))), ((bd 8), .inl (cy 0, 16, .inl (nIf (fil (cutF j_ (f_ 0)) o1_ (f_ 0))))), ((bd 12), .inl (cy 0, 16, .inl (nIf y_34)))] H := hP
    have hD : va_D zA [((bd 0), .inr (5, [.int (nI 0), .ref (bd 1), .ref (bd 2), .int (nI ((mU m_) - (mU m_) / 6 + 1)), .ref (bd 3), .ref (bd 4), .ref (bd 5), .int (nI ln_), .int (nI at_), .int (if iw_ = true then 1 else 0), .ref (bd 6), .ref (bd 7), .ref (bd 8), .ref (bd 9), .ref (bd 10), .ref (bd 11), .ref (bd 12), .ref (bd 13), .ref (bd 14)])), ((bd 1), .inl (cy 0, 130, .inl (nIf w_34))), ((bd 2), .inl (cy 0, 780, .inl (nIf w_17))), ((bd 8), .inl (cy 0, 16, .inl (nIf (fil (cutF j_ (f_ 0)) o1_ (f_ 0))))), ((bd 12), .inl (cy 0, 16, .inl (nIf y_34)))] := hD
    have eu_ : mU m_ - mU m_ / 6 + 1 = upD (mU m_) := (upD_E hU6).symm
    rw [eu_] at hP hD
    have e_ : opCut m_ a_ = (nI (fr p_ 0), putM m_ (mN m_, p_, t_, mC m_, mM m_)) := by unfold opCut moveM; rw [if_pos (bP_iff.mpr (by omega)), ej_, ix_nI (by omega), hp_, ht_, hxa_]
    rw [e_] at kr
    exact kr _ (w_34, w_17, (fil (cutF j_ (f_ 0)) o1_ (f_ 0)), y_34) _ _ _ _ dX8_cut_37 (vp_nar_int _) (does_m hp_ ht_ hw hM (rec_u hw hX6 hU6 hM h17) hwa hXa h34) hP hD hS
  · skip
    refine lv_bipush (v := (-2)) hx hb dX8_cut_13 (by decide) ?_
    have e_ : opCut m_ a_ = (-2, m_) := if_neg (fun q_ => c10 (by have := bP_iff.mp q_; omega))
    rw [e_] at kr
    exact kr _ (f_, u_, o1_, nx_) _ _ _ _ dX8_cut_15 (vp_nar_int _) ⟨rfl, hM⟩ hP hD hS
abbrev w_X8_riffle : List Cond := Cond.code yX8_riffle cX8_riffle 2 (some .int) :: zAll
abbrev r_X8_riffle : Room := { frames := 1, cells := 0, slots := 0, locals := 25 }
theorem zd_X8_riffle : yX8_riffle.cls = RX8 ∧ yX8_riffle.cls ≠ "java/lang/invoke/MethodHandle" ∧ yX8_riffle.cls ≠ "java/lang/invoke/VarHandle" ∧ (parseMethodDescriptor yX8_riffle.desc).map (fun d => d.parameters.length) = some 1 := by decide +kernel
set_option maxHeartbeats 4000000 in
set_option maxRecDepth 100000 in
theorem c_X8_riffle (l : Launch) (D : va_G) (cy : Nat → ClassId) (sz : Nat) (bd : Nat → Nat) (m_ : MT) (ln_ : Nat) (at_ : Nat) (iw_ : Bool) (f_ : Nat → Nat) (u_ : Nat → Nat) (o1_ : Nat → Nat) (nx_ : Nat → Nat) (a_ : Int32) (hw : TVok m_.1) (hX6 : mX m_ < 6) (hU6 : mU m_ ≤ 6) (hM : MR m_ f_ u_) : zWi l yX8_riffle w_X8_riffle r_X8_riffle D cy [((bd 0), .inr (5, [.int (nI 0), .ref (bd 1), .ref (bd 2), .int (nI (mU m_)), .ref (bd 3), .ref (bd 4), .ref (bd 5), .int (nI ln_), .int (nI at_), .int (if iw_ = true then 1 else 0), .ref (bd 6), .ref (bd 7), .ref (bd 8), .ref (bd 9), .ref (bd 10), .ref (bd 11), .ref (bd 12), .ref (bd 13), .ref (bd 14)])), ((bd 1), .inl (cy 0, 130, .inl (nIf f_))), ((bd 2), .inl (cy 0, 780, .inl (nIf u_))), ((bd 8), .inl (cy 0, 16, .inl (nIf o1_))), ((bd 12), .inl (cy 0, 16, .inl (nIf nx_)))] sz [.ref (bd 0), .int a_] (fun (r_ : Int32) (u : (Nat → Nat) × (Nat → Nat) × (Nat → Nat) × (Nat → Nat)) => r_ = ((opRiffle m_ a_).1) ∧ MR (opRiffle m_ a_).2 u.1 u.2.1) (fun u : (Nat → Nat) × (Nat → Nat) × (Nat → Nat) × (Nat → Nat) => ([((bd 0), .inr (5, [.int (nI 0), .ref (bd 1), .ref (bd 2), .int (nI (mU (opRiffle m_ a_).2)), .ref (bd 3), .ref (bd 4), .ref (bd 5), .int (nI ln_), .int (nI at_), .int (if iw_ = true then 1 else 0), .ref (bd 6), .ref (bd 7), .ref (bd 8), .ref (bd 9), .ref (bd 10), .ref (bd 11), .ref (bd 12), .ref (bd 13), .ref (bd 14)])), ((bd 1), .inl (cy 0, 130, .inl (nIf u.1))), ((bd 2), .inl (cy 0, 780, .inl (nIf u.2.1))), ((bd 8), .inl (cy 0, 16, .inl (nIf u.2.2.1))), ((bd 12), .inl (cy 0, 16, .inl (nIf u.2.2.2)))] : va_W)) := by
  refine zOfW (cc := cX8_riffle) (maxL := 2) (ty := .int) (by decide) rfl (Nat.le_of_ble_eq_true rfl) ?_
  intro zp ze zs zm za zb zme zc hx hb hml hts hown hP hK zA hD hA Q kr ls hl
  have hS : va_S zA zs.heap zs.heap [] := va_S.rf
  have hown : zs.vm.findClass RX8 = some zm.cls := hown
  have hl : lv_has ls 2 [(0, .ref (bd 0)), (1, .int a_)] := hl
  have hn2 := ok_2 hw
  have hn16 := ok_n hw
  have hC6 := ok_C hw
  have hf0 : f_ 0 = mN m_ := hM.1.1
  have hf1 : f_ 1 = mC m_ := hM.1.2.1
  have hk2_ : (nI 2).toInt = 2 := rfl
  have hk16_ : (nI 16).toInt = 16 := rfl
  have hk0_ : (nI 0).toInt = 0 := rfl
  have hk1_ : (nI 1).toInt = 1 := rfl
  have hk9_ : (nI 999).toInt = 999 := rfl
  have hk8_ : (-999 : Int32).toInt = -999 := rfl
  refine lv_aload_n hx hb dX8_riffle_0 rfl (lv_at hl 0 rfl) ?_
  refine lv_iconst (v := nI 0) hx hb dX8_riffle_1 (by decide) ?_
  refine va_put (D := D) (ci := 5) (v := .int (nI 0)) (ty := .int) (C := RX8) (T := TX8) (N := 19) hx hb hts (fun w h => List.mem_cons_of_mem _ (zinX8 w h)) tyX8 tyX8_ok nmX8 hown hK.1 hP hD hS 0 rfl rfl 0 (by decide) (hts _ (List.mem_cons_of_mem _ zw_88)) (fun _ h9 => h9) rfl (tyX8_ok 0 (by decide)) rfl rfl (Nat.le_of_ble_eq_true rfl) dX8_riffle_2 (fun H locs hP hD hS => ?_)
  have hP : va_P D vwCl [((bd 0), .inr (5, [.int (nI 0), .ref (bd 1), .ref (bd 2), .int (nI (mU m_)), .ref (bd 3), .ref (bd 4), .ref (bd 5), .int (nI ln_), .int (nI at_), .int (if iw_ = true then 1 else 0), .ref (bd 6), .ref (bd 7), .ref (bd 8), .ref (bd 9), .ref (bd 10), .ref (bd 11), .ref (bd 12), .ref (bd 13), .ref (bd 14)])), ((bd 1), .inl (cy 0, 130, .inl (nIf f_))), ((bd 2), .inl (cy 0, 780, .inl (nIf u_))), ((bd 8), .inl (cy 0, 16, .inl (nIf o1_))), ((bd 12), .inl (cy 0, 16, .inl (nIf nx_)))] H := hP
  have hD : va_D zA [((bd 0), .inr (5, [.int (nI 0), .ref (bd 1), .ref (bd 2), .int (nI (mU m_)), .ref (bd 3), .ref (bd 4), .ref (bd 5), .int (nI ln_), .int (nI at_), .int (if iw_ = true then 1 else 0), .ref (bd 6), .ref (bd 7), .ref (bd 8), .ref (bd 9), .ref (bd 10), .ref (bd 11), .ref (bd 12), .ref (bd 13), .ref (bd 14)])), ((bd 1), .inl (cy 0, 130, .inl (nIf f_))), ((bd 2), .inl (cy 0, 780, .inl (nIf u_))), ((bd 8), .inl (cy 0, 16, .inl (nIf o1_))), ((bd 12), .inl (cy 0, 16, .inl (nIf nx_)))] := hD
  refine lv_iload_n hx hb dX8_riffle_5 rfl (lv_at hl 1 rfl) ?_
  refine lv_iconst (v := nI 0) hx hb dX8_riffle_6 (by decide) ?_
  refine lv_iconst (v := nI 1) hx hb dX8_riffle_7 (by decide) ?_
  refine zcSi (As := [.int a_, .int (nI 0), .int (nI 1)]) (rest := []) ⟨hx, hb, hml, hown, hts⟩ (c_X8_in l D cy a_ (nI 0) (nI 1)) (va_cwS 3 hts (zG_S zw_121 zw_122 zw_5 zw_123) rfl rfl rfl zd_X8_in ⟨Nat.le_of_ble_eq_true rfl, Nat.le_of_ble_eq_true rfl⟩) hK hP [] rfl rfl hl.1 rfl (Nat.le_of_ble_eq_true rfl) dX8_riffle_8 ⟨Nat.zero_le _, Nat.zero_le _⟩ (fun r8 h8 => ?_)
  subst h8
  refine zq_ne (tgt := 17) hx hb dX8_riffle_11 (by decide) (fun c11 => ?_) (fun c11 => ?_)
  · skip
    refine lv_aload_n hx hb dX8_riffle_17 rfl (lv_at hl 0 rfl) ?_
    refine zcWv (As := []) (rest := []) (wr := [((bd 8), .inl (cy 0, 16, .inl (nIf o1_))), ((bd 12), .inl (cy 0, 16, .inl (nIf nx_)))]) ⟨hx, hb, hml, hown, hts⟩ (c_X8_records l D cy H.size bd (mU m_) ln_ at_ iw_ f_ u_ (by omega)) (cwV 0 hts (zG_V zw_124 zw_125 zw_126 zw_5 zw_127) rfl rfl rfl zd_X8_records ⟨Nat.le_of_ble_eq_true rfl, Nat.le_of_ble_eq_true rfl⟩) hK hP hD hS hA [0, 1, 2] [3, 4] [2, 3, 4, 0, 1] rfl (by decide) rfl (by decide) (by decide) (w2 := (fun u_ : (Nat → Nat) => ([((bd 0), .inr (5, [.int (nI 0), .ref (bd 1), .ref (bd 2), .int (nI ((mU m_) - (mU m_) / 6 + 1)), .ref (bd 3), .ref (bd 4), .ref (bd 5), .int (nI ln_), .int (nI at_), .int (if iw_ = true then 1 else 0), .ref (bd 6), .ref (bd 7), .ref (bd 8), .ref (bd 9), .ref (bd 10), .ref (bd 11), .ref (bd 12), .ref (bd 13), .ref (bd 14)])), ((bd 1), .inl (cy 0, 130, .inl (nIf f_))), ((bd 2), .inl (cy 0, 780, .inl (nIf u_))), ((bd 8), .inl (cy 0, 16, .inl (nIf o1_))), ((bd 12), .inl (cy 0, 16, .inl (nIf nx_)))] : va_W))) (fun _ => rfl) (by decide) rfl rfl rfl rfl hl.1 rfl (Nat.le_of_ble_eq_true rfl) dX8_riffle_18 ⟨Nat.zero_le _, Nat.zero_le _⟩ (fun  u18 H locs h18 hP hD hS => ?_)
    obtain ⟨w_18, rfl⟩ : ∃ z_, z_ = u18 := ⟨_, rfl⟩
    have h18 : (∀ z_, z_ < 130 → w_18 (130 * ((mU m_) - (mU m_) / 6) + z_) = f_ z_) ∧ ∀ j_ z_, j_ < (mU m_) - (mU m_) / 6 → z_ < 130 → w_18 (130 * j_ + z_) = u_ (130 * (j_ + (mU m_) / 6) + z_) := h18
    have hP : va_P D vwCl [((bd 0), .inr (5, [.int (nI 0), .ref (bd 1), .ref (bd 2), .int (nI ((mU m_) - (mU m_) / 6 + 1)), .ref (bd 3), .ref (bd 4), .ref (bd 5), .int (nI ln_), .int (nI at_), .int (if iw_ = true then 1 else 0), .ref (bd 6), .ref (bd 7), .ref (bd 8), .ref (bd 9), .ref (bd 10), .ref (bd 11), .ref (bd 12), .ref (bd 13), .ref (bd 14)])), ((bd 1), .inl (cy 0, 130, .inl (nIf f_))), ((bd 2), .inl (cy 0, 780, .inl (nIf w_18))), ((bd 8), .inl (cy 0, 16, .inl (nIf o1_))), ((bd 12), .inl (cy 0, 16, .inl (nIf nx_)))] H := hP
    have hD : va_D zA [((bd 0), .inr (5, [.int (nI 0), .ref (bd 1), .ref (bd 2), .int (nI ((mU m_) - (mU m_) / 6 + 1)), .ref (bd 3), .ref (bd 4), .ref (bd 5), .int (nI ln_), .int (nI at_), .int (if iw_ = true then 1 else 0), .ref (bd 6), .ref (bd 7), .ref (bd 8), .ref (bd 9), .ref (bd 10), .ref (bd 11), .ref (bd 12), .ref (bd 13), .ref (bd 14)])), ((bd 1), .inl (cy 0, 130, .inl (nIf f_))), ((bd 2), .inl (cy 0, 780, .inl (nIf w_18))), ((bd 8), .inl (cy 0, 16, .inl (nIf o1_))), ((bd 12), .inl (cy 0, 16, .inl (nIf nx_)))] := hD
    refine lv_aload_n hx hb dX8_riffle_21 rfl (lv_at hl 0 rfl) ?_
    refine lv_aload_n hx hb dX8_riffle_22 rfl (lv_at hl 0 rfl) ?_
    refine va_get (D := D) (ci := 5) (v := .ref (bd 8)) (C := RX8) (T := TX8) (N := 19) hx hb hts (fun w h => List.mem_cons_of_mem _ (zinX8 w h)) hown hK.1 hP 0 rfl rfl 12 (by decide) (hts _ (List.mem_cons_of_mem _ zw_81)) (fun _ h9 => h9) rfl dX8_riffle_23 ?_
    refine lv_iload_n hx hb dX8_riffle_26 rfl (lv_at hl 1 rfl) ?_
    refine lv_iconst (v := nI 1) hx hb dX8_riffle_27 (by decide) ?_
    refine zt_ne (a := (a_).toInt) (b := ((1 : Nat) : Int)) (tgt := 35) hx hb dX8_riffle_28 (by decide) rfl (nI_toInt (by omega)) (fun c28 => ?_) (fun c28 => ?_)
    · skip
      refine lv_iconst (v := nI 0) hx hb dX8_riffle_35 (by decide) ?_
      obtain ⟨xa_, hxa_⟩ : ∃ zz_, zz_ = perL (stepF 1 (mN m_)) (mN m_) := ⟨_, rfl⟩
      have hwa : WF (f_ 0) xa_ := by rw [hxa_, ← hf0]; exact step_WF (by omega)
      have hXa : RowX (f_ 0) (fil (rifF 0 (f_ 0)) o1_ (f_ 0)) xa_ := per_X (by omega) (h := stepF 1 (f_ 0)) (fun q_ hq_ => stepF_lt hq_) (fun _ _ => rfl) (by rw [hxa_, ← hf0])
      obtain ⟨p_, hp_⟩ : ∃ zz_, zz_ = thenL (mP m_) xa_ := ⟨_, rfl⟩
      obtain ⟨t_, ht_⟩ : ∃ zz_, zz_ = thenL (mT m_) xa_ := ⟨_, rfl⟩
      refine zcWv (As := [.ref (bd 8), .int (nI 0)]) (rest := []) (wr := [((bd 2), .inl (cy 0, 780, .inl (nIf w_18))), ((bd 12), .inl (cy 0, 16, .inl (nIf nx_)))]) ⟨hx, hb, hml, hown, hts⟩ (c_X8_laysRiffle l D cy H.size bd ((mU m_) - (mU m_) / 6 + 1) ln_ at_ iw_ f_ (bd 8) o1_ 0 (by omega) (by omega)) (cwV 2 hts (zG_V zw_378 zw_379 zw_380 zw_5 zw_381) rfl rfl rfl zd_X8_laysRiffle ⟨Nat.le_of_ble_eq_true rfl, Nat.le_of_ble_eq_true rfl⟩) hK hP hD hS hA [0, 1, 3] [2, 4] [2, 3, 0, 4, 1] rfl (by decide) rfl (by decide) (by decide) (w2 := (fun u_ : Unit => ([((bd 0), .inr (5, [.int (nI 0), .ref (bd 1), .ref (bd 2), .int (nI ((mU m_) - (mU m_) / 6 + 1)), .ref (bd 3), .ref (bd 4), .ref (bd 5), .int (nI ln_), .int (nI at_), .int (if iw_ = true then 1 else 0), .ref (bd 6), .ref (bd 7), .ref (bd 8), .ref (bd 9), .ref (bd 10), .ref (bd 11), .ref (bd 12), .ref (bd 13), .ref (bd 14)])), ((bd 1), .inl (cy 0, 130, .inl (nIf f_))), ((bd 2), .inl (cy 0, 780, .inl (nIf w_18))), ((bd 8), .inl (cy 0, 16, .inl (nIf (fil (rifF 0 (f_ 0)) o1_ (f_ 0))))), ((bd 12), .inl (cy 0, 16, .inl (nIf nx_)))] : va_W))) (fun _ => rfl) (by decide) rfl rfl rfl rfl hl.1 rfl (Nat.le_of_ble_eq_true rfl) dX8_riffle_36 ⟨Nat.zero_le _, Nat.zero_le _⟩ (fun  u36 H locs h36 hP hD hS => ?_)
      have h36 : True := h36
      have hP : va_P D vwCl [((bd 0), .inr (5, [.int (nI 0), .ref (bd 1), .ref (bd 2), .int (nI ((mU m_) - (mU m_) / 6 + 1)), .ref (bd 3), .ref (bd 4), .ref (bd 5), .int (nI ln_), .int (nI at_), .int (if iw_ = true then 1 else 0), .ref (bd 6), .ref (bd 7), .ref (bd 8), .ref (bd 9), .ref (bd 10), .ref (bd 11), .ref (bd 12), .ref (bd 13), .ref (bd 14)])), ((bd 1), .inl (cy 0, 130, .inl (nIf f_))), ((bd 2), .inl (cy 0, 780, .inl (nIf w_18))), ((bd 8), .inl (cy 0, 16, .inl (nIf (fil (rifF 0 (f_ 0)) o1_ (f_ 0))))), ((bd 12), .inl (cy 0, 16, .inl (nIf nx_)))] H := hP
      have hD : va_D zA [((bd 0), .inr (5, [.int (nI 0), .ref (bd 1), .ref (bd 2), .int (nI ((mU m_) - (mU m_) / 6 + 1)), .ref (bd 3), .ref (bd 4), .ref (bd 5), .int (nI ln_), .int (nI at_), .int (if iw_ = true then 1 else 0), .ref (bd 6), .ref (bd 7), .ref (bd 8), .ref (bd 9), .ref (bd 10), .ref (bd 11), .ref (bd 12), .ref (bd 13), .ref (bd 14)])), ((bd 1), .inl (cy 0, 130, .inl (nIf f_))), ((bd 2), .inl (cy 0, 780, .inl (nIf w_18))), ((bd 8), .inl (cy 0, 16, .inl (nIf (fil (rifF 0 (f_ 0)) o1_ (f_ 0))))), ((bd 12), .inl (cy 0, 16, .inl (nIf nx_)))] := hD
      refine lv_aload_n hx hb dX8_riffle_39 rfl (lv_at hl 0 rfl) ?_
      refine lv_aload_n hx hb dX8_riffle_40 rfl (lv_at hl 0 rfl) ?_
      refine va_get (D := D) (ci := 5) (v := .ref (bd 8)) (C := RX8) (T := TX8) (N := 19) hx hb hts (fun w h => List.mem_cons_of_mem _ (zinX8 w h)) hown hK.1 hP 0 rfl rfl 12 (by decide) (hts _ (List.mem_cons_of_mem _ zw_81)) (fun _ h9 => h9) rfl dX8_riffle_41 ?_
      refine zcWi (As := [.ref (bd 8)]) (rest := []) (wr := [((bd 2), .inl (cy 0, 780, .inl (nIf w_18)))]) ⟨hx, hb, hml, hown, hts⟩ (c_X8_does l D cy H.size bd ((mU m_) - (mU m_) / 6 + 1) ln_ at_ iw_ f_ (bd 8) (fil (rifF 0 (f_ 0)) o1_ (f_ 0)) xa_ nx_ (by omega) hXa hwa (row_T hw hM.1)) (cwV 1 hts (zG_V zw_332 zw_333 zw_334 zw_5 zw_335) rfl rfl rfl zd_X8_does ⟨Nat.le_of_ble_eq_true rfl, Nat.le_of_ble_eq_true rfl⟩) hK hP hD hS hA [0, 1, 3, 4] [2] [1, 2, 0, 3, 4] rfl (by decide) rfl (by decide) (by decide) (w2 := (fun u_ : (Nat → Nat) × (Nat → Nat) => ([((bd 0), .inr (5, [.int (nI 0), .ref (bd 1), .ref (bd 2), .int (nI ((mU m_) - (mU m_) / 6 + 1)), .ref (bd 3), .ref (bd 4), .ref (bd 5), .int (nI ln_), .int (nI at_), .int (if iw_ = true then 1 else 0), .ref (bd 6), .ref (bd 7), .ref (bd 8), .ref (bd 9), .ref (bd 10), .ref (bd 11), .ref (bd 12), .ref (bd 13), .ref (bd 14)])), ((bd 1), .inl (cy 0, 130, .inl (nIf u_.1))), ((bd 2), .inl (cy 0, 780, .inl (nIf w_18))), ((bd 8), .inl (cy 0, 16, .inl (nIf (fil (rifF 0 (f_ 0)) o1_ (f_ 0))))), ((bd 12), .inl (cy 0, 16, .inl (nIf u_.2)))] : va_W))) (fun _ => rfl) (by decide) rfl rfl rfl rfl hl.1 rfl (Nat.le_of_ble_eq_true rfl) dX8_riffle_44 ⟨Nat.zero_le _, Nat.zero_le _⟩ (fun r44 u44 H locs h44 hP hD hS => ?_)
      obtain ⟨w_44, y_44⟩ := u44
      obtain ⟨hr44, h44⟩ := h44
      have hr44 : r44 = nI (w_44 2) := hr44
      have h44 : (∀ z_, z_ < f_ 0 → w_44 (2 + (fil (rifF 0 (f_ 0)) o1_ (f_ 0)) z_) = f_ (2 + z_)) ∧ (∀ z_, z_ < f_ 0 → w_44 (18 + z_) = (fil (rifF 0 (f_ 0)) o1_ (f_ 0)) (f_ (18 + z_))) ∧ ∀ z_, z_ < 2 ∨ 34 ≤ z_ → w_44 z_ = f_ z_ := h44
      subst hr44
      have hP : va_P D vwCl [((bd 0), .inr (5, [.int (nI 0), .ref (bd 1), .ref (bd 2), .int (nI ((mU m_) - (mU m_) / 6 + 1)), .ref (bd 3), .ref (bd 4), .ref (bd 5), .int (nI ln_), .int (nI at_), .int (if iw_ = true then 1 else 0), .ref (bd 6), .ref (bd 7), .ref (bd 8), .ref (bd 9), .ref (bd 10), .ref (bd 11), .ref (bd 12), .ref (bd 13), .ref (bd 14)])), ((bd 1), .inl (cy 0, 130, .inl (nIf w_44))), ((bd 2), .inl (cy 0, 780, .inl (nIf w_18))), ((bd 8), .inl (cy 0, 16, .inl (nIf (fil (rifF 0 (f_ 0)) o1_ (f_ 0))))), ((bd 12), .inl (cy 0, 16, .inl (nIf y_44)))] H := hP
      have hD : va_D zA [((bd 0), .inr (5, [.int (nI 0), .ref (bd 1), .ref (bd 2), .int (nI ((mU m_) - (mU m_) / 6 + 1)), .ref (bd 3), .ref (bd 4), .ref (bd 5), .int (nI ln_), .int (nI at_), .int (if iw_ = true then 1 else 0), .ref (bd 6), .ref (bd 7), .ref (bd 8), .ref (bd 9), .ref (bd 10), .ref (bd 11), .ref (bd 12), .ref (bd 13), .ref (bd 14)])), ((bd 1), .inl (cy 0, 130, .inl (nIf w_44))), ((bd 2), .inl (cy 0, 780, .inl (nIf w_18))), ((bd 8), .inl (cy 0, 16, .inl (nIf (fil (rifF 0 (f_ 0)) o1_ (f_ 0))))), ((bd 12), .inl (cy 0, 16, .inl (nIf y_44)))] := hD
      have eu_ : mU m_ - mU m_ / 6 + 1 = upD (mU m_) := (upD_E hU6).symm
      rw [eu_] at hP hD
      have e_ : opRiffle m_ a_ = (nI (fr p_ 0), putM m_ (mN m_, p_, t_, mC m_, mM m_)) := by unfold opRiffle moveM; rw [if_pos (by omega), if_neg (by omega), hp_, ht_, hxa_]
      rw [e_] at kr
      exact kr _ (w_44, w_18, (fil (rifF 0 (f_ 0)) o1_ (f_ 0)), y_44) _ _ _ _ dX8_riffle_47 (vp_nar_int _) (does_m hp_ ht_ hw hM (rec_u hw hX6 hU6 hM h18) hwa hXa h44) hP hD hS
    · skip
      refine lv_iconst (v := nI 1) hx hb dX8_riffle_31 (by decide) ?_
      refine lv_goto (tgt := 36) hx hb dX8_riffle_32 (by decide) ?_
      obtain ⟨xa_, hxa_⟩ : ∃ zz_, zz_ = perL (stepF 2 (mN m_)) (mN m_) := ⟨_, rfl⟩
      have hwa : WF (f_ 0) xa_ := by rw [hxa_, ← hf0]; exact step_WF (by omega)
      have hXa : RowX (f_ 0) (fil (rifF 1 (f_ 0)) o1_ (f_ 0)) xa_ := per_X (by omega) (h := stepF 2 (f_ 0)) (fun q_ hq_ => stepF_lt hq_) (fun _ _ => rfl) (by rw [hxa_, ← hf0])
      obtain ⟨p_, hp_⟩ : ∃ zz_, zz_ = thenL (mP m_) xa_ := ⟨_, rfl⟩
      obtain ⟨t_, ht_⟩ : ∃ zz_, zz_ = thenL (mT m_) xa_ := ⟨_, rfl⟩
      refine zcWv (As := [.ref (bd 8), .int (nI 1)]) (rest := []) (wr := [((bd 2), .inl (cy 0, 780, .inl (nIf w_18))), ((bd 12), .inl (cy 0, 16, .inl (nIf nx_)))]) ⟨hx, hb, hml, hown, hts⟩ (c_X8_laysRiffle l D cy H.size bd ((mU m_) - (mU m_) / 6 + 1) ln_ at_ iw_ f_ (bd 8) o1_ 1 (by omega) (by omega)) (cwV 2 hts (zG_V zw_378 zw_379 zw_380 zw_5 zw_381) rfl rfl rfl zd_X8_laysRiffle ⟨Nat.le_of_ble_eq_true rfl, Nat.le_of_ble_eq_true rfl⟩) hK hP hD hS hA [0, 1, 3] [2, 4] [2, 3, 0, 4, 1] rfl (by decide) rfl (by decide) (by decide) (w2 := (fun u_ : Unit => ([((bd 0), .inr (5, [.int (nI 0), .ref (bd 1), .ref (bd 2), .int (nI ((mU m_) - (mU m_) / 6 + 1)), .ref (bd 3), .ref (bd 4), .ref (bd 5), .int (nI ln_), .int (nI at_), .int (if iw_ = true then 1 else 0), .ref (bd 6), .ref (bd 7), .ref (bd 8), .ref (bd 9), .ref (bd 10), .ref (bd 11), .ref (bd 12), .ref (bd 13), .ref (bd 14)])), ((bd 1), .inl (cy 0, 130, .inl (nIf f_))), ((bd 2), .inl (cy 0, 780, .inl (nIf w_18))), ((bd 8), .inl (cy 0, 16, .inl (nIf (fil (rifF 1 (f_ 0)) o1_ (f_ 0))))), ((bd 12), .inl (cy 0, 16, .inl (nIf nx_)))] : va_W))) (fun _ => rfl) (by decide) rfl rfl rfl rfl hl.1 rfl (Nat.le_of_ble_eq_true rfl) dX8_riffle_36 ⟨Nat.zero_le _, Nat.zero_le _⟩ (fun  u36 H locs h36 hP hD hS => ?_)
      have h36 : True := h36
      have hP : va_P D vwCl [((bd 0), .inr (5, [.int (nI 0), .ref (bd 1), .ref (bd 2), .int (nI ((mU m_) - (mU m_) / 6 + 1)), .ref (bd 3), .ref (bd 4), .ref (bd 5), .int (nI ln_), .int (nI at_), .int (if iw_ = true then 1 else 0), .ref (bd 6), .ref (bd 7), .ref (bd 8), .ref (bd 9), .ref (bd 10), .ref (bd 11), .ref (bd 12), .ref (bd 13), .ref (bd 14)])), ((bd 1), .inl (cy 0, 130, .inl (nIf f_))), ((bd 2), .inl (cy 0, 780, .inl (nIf w_18))), ((bd 8), .inl (cy 0, 16, .inl (nIf (fil (rifF 1 (f_ 0)) o1_ (f_ 0))))), ((bd 12), .inl (cy 0, 16, .inl (nIf nx_)))] H := hP
      have hD : va_D zA [((bd 0), .inr (5, [.int (nI 0), .ref (bd 1), .ref (bd 2), .int (nI ((mU m_) - (mU m_) / 6 + 1)), .ref (bd 3), .ref (bd 4), .ref (bd 5), .int (nI ln_), .int (nI at_), .int (if iw_ = true then 1 else 0), .ref (bd 6), .ref (bd 7), .ref (bd 8), .ref (bd 9), .ref (bd 10), .ref (bd 11), .ref (bd 12), .ref (bd 13), .ref (bd 14)])), ((bd 1), .inl (cy 0, 130, .inl (nIf f_))), ((bd 2), .inl (cy 0, 780, .inl (nIf w_18))), ((bd 8), .inl (cy 0, 16, .inl (nIf (fil (rifF 1 (f_ 0)) o1_ (f_ 0))))), ((bd 12), .inl (cy 0, 16, .inl (nIf nx_)))] := hD
      refine lv_aload_n hx hb dX8_riffle_39 rfl (lv_at hl 0 rfl) ?_
      refine lv_aload_n hx hb dX8_riffle_40 rfl (lv_at hl 0 rfl) ?_
      refine va_get (D := D) (ci := 5) (v := .ref (bd 8)) (C := RX8) (T := TX8) (N := 19) hx hb hts (fun w h => List.mem_cons_of_mem _ (zinX8 w h)) hown hK.1 hP 0 rfl rfl 12 (by decide) (hts _ (List.mem_cons_of_mem _ zw_81)) (fun _ h9 => h9) rfl dX8_riffle_41 ?_
      refine zcWi (As := [.ref (bd 8)]) (rest := []) (wr := [((bd 2), .inl (cy 0, 780, .inl (nIf w_18)))]) ⟨hx, hb, hml, hown, hts⟩ (c_X8_does l D cy H.size bd ((mU m_) - (mU m_) / 6 + 1) ln_ at_ iw_ f_ (bd 8) (fil (rifF 1 (f_ 0)) o1_ (f_ 0)) xa_ nx_ (by omega) hXa hwa (row_T hw hM.1)) (cwV 1 hts (zG_V zw_332 zw_333 zw_334 zw_5 zw_335) rfl rfl rfl zd_X8_does ⟨Nat.le_of_ble_eq_true rfl, Nat.le_of_ble_eq_true rfl⟩) hK hP hD hS hA [0, 1, 3, 4] [2] [1, 2, 0, 3, 4] rfl (by decide) rfl (by decide) (by decide) (w2 := (fun u_ : (Nat → Nat) × (Nat → Nat) => ([((bd 0), .inr (5, [.int (nI 0), .ref (bd 1), .ref (bd 2), .int (nI ((mU m_) - (mU m_) / 6 + 1)), .ref (bd 3), .ref (bd 4), .ref (bd 5), .int (nI ln_), .int (nI at_), .int (if iw_ = true then 1 else 0), .ref (bd 6), .ref (bd 7), .ref (bd 8), .ref (bd 9), .ref (bd 10), .ref (bd 11), .ref (bd 12), .ref (bd 13), .ref (bd 14)])), ((bd 1), .inl (cy 0, 130, .inl (nIf u_.1))), ((bd 2), .inl (cy 0, 780, .inl (nIf w_18))), ((bd 8), .inl (cy 0, 16, .inl (nIf (fil (rifF 1 (f_ 0)) o1_ (f_ 0))))), ((bd 12), .inl (cy 0, 16, .inl (nIf u_.2)))] : va_W))) (fun _ => rfl) (by decide) rfl rfl rfl rfl hl.1 rfl (Nat.le_of_ble_eq_true rfl) dX8_riffle_44 ⟨Nat.zero_le _, Nat.zero_le _⟩ (fun r44 u44 H locs h44 hP hD hS => ?_)
      obtain ⟨w_44, y_44⟩ := u44
      obtain ⟨hr44, h44⟩ := h44
      have hr44 : r44 = nI (w_44 2) := hr44
      have h44 : (∀ z_, z_ < f_ 0 → w_44 (2 + (fil (rifF 1 (f_ 0)) o1_ (f_ 0)) z_) = f_ (2 + z_)) ∧ (∀ z_, z_ < f_ 0 → w_44 (18 + z_) = (fil (rifF 1 (f_ 0)) o1_ (f_ 0)) (f_ (18 + z_))) ∧ ∀ z_, z_ < 2 ∨ 34 ≤ z_ → w_44 z_ = f_ z_ := h44
      subst hr44
      have hP : va_P D vwCl [((bd 0), .inr (5, [.int (nI 0), .ref (bd 1), .ref (bd 2), .int (nI ((mU m_) - (mU m_) / 6 + 1)), .ref (bd 3), .ref (bd 4), .ref (bd 5), .int (nI ln_), .int (nI at_), .int (if iw_ = true then 1 else 0), .ref (bd 6), .ref (bd 7), .ref (bd 8), .ref (bd 9), .ref (bd 10), .ref (bd 11), .ref (bd 12), .ref (bd 13), .ref (bd 14)])), ((bd 1), .inl (cy 0, 130, .inl (nIf w_44))), ((bd 2), .inl (cy 0, 780, .inl (nIf w_18))), ((bd 8), .inl (cy 0, 16, .inl (nIf (fil (rifF 1 (f_ 0)) o1_ (f_ 0))))), ((bd 12), .inl (cy 0, 16, .inl (nIf y_44)))] H := hP
      have hD : va_D zA [((bd 0), .inr (5, [.int (nI 0), .ref (bd 1), .ref (bd 2), .int (nI ((mU m_) - (mU m_) / 6 + 1)), .ref (bd 3), .ref (bd 4), .ref (bd 5), .int (nI ln_), .int (nI at_), .int (if iw_ = true then 1 else 0), .ref (bd 6), .ref (bd 7), .ref (bd 8), .ref (bd 9), .ref (bd 10), .ref (bd 11), .ref (bd 12), .ref (bd 13), .ref (bd 14)])), ((bd 1), .inl (cy 0, 130, .inl (nIf w_44))), ((bd 2), .inl (cy 0, 780, .inl (nIf w_18))), ((bd 8), .inl (cy 0, 16, .inl (nIf (fil (rifF 1 (f_ 0)) o1_ (f_ 0))))), ((bd 12), .inl (cy 0, 16, .inl (nIf y_44)))] := hD
      have eu_ : mU m_ - mU m_ / 6 + 1 = upD (mU m_) := (upD_E hU6).symm
      rw [eu_] at hP hD
      have e_ : opRiffle m_ a_ = (nI (fr p_ 0), putM m_ (mN m_, p_, t_, mC m_, mM m_)) := by unfold opRiffle moveM; rw [if_pos (by omega), if_pos (by omega), hp_, ht_, hxa_]
      rw [e_] at kr
      exact kr _ (w_44, w_18, (fil (rifF 1 (f_ 0)) o1_ (f_ 0)), y_44) _ _ _ _ dX8_riffle_47 (vp_nar_int _) (does_m hp_ ht_ hw hM (rec_u hw hX6 hU6 hM h18) hwa hXa h44) hP hD hS
  · skip
    refine lv_bipush (v := (-2)) hx hb dX8_riffle_14 (by decide) ?_
    have e_ : opRiffle m_ a_ = (-2, m_) := if_neg (by omega)
    rw [e_] at kr
    exact kr _ (f_, u_, o1_, nx_) _ _ _ _ dX8_riffle_16 (vp_nar_int _) ⟨rfl, hM⟩ hP hD hS
abbrev w_X8_turn : List Cond := Cond.code yX8_turn cX8_turn 1 (some .int) :: zAll
abbrev r_X8_turn : Room := { frames := 1, cells := 0, slots := 0, locals := 22 }
theorem zd_X8_turn : yX8_turn.cls = RX8 ∧ yX8_turn.cls ≠ "java/lang/invoke/MethodHandle" ∧ yX8_turn.cls ≠ "java/lang/invoke/VarHandle" ∧ (parseMethodDescriptor yX8_turn.desc).map (fun d => d.parameters.length) = some 0 := by decide +kernel
set_option maxHeartbeats 4000000 in
set_option maxRecDepth 100000 in
theorem c_X8_turn (l : Launch) (D : va_G) (cy : Nat → ClassId) (sz : Nat) (bd : Nat → Nat) (m_ : MT) (ln_ : Nat) (at_ : Nat) (iw_ : Bool) (f_ : Nat → Nat) (u_ : Nat → Nat) (o1_ : Nat → Nat) (nx_ : Nat → Nat) (hw : TVok m_.1) (hX6 : mX m_ < 6) (hU6 : mU m_ ≤ 6) (hM : MR m_ f_ u_) : zWi l yX8_turn w_X8_turn r_X8_turn D cy [((bd 0), .inr (5, [.int (nI 0), .ref (bd 1), .ref (bd 2), .int (nI (mU m_)), .ref (bd 3), .ref (bd 4), .ref (bd 5), .int (nI ln_), .int (nI at_), .int (if iw_ = true then 1 else 0), .ref (bd 6), .ref (bd 7), .ref (bd 8), .ref (bd 9), .ref (bd 10), .ref (bd 11), .ref (bd 12), .ref (bd 13), .ref (bd 14)])), ((bd 1), .inl (cy 0, 130, .inl (nIf f_))), ((bd 2), .inl (cy 0, 780, .inl (nIf u_))), ((bd 8), .inl (cy 0, 16, .inl (nIf o1_))), ((bd 12), .inl (cy 0, 16, .inl (nIf nx_)))] sz [.ref (bd 0)] (fun (r_ : Int32) (u : (Nat → Nat) × (Nat → Nat) × (Nat → Nat) × (Nat → Nat)) => r_ = ((opTurn m_).1) ∧ MR (opTurn m_).2 u.1 u.2.1) (fun u : (Nat → Nat) × (Nat → Nat) × (Nat → Nat) × (Nat → Nat) => ([((bd 0), .inr (5, [.int (nI 0), .ref (bd 1), .ref (bd 2), .int (nI (mU (opTurn m_).2)), .ref (bd 3), .ref (bd 4), .ref (bd 5), .int (nI ln_), .int (nI at_), .int (if iw_ = true then 1 else 0), .ref (bd 6), .ref (bd 7), .ref (bd 8), .ref (bd 9), .ref (bd 10), .ref (bd 11), .ref (bd 12), .ref (bd 13), .ref (bd 14)])), ((bd 1), .inl (cy 0, 130, .inl (nIf u.1))), ((bd 2), .inl (cy 0, 780, .inl (nIf u.2.1))), ((bd 8), .inl (cy 0, 16, .inl (nIf u.2.2.1))), ((bd 12), .inl (cy 0, 16, .inl (nIf u.2.2.2)))] : va_W)) := by
  refine zOfW (cc := cX8_turn) (maxL := 1) (ty := .int) (by decide) rfl (Nat.le_of_ble_eq_true rfl) ?_
  intro zp ze zs zm za zb zme zc hx hb hml hts hown hP hK zA hD hA Q kr ls hl
  have hS : va_S zA zs.heap zs.heap [] := va_S.rf
  have hown : zs.vm.findClass RX8 = some zm.cls := hown
  have hl : lv_has ls 1 [(0, .ref (bd 0))] := hl
  have hn2 := ok_2 hw
  have hn16 := ok_n hw
  have hC6 := ok_C hw
  have hf0 : f_ 0 = mN m_ := hM.1.1
  have hf1 : f_ 1 = mC m_ := hM.1.2.1
  have hk2_ : (nI 2).toInt = 2 := rfl
  have hk16_ : (nI 16).toInt = 16 := rfl
  have hk0_ : (nI 0).toInt = 0 := rfl
  have hk1_ : (nI 1).toInt = 1 := rfl
  have hk9_ : (nI 999).toInt = 999 := rfl
  have hk8_ : (-999 : Int32).toInt = -999 := rfl
  refine lv_aload_n hx hb dX8_turn_0 rfl (lv_at hl 0 rfl) ?_
  refine lv_iconst (v := nI 0) hx hb dX8_turn_1 (by decide) ?_
  refine va_put (D := D) (ci := 5) (v := .int (nI 0)) (ty := .int) (C := RX8) (T := TX8) (N := 19) hx hb hts (fun w h => List.mem_cons_of_mem _ (zinX8 w h)) tyX8 tyX8_ok nmX8 hown hK.1 hP hD hS 0 rfl rfl 0 (by decide) (hts _ (List.mem_cons_of_mem _ zw_88)) (fun _ h9 => h9) rfl (tyX8_ok 0 (by decide)) rfl rfl (Nat.le_of_ble_eq_true rfl) dX8_turn_2 (fun H locs hP hD hS => ?_)
  have hP : va_P D vwCl [((bd 0), .inr (5, [.int (nI 0), .ref (bd 1), .ref (bd 2), .int (nI (mU m_)), .ref (bd 3), .ref (bd 4), .ref (bd 5), .int (nI ln_), .int (nI at_), .int (if iw_ = true then 1 else 0), .ref (bd 6), .ref (bd 7), .ref (bd 8), .ref (bd 9), .ref (bd 10), .ref (bd 11), .ref (bd 12), .ref (bd 13), .ref (bd 14)])), ((bd 1), .inl (cy 0, 130, .inl (nIf f_))), ((bd 2), .inl (cy 0, 780, .inl (nIf u_))), ((bd 8), .inl (cy 0, 16, .inl (nIf o1_))), ((bd 12), .inl (cy 0, 16, .inl (nIf nx_)))] H := hP
  have hD : va_D zA [((bd 0), .inr (5, [.int (nI 0), .ref (bd 1), .ref (bd 2), .int (nI (mU m_)), .ref (bd 3), .ref (bd 4), .ref (bd 5), .int (nI ln_), .int (nI at_), .int (if iw_ = true then 1 else 0), .ref (bd 6), .ref (bd 7), .ref (bd 8), .ref (bd 9), .ref (bd 10), .ref (bd 11), .ref (bd 12), .ref (bd 13), .ref (bd 14)])), ((bd 1), .inl (cy 0, 130, .inl (nIf f_))), ((bd 2), .inl (cy 0, 780, .inl (nIf u_))), ((bd 8), .inl (cy 0, 16, .inl (nIf o1_))), ((bd 12), .inl (cy 0, 16, .inl (nIf nx_)))] := hD
  refine lv_aload_n hx hb dX8_turn_5 rfl (lv_at hl 0 rfl) ?_
  refine zcWv (As := []) (rest := []) (wr := [((bd 8), .inl (cy 0, 16, .inl (nIf o1_))), ((bd 12), .inl (cy 0, 16, .inl (nIf nx_)))]) ⟨hx, hb, hml, hown, hts⟩ (c_X8_records l D cy H.size bd (mU m_) ln_ at_ iw_ f_ u_ (by omega)) (cwV 0 hts (zG_V zw_124 zw_125 zw_126 zw_5 zw_127) rfl rfl rfl zd_X8_records ⟨Nat.le_of_ble_eq_true rfl, Nat.le_of_ble_eq_true rfl⟩) hK hP hD hS hA [0, 1, 2] [3, 4] [2, 3, 4, 0, 1] rfl (by decide) rfl (by decide) (by decide) (w2 := (fun u_ : (Nat → Nat) => ([((bd 0), .inr (5, [.int (nI 0), .ref (bd 1), .ref (bd 2), .int (nI ((mU m_) - (mU m_) / 6 + 1)), .ref (bd 3), .ref (bd 4), .ref (bd 5), .int (nI ln_), .int (nI at_), .int (if iw_ = true then 1 else 0), .ref (bd 6), .ref (bd 7), .ref (bd 8), .ref (bd 9), .ref (bd 10), .ref (bd 11), .ref (bd 12), .ref (bd 13), .ref (bd 14)])), ((bd 1), .inl (cy 0, 130, .inl (nIf f_))), ((bd 2), .inl (cy 0, 780, .inl (nIf u_))), ((bd 8), .inl (cy 0, 16, .inl (nIf o1_))), ((bd 12), .inl (cy 0, 16, .inl (nIf nx_)))] : va_W))) (fun _ => rfl) (by decide) rfl rfl rfl rfl hl.1 rfl (Nat.le_of_ble_eq_true rfl) dX8_turn_6 ⟨Nat.zero_le _, Nat.zero_le _⟩ (fun  u6 H locs h6 hP hD hS => ?_)
  obtain ⟨w_6, rfl⟩ : ∃ z_, z_ = u6 := ⟨_, rfl⟩
  have h6 : (∀ z_, z_ < 130 → w_6 (130 * ((mU m_) - (mU m_) / 6) + z_) = f_ z_) ∧ ∀ j_ z_, j_ < (mU m_) - (mU m_) / 6 → z_ < 130 → w_6 (130 * j_ + z_) = u_ (130 * (j_ + (mU m_) / 6) + z_) := h6
  have hP : va_P D vwCl [((bd 0), .inr (5, [.int (nI 0), .ref (bd 1), .ref (bd 2), .int (nI ((mU m_) - (mU m_) / 6 + 1)), .ref (bd 3), .ref (bd 4), .ref (bd 5), .int (nI ln_), .int (nI at_), .int (if iw_ = true then 1 else 0), .ref (bd 6), .ref (bd 7), .ref (bd 8), .ref (bd 9), .ref (bd 10), .ref (bd 11), .ref (bd 12), .ref (bd 13), .ref (bd 14)])), ((bd 1), .inl (cy 0, 130, .inl (nIf f_))), ((bd 2), .inl (cy 0, 780, .inl (nIf w_6))), ((bd 8), .inl (cy 0, 16, .inl (nIf o1_))), ((bd 12), .inl (cy 0, 16, .inl (nIf nx_)))] H := hP
  have hD : va_D zA [((bd 0), .inr (5, [.int (nI 0), .ref (bd 1), .ref (bd 2), .int (nI ((mU m_) - (mU m_) / 6 + 1)), .ref (bd 3), .ref (bd 4), .ref (bd 5), .int (nI ln_), .int (nI at_), .int (if iw_ = true then 1 else 0), .ref (bd 6), .ref (bd 7), .ref (bd 8), .ref (bd 9), .ref (bd 10), .ref (bd 11), .ref (bd 12), .ref (bd 13), .ref (bd 14)])), ((bd 1), .inl (cy 0, 130, .inl (nIf f_))), ((bd 2), .inl (cy 0, 780, .inl (nIf w_6))), ((bd 8), .inl (cy 0, 16, .inl (nIf o1_))), ((bd 12), .inl (cy 0, 16, .inl (nIf nx_)))] := hD
  refine lv_aload_n hx hb dX8_turn_9 rfl (lv_at hl 0 rfl) ?_
  refine lv_aload_n hx hb dX8_turn_10 rfl (lv_at hl 0 rfl) ?_
  refine va_get (D := D) (ci := 5) (v := .ref (bd 8)) (C := RX8) (T := TX8) (N := 19) hx hb hts (fun w h => List.mem_cons_of_mem _ (zinX8 w h)) hown hK.1 hP 0 rfl rfl 12 (by decide) (hts _ (List.mem_cons_of_mem _ zw_81)) (fun _ h9 => h9) rfl dX8_turn_11 ?_
  obtain ⟨xa_, hxa_⟩ : ∃ zz_, zz_ = perL (stepF 3 (mN m_)) (mN m_) := ⟨_, rfl⟩
  have hwa : WF (f_ 0) xa_ := by rw [hxa_, ← hf0]; exact step_WF (by omega)
  have hXa : RowX (f_ 0) (fil (turF (f_ 0)) o1_ (f_ 0)) xa_ := per_X (by omega) (h := stepF 3 (f_ 0)) (fun q_ hq_ => stepF_lt hq_) (fun _ _ => rfl) (by rw [hxa_, ← hf0])
  obtain ⟨p_, hp_⟩ : ∃ zz_, zz_ = thenL (mP m_) xa_ := ⟨_, rfl⟩
  obtain ⟨t_, ht_⟩ : ∃ zz_, zz_ = thenL (mT m_) xa_ := ⟨_, rfl⟩
  refine zcWv (As := [.ref (bd 8)]) (rest := []) (wr := [((bd 2), .inl (cy 0, 780, .inl (nIf w_6))), ((bd 12), .inl (cy 0, 16, .inl (nIf nx_)))]) ⟨hx, hb, hml, hown, hts⟩ (c_X8_laysTurn l D cy H.size bd ((mU m_) - (mU m_) / 6 + 1) ln_ at_ iw_ f_ (bd 8) o1_ (by omega)) (cwV 1 hts (zG_V zw_390 zw_391 zw_392 zw_5 zw_393) rfl rfl rfl zd_X8_laysTurn ⟨Nat.le_of_ble_eq_true rfl, Nat.le_of_ble_eq_true rfl⟩) hK hP hD hS hA [0, 1, 3] [2, 4] [2, 3, 0, 4, 1] rfl (by decide) rfl (by decide) (by decide) (w2 := (fun u_ : Unit => ([((bd 0), .inr (5, [.int (nI 0), .ref (bd 1), .ref (bd 2), .int (nI ((mU m_) - (mU m_) / 6 + 1)), .ref (bd 3), .ref (bd 4), .ref (bd 5), .int (nI ln_), .int (nI at_), .int (if iw_ = true then 1 else 0), .ref (bd 6), .ref (bd 7), .ref (bd 8), .ref (bd 9), .ref (bd 10), .ref (bd 11), .ref (bd 12), .ref (bd 13), .ref (bd 14)])), ((bd 1), .inl (cy 0, 130, .inl (nIf f_))), ((bd 2), .inl (cy 0, 780, .inl (nIf w_6))), ((bd 8), .inl (cy 0, 16, .inl (nIf (fil (turF (f_ 0)) o1_ (f_ 0))))), ((bd 12), .inl (cy 0, 16, .inl (nIf nx_)))] : va_W))) (fun _ => rfl) (by decide) rfl rfl rfl rfl hl.1 rfl (Nat.le_of_ble_eq_true rfl) dX8_turn_14 ⟨Nat.zero_le _, Nat.zero_le _⟩ (fun  u14 H locs h14 hP hD hS => ?_)
  have h14 : True := h14
  have hP : va_P D vwCl [((bd 0), .inr (5, [.int (nI 0), .ref (bd 1), .ref (bd 2), .int (nI ((mU m_) - (mU m_) / 6 + 1)), .ref (bd 3), .ref (bd 4), .ref (bd 5), .int (nI ln_), .int (nI at_), .int (if iw_ = true then 1 else 0), .ref (bd 6), .ref (bd 7), .ref (bd 8), .ref (bd 9), .ref (bd 10), .ref (bd 11), .ref (bd 12), .ref (bd 13), .ref (bd 14)])), ((bd 1), .inl (cy 0, 130, .inl (nIf f_))), ((bd 2), .inl (cy 0, 780, .inl (nIf w_6))), ((bd 8), .inl (cy 0, 16, .inl (nIf (fil (turF (f_ 0)) o1_ (f_ 0))))), ((bd 12), .inl (cy 0, 16, .inl (nIf nx_)))] H := hP
  have hD : va_D zA [((bd 0), .inr (5, [.int (nI 0), .ref (bd 1), .ref (bd 2), .int (nI ((mU m_) - (mU m_) / 6 + 1)), .ref (bd 3), .ref (bd 4), .ref (bd 5), .int (nI ln_), .int (nI at_), .int (if iw_ = true then 1 else 0), .ref (bd 6), .ref (bd 7), .ref (bd 8), .ref (bd 9), .ref (bd 10), .ref (bd 11), .ref (bd 12), .ref (bd 13), .ref (bd 14)])), ((bd 1), .inl (cy 0, 130, .inl (nIf f_))), ((bd 2), .inl (cy 0, 780, .inl (nIf w_6))), ((bd 8), .inl (cy 0, 16, .inl (nIf (fil (turF (f_ 0)) o1_ (f_ 0))))), ((bd 12), .inl (cy 0, 16, .inl (nIf nx_)))] := hD
  refine lv_aload_n hx hb dX8_turn_17 rfl (lv_at hl 0 rfl) ?_
  refine lv_aload_n hx hb dX8_turn_18 rfl (lv_at hl 0 rfl) ?_
  refine va_get (D := D) (ci := 5) (v := .ref (bd 8)) (C := RX8) (T := TX8) (N := 19) hx hb hts (fun w h => List.mem_cons_of_mem _ (zinX8 w h)) hown hK.1 hP 0 rfl rfl 12 (by decide) (hts _ (List.mem_cons_of_mem _ zw_81)) (fun _ h9 => h9) rfl dX8_turn_19 ?_
  refine zcWi (As := [.ref (bd 8)]) (rest := []) (wr := [((bd 2), .inl (cy 0, 780, .inl (nIf w_6)))]) ⟨hx, hb, hml, hown, hts⟩ (c_X8_does l D cy H.size bd ((mU m_) - (mU m_) / 6 + 1) ln_ at_ iw_ f_ (bd 8) (fil (turF (f_ 0)) o1_ (f_ 0)) xa_ nx_ (by omega) hXa hwa (row_T hw hM.1)) (cwV 1 hts (zG_V zw_332 zw_333 zw_334 zw_5 zw_335) rfl rfl rfl zd_X8_does ⟨Nat.le_of_ble_eq_true rfl, Nat.le_of_ble_eq_true rfl⟩) hK hP hD hS hA [0, 1, 3, 4] [2] [1, 2, 0, 3, 4] rfl (by decide) rfl (by decide) (by decide) (w2 := (fun u_ : (Nat → Nat) × (Nat → Nat) => ([((bd 0), .inr (5, [.int (nI 0), .ref (bd 1), .ref (bd 2), .int (nI ((mU m_) - (mU m_) / 6 + 1)), .ref (bd 3), .ref (bd 4), .ref (bd 5), .int (nI ln_), .int (nI at_), .int (if iw_ = true then 1 else 0), .ref (bd 6), .ref (bd 7), .ref (bd 8), .ref (bd 9), .ref (bd 10), .ref (bd 11), .ref (bd 12), .ref (bd 13), .ref (bd 14)])), ((bd 1), .inl (cy 0, 130, .inl (nIf u_.1))), ((bd 2), .inl (cy 0, 780, .inl (nIf w_6))), ((bd 8), .inl (cy 0, 16, .inl (nIf (fil (turF (f_ 0)) o1_ (f_ 0))))), ((bd 12), .inl (cy 0, 16, .inl (nIf u_.2)))] : va_W))) (fun _ => rfl) (by decide) rfl rfl rfl rfl hl.1 rfl (Nat.le_of_ble_eq_true rfl) dX8_turn_22 ⟨Nat.zero_le _, Nat.zero_le _⟩ (fun r22 u22 H locs h22 hP hD hS => ?_)
  obtain ⟨w_22, y_22⟩ := u22
  obtain ⟨hr22, h22⟩ := h22
  have hr22 : r22 = nI (w_22 2) := hr22
  have h22 : (∀ z_, z_ < f_ 0 → w_22 (2 + (fil (turF (f_ 0)) o1_ (f_ 0)) z_) = f_ (2 + z_)) ∧ (∀ z_, z_ < f_ 0 → w_22 (18 + z_) = (fil (turF (f_ 0)) o1_ (f_ 0)) (f_ (18 + z_))) ∧ ∀ z_, z_ < 2 ∨ 34 ≤ z_ → w_22 z_ = f_ z_ := h22
  subst hr22
  have hP : va_P D vwCl [((bd 0), .inr (5, [.int (nI 0), .ref (bd 1), .ref (bd 2), .int (nI ((mU m_) - (mU m_) / 6 + 1)), .ref (bd 3), .ref (bd 4), .ref (bd 5), .int (nI ln_), .int (nI at_), .int (if iw_ = true then 1 else 0), .ref (bd 6), .ref (bd 7), .ref (bd 8), .ref (bd 9), .ref (bd 10), .ref (bd 11), .ref (bd 12), .ref (bd 13), .ref (bd 14)])), ((bd 1), .inl (cy 0, 130, .inl (nIf w_22))), ((bd 2), .inl (cy 0, 780, .inl (nIf w_6))), ((bd 8), .inl (cy 0, 16, .inl (nIf (fil (turF (f_ 0)) o1_ (f_ 0))))), ((bd 12), .inl (cy 0, 16, .inl (nIf y_22)))] H := hP
  have hD : va_D zA [((bd 0), .inr (5, [.int (nI 0), .ref (bd 1), .ref (bd 2), .int (nI ((mU m_) - (mU m_) / 6 + 1)), .ref (bd 3), .ref (bd 4), .ref (bd 5), .int (nI ln_), .int (nI at_), .int (if iw_ = true then 1 else 0), .ref (bd 6), .ref (bd 7), .ref (bd 8), .ref (bd 9), .ref (bd 10), .ref (bd 11), .ref (bd 12), .ref (bd 13), .ref (bd 14)])), ((bd 1), .inl (cy 0, 130, .inl (nIf w_22))), ((bd 2), .inl (cy 0, 780, .inl (nIf w_6))), ((bd 8), .inl (cy 0, 16, .inl (nIf (fil (turF (f_ 0)) o1_ (f_ 0))))), ((bd 12), .inl (cy 0, 16, .inl (nIf y_22)))] := hD
  have eu_ : mU m_ - mU m_ / 6 + 1 = upD (mU m_) := (upD_E hU6).symm
  rw [eu_] at hP hD
  have e_ : opTurn m_ = (nI (fr p_ 0), putM m_ (mN m_, p_, t_, mC m_, mM m_)) := by unfold opTurn moveM; rw [hp_, ht_, hxa_]
  rw [e_] at kr
  exact kr _ (w_22, w_6, (fil (turF (f_ 0)) o1_ (f_ 0)), y_22) _ _ _ _ dX8_turn_25 (vp_nar_int _) (does_m hp_ ht_ hw hM (rec_u hw hX6 hU6 hM h6) hwa hXa h22) hP hD hS
abbrev w_X8_power : List Cond := Cond.code yX8_power cX8_power 4 (some .int) :: zAll
abbrev r_X8_power : Room := { frames := 2, cells := 0, slots := 0, locals := 45 }
theorem zd_X8_power : yX8_power.cls = RX8 ∧ yX8_power.cls ≠ "java/lang/invoke/MethodHandle" ∧ yX8_power.cls ≠ "java/lang/invoke/VarHandle" ∧ (parseMethodDescriptor yX8_power.desc).map (fun d => d.parameters.length) = some 2 := by decide +kernel
set_option maxHeartbeats 4000000 in
set_option maxRecDepth 100000 in
theorem c_X8_power (l : Launch) (D : va_G) (cy : Nat → ClassId) (sz : Nat) (bd : Nat → Nat) (m_ : MT) (ln_ : Nat) (at_ : Nat) (iw_ : Bool) (f_ : Nat → Nat) (u_ : Nat → Nat) (o1_ : Nat → Nat) (o2_ : Nat → Nat) (a_ : Int32) (zp_ : Int32) (hw : TVok m_.1) (hX6 : mX m_ < 6) (hU6 : mU m_ ≤ 6) (hM : MR m_ f_ u_) : zWi l yX8_power w_X8_power r_X8_power D cy [((bd 0), .inr (5, [.int (nI 0), .ref (bd 1), .ref (bd 2), .int (nI (mU m_)), .ref (bd 3), .ref (bd 4), .ref (bd 5), .int (nI ln_), .int (nI at_), .int (if iw_ = true then 1 else 0), .ref (bd 6), .ref (bd 7), .ref (bd 8), .ref (bd 9), .ref (bd 10), .ref (bd 11), .ref (bd 12), .ref (bd 13), .ref (bd 14)])), ((bd 1), .inl (cy 0, 130, .inl (nIf f_))), ((bd 2), .inl (cy 0, 780, .inl (nIf u_))), ((bd 8), .inl (cy 0, 16, .inl (nIf o1_))), ((bd 9), .inl (cy 0, 16, .inl (nIf o2_)))] sz [.ref (bd 0), .int a_, .int zp_] (fun (r_ : Int32) (u : (Nat → Nat) × (Nat → Nat) × (Nat → Nat) × (Nat → Nat)) => r_ = ((opPower m_ a_ zp_).1) ∧ MR (opPower m_ a_ zp_).2 u.1 u.2.1) (fun u : (Nat → Nat) × (Nat → Nat) × (Nat → Nat) × (Nat → Nat) => ([((bd 0), .inr (5, [.int (nI 0), .ref (bd 1), .ref (bd 2), .int (nI (mU (opPower m_ a_ zp_).2)), .ref (bd 3), .ref (bd 4), .ref (bd 5), .int (nI ln_), .int (nI at_), .int (if iw_ = true then 1 else 0), .ref (bd 6), .ref (bd 7), .ref (bd 8), .ref (bd 9), .ref (bd 10), .ref (bd 11), .ref (bd 12), .ref (bd 13), .ref (bd 14)])), ((bd 1), .inl (cy 0, 130, .inl (nIf u.1))), ((bd 2), .inl (cy 0, 780, .inl (nIf u.2.1))), ((bd 8), .inl (cy 0, 16, .inl (nIf u.2.2.1))), ((bd 9), .inl (cy 0, 16, .inl (nIf u.2.2.2)))] : va_W)) := by
  refine zOfW (cc := cX8_power) (maxL := 4) (ty := .int) (by decide) rfl (Nat.le_of_ble_eq_true rfl) ?_
  intro zp ze zs zm za zb zme zc hx hb hml hts hown hP hK zA hD hA Q kr ls hl
  have hS : va_S zA zs.heap zs.heap [] := va_S.rf
  have hown : zs.vm.findClass RX8 = some zm.cls := hown
  have hl : lv_has ls 4 [(0, .ref (bd 0)), (1, .int a_), (2, .int zp_)] := hl
  have hn2 := ok_2 hw
  have hn16 := ok_n hw
  have hC6 := ok_C hw
  have hf0 : f_ 0 = mN m_ := hM.1.1
  have hf1 : f_ 1 = mC m_ := hM.1.2.1
  have hk2_ : (nI 2).toInt = 2 := rfl
  have hk16_ : (nI 16).toInt = 16 := rfl
  have hk0_ : (nI 0).toInt = 0 := rfl
  have hk1_ : (nI 1).toInt = 1 := rfl
  have hk9_ : (nI 999).toInt = 999 := rfl
  have hk8_ : (-999 : Int32).toInt = -999 := rfl
  refine lv_aload_n hx hb dX8_power_0 rfl (lv_at hl 0 rfl) ?_
  refine lv_iconst (v := nI 0) hx hb dX8_power_1 (by decide) ?_
  refine va_put (D := D) (ci := 5) (v := .int (nI 0)) (ty := .int) (C := RX8) (T := TX8) (N := 19) hx hb hts (fun w h => List.mem_cons_of_mem _ (zinX8 w h)) tyX8 tyX8_ok nmX8 hown hK.1 hP hD hS 0 rfl rfl 0 (by decide) (hts _ (List.mem_cons_of_mem _ zw_88)) (fun _ h9 => h9) rfl (tyX8_ok 0 (by decide)) rfl rfl (Nat.le_of_ble_eq_true rfl) dX8_power_2 (fun H locs hP hD hS => ?_)
  have hP : va_P D vwCl [((bd 0), .inr (5, [.int (nI 0), .ref (bd 1), .ref (bd 2), .int (nI (mU m_)), .ref (bd 3), .ref (bd 4), .ref (bd 5), .int (nI ln_), .int (nI at_), .int (if iw_ = true then 1 else 0), .ref (bd 6), .ref (bd 7), .ref (bd 8), .ref (bd 9), .ref (bd 10), .ref (bd 11), .ref (bd 12), .ref (bd 13), .ref (bd 14)])), ((bd 1), .inl (cy 0, 130, .inl (nIf f_))), ((bd 2), .inl (cy 0, 780, .inl (nIf u_))), ((bd 8), .inl (cy 0, 16, .inl (nIf o1_))), ((bd 9), .inl (cy 0, 16, .inl (nIf o2_)))] H := hP
  have hD : va_D zA [((bd 0), .inr (5, [.int (nI 0), .ref (bd 1), .ref (bd 2), .int (nI (mU m_)), .ref (bd 3), .ref (bd 4), .ref (bd 5), .int (nI ln_), .int (nI at_), .int (if iw_ = true then 1 else 0), .ref (bd 6), .ref (bd 7), .ref (bd 8), .ref (bd 9), .ref (bd 10), .ref (bd 11), .ref (bd 12), .ref (bd 13), .ref (bd 14)])), ((bd 1), .inl (cy 0, 130, .inl (nIf f_))), ((bd 2), .inl (cy 0, 780, .inl (nIf u_))), ((bd 8), .inl (cy 0, 16, .inl (nIf o1_))), ((bd 9), .inl (cy 0, 16, .inl (nIf o2_)))] := hD
  refine lv_aload_n hx hb dX8_power_5 rfl (lv_at hl 0 rfl) ?_
  refine lv_iload_n hx hb dX8_power_6 rfl (lv_at hl 1 rfl) ?_
  refine zcRi (As := [.int a_]) (rest := []) ⟨hx, hb, hml, hown, hts⟩ (c_X8_isMark l D cy bd (mU m_) ln_ at_ iw_ f_ a_ (by omega)) (cwV 1 hts (zG_V zw_253 zw_254 zw_255 zw_5 zw_256) rfl rfl rfl zd_X8_isMark ⟨Nat.le_of_ble_eq_true rfl, Nat.le_of_ble_eq_true rfl⟩) hK hP [0, 1] rfl rfl rfl rfl rfl hl.1 rfl (Nat.le_of_ble_eq_true rfl) dX8_power_7 ⟨Nat.zero_le _, Nat.zero_le _⟩ (fun r7 h7 => ?_)
  subst h7
  refine zq_ne (tgt := 15) hx hb dX8_power_10 (by decide) (fun c10 => ?_) (fun c10 => ?_)
  · skip
    refine lv_iload_n hx hb dX8_power_15 rfl (lv_at hl 2 rfl) ?_
    refine lv_sipush (v := (-999)) hx hb dX8_power_16 (by decide) ?_
    refine lv_sipush (v := nI 999) hx hb dX8_power_19 (by decide) ?_
    refine zcSi (As := [.int zp_, .int (-999), .int (nI 999)]) (rest := []) ⟨hx, hb, hml, hown, hts⟩ (c_X8_in l D cy zp_ (-999) (nI 999)) (va_cwS 3 hts (zG_S zw_121 zw_122 zw_5 zw_123) rfl rfl rfl zd_X8_in ⟨Nat.le_of_ble_eq_true rfl, Nat.le_of_ble_eq_true rfl⟩) hK hP [] rfl rfl hl.1 rfl (Nat.le_of_ble_eq_true rfl) dX8_power_22 ⟨Nat.zero_le _, Nat.zero_le _⟩ (fun r22 h22 => ?_)
    subst h22
    refine zq_ne (tgt := 31) hx hb dX8_power_25 (by decide) (fun c25 => ?_) (fun c25 => ?_)
    · skip
      refine lv_aload_n hx hb dX8_power_31 rfl (lv_at hl 0 rfl) ?_
      refine va_get (D := D) (ci := 5) (v := .ref (bd 1)) (C := RX8) (T := TX8) (N := 19) hx hb hts (fun w h => List.mem_cons_of_mem _ (zinX8 w h)) hown hK.1 hP 0 rfl rfl 1 (by decide) (hts _ (List.mem_cons_of_mem _ zw_74)) (fun _ h9 => h9) rfl dX8_power_32 ?_
      refine lv_iconst (v := nI 1) hx hb dX8_power_35 (by decide) ?_
      refine zi_iald (v := nI (f_ 1)) hx hb hK hP 1 rfl (by omega) (by omega) rfl dX8_power_36 ?_
      refine lv_bipush (v := nI 6) hx hb dX8_power_37 (by decide) ?_
      refine zb_ne (a := f_ 1) (b := 6) (tgt := 45) hx hb dX8_power_39 (by decide) (by omega) (by omega) (fun c39 => ?_) (fun c39 => ?_)
      · skip
        have hba : bM m_ a_ = true := bM_iff.mpr (by omega)
        have hia : ix a_ < mC m_ := by unfold ix; omega
        obtain ⟨xa_, hxa_⟩ : ∃ zz_, zz_ = mM m_ (ix a_) := ⟨_, rfl⟩
        obtain ⟨y_, hy_⟩ : ∃ zz_, zz_ = timesL xa_ zp_.toInt := ⟨_, rfl⟩
        have hXa := fetch_X hM.1 hba o1_
        have hwa := ok_M hw hia
        rw [← hf0, ← hxa_] at hwa
        rw [← hxa_] at hXa
        have hXy : RowX (f_ 0) (fil (fun q_ => pw xa_ zp_.toInt q_) o2_ (f_ 0)) y_ := pow_X (by omega) hy_
        refine lv_aload_n hx hb dX8_power_45 rfl (lv_at hl 0 rfl) ?_
        refine zcWv (As := []) (rest := []) (wr := [((bd 8), .inl (cy 0, 16, .inl (nIf o1_))), ((bd 9), .inl (cy 0, 16, .inl (nIf o2_)))]) ⟨hx, hb, hml, hown, hts⟩ (c_X8_records l D cy H.size bd (mU m_) ln_ at_ iw_ f_ u_ (by omega)) (cwV 0 hts (zG_V zw_124 zw_125 zw_126 zw_5 zw_127) rfl rfl rfl zd_X8_records ⟨Nat.le_of_ble_eq_true rfl, Nat.le_of_ble_eq_true rfl⟩) hK hP hD hS hA [0, 1, 2] [3, 4] [2, 3, 4, 0, 1] rfl (by decide) rfl (by decide) (by decide) (w2 := (fun u_ : (Nat → Nat) => ([((bd 0), .inr (5, [.int (nI 0), .ref (bd 1), .ref (bd 2), .int (nI ((mU m_) - (mU m_) / 6 + 1)), .ref (bd 3), .ref (bd 4), .ref (bd 5), .int (nI ln_), .int (nI at_), .int (if iw_ = true then 1 else 0), .ref (bd 6), .ref (bd 7), .ref (bd 8), .ref (bd 9), .ref (bd 10), .ref (bd 11), .ref (bd 12), .ref (bd 13), .ref (bd 14)])), ((bd 1), .inl (cy 0, 130, .inl (nIf f_))), ((bd 2), .inl (cy 0, 780, .inl (nIf u_))), ((bd 8), .inl (cy 0, 16, .inl (nIf o1_))), ((bd 9), .inl (cy 0, 16, .inl (nIf o2_)))] : va_W))) (fun _ => rfl) (by decide) rfl rfl rfl rfl hl.1 rfl (Nat.le_of_ble_eq_true rfl) dX8_power_46 ⟨Nat.zero_le _, Nat.zero_le _⟩ (fun  u46 H locs h46 hP hD hS => ?_)
        obtain ⟨w_46, rfl⟩ : ∃ z_, z_ = u46 := ⟨_, rfl⟩
        have h46 : (∀ z_, z_ < 130 → w_46 (130 * ((mU m_) - (mU m_) / 6) + z_) = f_ z_) ∧ ∀ j_ z_, j_ < (mU m_) - (mU m_) / 6 → z_ < 130 → w_46 (130 * j_ + z_) = u_ (130 * (j_ + (mU m_) / 6) + z_) := h46
        have hP : va_P D vwCl [((bd 0), .inr (5, [.int (nI 0), .ref (bd 1), .ref (bd 2), .int (nI ((mU m_) - (mU m_) / 6 + 1)), .ref (bd 3), .ref (bd 4), .ref (bd 5), .int (nI ln_), .int (nI at_), .int (if iw_ = true then 1 else 0), .ref (bd 6), .ref (bd 7), .ref (bd 8), .ref (bd 9), .ref (bd 10), .ref (bd 11), .ref (bd 12), .ref (bd 13), .ref (bd 14)])), ((bd 1), .inl (cy 0, 130, .inl (nIf f_))), ((bd 2), .inl (cy 0, 780, .inl (nIf w_46))), ((bd 8), .inl (cy 0, 16, .inl (nIf o1_))), ((bd 9), .inl (cy 0, 16, .inl (nIf o2_)))] H := hP
        have hD : va_D zA [((bd 0), .inr (5, [.int (nI 0), .ref (bd 1), .ref (bd 2), .int (nI ((mU m_) - (mU m_) / 6 + 1)), .ref (bd 3), .ref (bd 4), .ref (bd 5), .int (nI ln_), .int (nI at_), .int (if iw_ = true then 1 else 0), .ref (bd 6), .ref (bd 7), .ref (bd 8), .ref (bd 9), .ref (bd 10), .ref (bd 11), .ref (bd 12), .ref (bd 13), .ref (bd 14)])), ((bd 1), .inl (cy 0, 130, .inl (nIf f_))), ((bd 2), .inl (cy 0, 780, .inl (nIf w_46))), ((bd 8), .inl (cy 0, 16, .inl (nIf o1_))), ((bd 9), .inl (cy 0, 16, .inl (nIf o2_)))] := hD
        refine lv_aload_n hx hb dX8_power_49 rfl (lv_at hl 0 rfl) ?_
        refine lv_aload_n hx hb dX8_power_50 rfl (lv_at hl 0 rfl) ?_
        refine va_get (D := D) (ci := 5) (v := .ref (bd 8)) (C := RX8) (T := TX8) (N := 19) hx hb hts (fun w h => List.mem_cons_of_mem _ (zinX8 w h)) hown hK.1 hP 0 rfl rfl 12 (by decide) (hts _ (List.mem_cons_of_mem _ zw_81)) (fun _ h9 => h9) rfl dX8_power_51 ?_
        refine lv_iload_n hx hb dX8_power_54 rfl (lv_at hl 1 rfl) ?_
        refine zcWv (As := [.ref (bd 8), .int a_]) (rest := []) (wr := [((bd 2), .inl (cy 0, 780, .inl (nIf w_46))), ((bd 9), .inl (cy 0, 16, .inl (nIf o2_)))]) ⟨hx, hb, hml, hown, hts⟩ (c_X8_fetches l D cy H.size bd ((mU m_) - (mU m_) / 6 + 1) ln_ at_ iw_ f_ (bd 8) o1_ a_ (by omega) (by omega)) (cwV 2 hts (zG_V zw_257 zw_258 zw_259 zw_5 zw_260) rfl rfl rfl zd_X8_fetches ⟨Nat.le_of_ble_eq_true rfl, Nat.le_of_ble_eq_true rfl⟩) hK hP hD hS hA [0, 1, 3] [2, 4] [2, 3, 0, 4, 1] rfl (by decide) rfl (by decide) (by decide) (w2 := (fun u_ : Unit => ([((bd 0), .inr (5, [.int (nI 0), .ref (bd 1), .ref (bd 2), .int (nI ((mU m_) - (mU m_) / 6 + 1)), .ref (bd 3), .ref (bd 4), .ref (bd 5), .int (nI ln_), .int (nI at_), .int (if iw_ = true then 1 else 0), .ref (bd 6), .ref (bd 7), .ref (bd 8), .ref (bd 9), .ref (bd 10), .ref (bd 11), .ref (bd 12), .ref (bd 13), .ref (bd 14)])), ((bd 1), .inl (cy 0, 130, .inl (nIf f_))), ((bd 2), .inl (cy 0, 780, .inl (nIf w_46))), ((bd 8), .inl (cy 0, 16, .inl (nIf (fil (gTo f_ a_) o1_ (f_ 0))))), ((bd 9), .inl (cy 0, 16, .inl (nIf o2_)))] : va_W))) (fun _ => rfl) (by decide) rfl rfl rfl rfl hl.1 rfl (Nat.le_of_ble_eq_true rfl) dX8_power_55 ⟨Nat.zero_le _, Nat.zero_le _⟩ (fun  u55 H locs h55 hP hD hS => ?_)
        have h55 : True := h55
        have hP : va_P D vwCl [((bd 0), .inr (5, [.int (nI 0), .ref (bd 1), .ref (bd 2), .int (nI ((mU m_) - (mU m_) / 6 + 1)), .ref (bd 3), .ref (bd 4), .ref (bd 5), .int (nI ln_), .int (nI at_), .int (if iw_ = true then 1 else 0), .ref (bd 6), .ref (bd 7), .ref (bd 8), .ref (bd 9), .ref (bd 10), .ref (bd 11), .ref (bd 12), .ref (bd 13), .ref (bd 14)])), ((bd 1), .inl (cy 0, 130, .inl (nIf f_))), ((bd 2), .inl (cy 0, 780, .inl (nIf w_46))), ((bd 8), .inl (cy 0, 16, .inl (nIf (fil (gTo f_ a_) o1_ (f_ 0))))), ((bd 9), .inl (cy 0, 16, .inl (nIf o2_)))] H := hP
        have hD : va_D zA [((bd 0), .inr (5, [.int (nI 0), .ref (bd 1), .ref (bd 2), .int (nI ((mU m_) - (mU m_) / 6 + 1)), .ref (bd 3), .ref (bd 4), .ref (bd 5), .int (nI ln_), .int (nI at_), .int (if iw_ = true then 1 else 0), .ref (bd 6), .ref (bd 7), .ref (bd 8), .ref (bd 9), .ref (bd 10), .ref (bd 11), .ref (bd 12), .ref (bd 13), .ref (bd 14)])), ((bd 1), .inl (cy 0, 130, .inl (nIf f_))), ((bd 2), .inl (cy 0, 780, .inl (nIf w_46))), ((bd 8), .inl (cy 0, 16, .inl (nIf (fil (gTo f_ a_) o1_ (f_ 0))))), ((bd 9), .inl (cy 0, 16, .inl (nIf o2_)))] := hD
        have hP := zP_rowN hP 4 (fil (fun q_ => pw xa_ zp_.toInt q_) o2_ 0) rfl (fun j_ _ => congrFun (fil_0 (fun q_ => pw xa_ zp_.toInt q_) o2_) j_)
        have hP : va_P D vwCl [((bd 0), .inr (5, [.int (nI 0), .ref (bd 1), .ref (bd 2), .int (nI ((mU m_) - (mU m_) / 6 + 1)), .ref (bd 3), .ref (bd 4), .ref (bd 5), .int (nI ln_), .int (nI at_), .int (if iw_ = true then 1 else 0), .ref (bd 6), .ref (bd 7), .ref (bd 8), .ref (bd 9), .ref (bd 10), .ref (bd 11), .ref (bd 12), .ref (bd 13), .ref (bd 14)])), ((bd 1), .inl (cy 0, 130, .inl (nIf f_))), ((bd 2), .inl (cy 0, 780, .inl (nIf w_46))), ((bd 8), .inl (cy 0, 16, .inl (nIf (fil (gTo f_ a_) o1_ (f_ 0))))), ((bd 9), .inl (cy 0, 16, .inl (nIf (fil (fun q_ => pw xa_ zp_.toInt q_) o2_ 0))))] H := hP
        have hD : va_D zA [((bd 0), .inr (5, [.int (nI 0), .ref (bd 1), .ref (bd 2), .int (nI ((mU m_) - (mU m_) / 6 + 1)), .ref (bd 3), .ref (bd 4), .ref (bd 5), .int (nI ln_), .int (nI at_), .int (if iw_ = true then 1 else 0), .ref (bd 6), .ref (bd 7), .ref (bd 8), .ref (bd 9), .ref (bd 10), .ref (bd 11), .ref (bd 12), .ref (bd 13), .ref (bd 14)])), ((bd 1), .inl (cy 0, 130, .inl (nIf f_))), ((bd 2), .inl (cy 0, 780, .inl (nIf w_46))), ((bd 8), .inl (cy 0, 16, .inl (nIf (fil (gTo f_ a_) o1_ (f_ 0))))), ((bd 9), .inl (cy 0, 16, .inl (nIf (fil (fun q_ => pw xa_ zp_.toInt q_) o2_ 0))))] := hD.set (p := 4) rfl
        refine lv_iconst (v := nI 0) hx hb dX8_power_58 (by decide) ?_
        refine lv_istore_n (lv' := [(3, .int (nI 0)), (0, .ref (bd 0)), (1, .int a_), (2, .int zp_)]) hx hb dX8_power_59 rfl hl (by decide) rfl (fun ls hl => ?_)
        have L60 : ∀ (kf_ : Nat) (i_ : Nat) (hi : i_ ≤ f_ 0), f_ 0 - i_ < kf_ → ∀ (H : Heap) (locs : List Loc), va_P D vwCl [((bd 0), .inr (5, [.int (nI 0), .ref (bd 1), .ref (bd 2), .int (nI ((mU m_) - (mU m_) / 6 + 1)), .ref (bd 3), .ref (bd 4), .ref (bd 5), .int (nI ln_), .int (nI at_), .int (if iw_ = true then 1 else 0), .ref (bd 6), .ref (bd 7), .ref (bd 8), .ref (bd 9), .ref (bd 10), .ref (bd 11), .ref (bd 12), .ref (bd 13), .ref (bd 14)])), ((bd 1), .inl (cy 0, 130, .inl (nIf f_))), ((bd 2), .inl (cy 0, 780, .inl (nIf w_46))), ((bd 8), .inl (cy 0, 16, .inl (nIf (fil (gTo f_ a_) o1_ (f_ 0))))), ((bd 9), .inl (cy 0, 16, .inl (nIf (fil (fun q_ => pw xa_ zp_.toInt q_) o2_ i_))))] H → va_D zA [((bd 0), .inr (5, [.int (nI 0), .ref (bd 1), .ref (bd 2), .int (nI ((mU m_) - (mU m_) / 6 + 1)), .ref (bd 3), .ref (bd 4), .ref (bd 5), .int (nI ln_), .int (nI at_), .int (if iw_ = true then 1 else 0), .ref (bd 6), .ref (bd 7), .ref (bd 8), .ref (bd 9), .ref (bd 10), .ref (bd 11), .ref (bd 12), .ref (bd 13), .ref (bd 14)])), ((bd 1), .inl (cy 0, 130, .inl (nIf f_))), ((bd 2), .inl (cy 0, 780, .inl (nIf w_46))), ((bd 8), .inl (cy 0, 16, .inl (nIf (fil (gTo f_ a_) o1_ (f_ 0))))), ((bd 9), .inl (cy 0, 16, .inl (nIf (fil (fun q_ => pw xa_ zp_.toInt q_) o2_ i_))))] → va_S zA zs.heap H locs → ∀ ls : Array Slot, lv_has ls 4 [(0, .ref (bd 0)), (1, .int a_), (2, .int zp_), (3, .int (nI i_))] → W zp l ze r_X8_power zs zm za zb zme zc H locs 0 0 Q (F0 zm 60 ls []) := by
          intro kf_
          induction kf_ with
          | zero => intro i_ hi hk_; exact absurd hk_ (Nat.not_lt_zero _)
          | succ kf_ ih60 =>
            intro i_ hi hk_ H locs hP hD hS ls hl
            refine lv_iload_n hx hb dX8_power_60 rfl (lv_at hl 3 rfl) ?_
            refine lv_aload_n hx hb dX8_power_61 rfl (lv_at hl 0 rfl) ?_
            refine va_get (D := D) (ci := 5) (v := .ref (bd 1)) (C := RX8) (T := TX8) (N := 19) hx hb hts (fun w h => List.mem_cons_of_mem _ (zinX8 w h)) hown hK.1 hP 0 rfl rfl 1 (by decide) (hts _ (List.mem_cons_of_mem _ zw_74)) (fun _ h9 => h9) rfl dX8_power_62 ?_
            refine lv_iconst (v := nI 0) hx hb dX8_power_65 (by decide) ?_
            refine zi_iald (v := nI (f_ 0)) hx hb hK hP 1 rfl (by omega) (by omega) rfl dX8_power_66 ?_
            refine zb_ge (a := i_) (b := f_ 0) (tgt := 92) hx hb dX8_power_67 (by decide) (by omega) (by omega) (fun c67 => ?_) (fun c67 => ?_)
            · skip
              have hP := zP_rowN hP 4 (fil (fun q_ => pw xa_ zp_.toInt q_) o2_ (f_ 0)) rfl (fun j_ _ => by rw [show i_ = f_ 0 by omega])
              have hP : va_P D vwCl [((bd 0), .inr (5, [.int (nI 0), .ref (bd 1), .ref (bd 2), .int (nI ((mU m_) - (mU m_) / 6 + 1)), .ref (bd 3), .ref (bd 4), .ref (bd 5), .int (nI ln_), .int (nI at_), .int (if iw_ = true then 1 else 0), .ref (bd 6), .ref (bd 7), .ref (bd 8), .ref (bd 9), .ref (bd 10), .ref (bd 11), .ref (bd 12), .ref (bd 13), .ref (bd 14)])), ((bd 1), .inl (cy 0, 130, .inl (nIf f_))), ((bd 2), .inl (cy 0, 780, .inl (nIf w_46))), ((bd 8), .inl (cy 0, 16, .inl (nIf (fil (gTo f_ a_) o1_ (f_ 0))))), ((bd 9), .inl (cy 0, 16, .inl (nIf (fil (fun q_ => pw xa_ zp_.toInt q_) o2_ (f_ 0)))))] H := hP
              have hD : va_D zA [((bd 0), .inr (5, [.int (nI 0), .ref (bd 1), .ref (bd 2), .int (nI ((mU m_) - (mU m_) / 6 + 1)), .ref (bd 3), .ref (bd 4), .ref (bd 5), .int (nI ln_), .int (nI at_), .int (if iw_ = true then 1 else 0), .ref (bd 6), .ref (bd 7), .ref (bd 8), .ref (bd 9), .ref (bd 10), .ref (bd 11), .ref (bd 12), .ref (bd 13), .ref (bd 14)])), ((bd 1), .inl (cy 0, 130, .inl (nIf f_))), ((bd 2), .inl (cy 0, 780, .inl (nIf w_46))), ((bd 8), .inl (cy 0, 16, .inl (nIf (fil (gTo f_ a_) o1_ (f_ 0))))), ((bd 9), .inl (cy 0, 16, .inl (nIf (fil (fun q_ => pw xa_ zp_.toInt q_) o2_ (f_ 0)))))] := hD.set (p := 4) rfl
              refine lv_aload_n hx hb dX8_power_92 rfl (lv_at hl 0 rfl) ?_
              refine lv_aload_n hx hb dX8_power_93 rfl (lv_at hl 0 rfl) ?_
              refine va_get (D := D) (ci := 5) (v := .ref (bd 9)) (C := RX8) (T := TX8) (N := 19) hx hb hts (fun w h => List.mem_cons_of_mem _ (zinX8 w h)) hown hK.1 hP 0 rfl rfl 13 (by decide) (hts _ (List.mem_cons_of_mem _ zw_82)) (fun _ h9 => h9) rfl dX8_power_94 ?_
              refine zcWi (As := [.ref (bd 9)]) (rest := []) (wr := [((bd 2), .inl (cy 0, 780, .inl (nIf w_46))), ((bd 8), .inl (cy 0, 16, .inl (nIf (fil (gTo f_ a_) o1_ (f_ 0)))))]) ⟨hx, hb, hml, hown, hts⟩ (c_X8_adds l D cy H.size bd ((mU m_) - (mU m_) / 6 + 1) ln_ at_ iw_ f_ (bd 9) (fil (fun q_ => pw xa_ zp_.toInt q_) o2_ (f_ 0)) (by omega) (by omega)) (cwV 1 hts (zG_V zw_226 zw_227 zw_228 zw_5 zw_229) rfl rfl rfl zd_X8_adds ⟨Nat.le_of_ble_eq_true rfl, Nat.le_of_ble_eq_true rfl⟩) hK hP hD hS hA [0, 1, 4] [2, 3] [2, 3, 0, 1, 4] rfl (by decide) rfl (by decide) (by decide) (w2 := (fun u_ : (Nat → Nat) => ([((bd 0), .inr (5, [.int (nI 0), .ref (bd 1), .ref (bd 2), .int (nI ((mU m_) - (mU m_) / 6 + 1)), .ref (bd 3), .ref (bd 4), .ref (bd 5), .int (nI ln_), .int (nI at_), .int (if iw_ = true then 1 else 0), .ref (bd 6), .ref (bd 7), .ref (bd 8), .ref (bd 9), .ref (bd 10), .ref (bd 11), .ref (bd 12), .ref (bd 13), .ref (bd 14)])), ((bd 1), .inl (cy 0, 130, .inl (nIf u_))), ((bd 2), .inl (cy 0, 780, .inl (nIf w_46))), ((bd 8), .inl (cy 0, 16, .inl (nIf (fil (gTo f_ a_) o1_ (f_ 0))))), ((bd 9), .inl (cy 0, 16, .inl (nIf (fil (fun q_ => pw xa_ zp_.toInt q_) o2_ (f_ 0)))))] : va_W))) (fun _ => rfl) (by decide) rfl rfl rfl rfl hl.1 rfl (Nat.le_of_ble_eq_true rfl) dX8_power_97 ⟨Nat.zero_le _, Nat.zero_le _⟩ (fun r97 u97 H locs h97 hP hD hS => ?_)
              obtain ⟨w_97, rfl⟩ : ∃ z_, z_ = u97 := ⟨_, rfl⟩
              obtain ⟨hr97, h97⟩ := h97
              have hr97 : r97 = nI (f_ 1) := hr97
              have h97 : w_97 1 = f_ 1 + 1 ∧ (∀ z_, z_ < f_ 0 → w_97 (34 + 16 * f_ 1 + z_) = (fil (fun q_ => pw xa_ zp_.toInt q_) o2_ (f_ 0)) z_) ∧ ∀ z_, z_ ≠ 1 → z_ < 34 + 16 * f_ 1 → w_97 z_ = f_ z_ := h97
              subst hr97
              have hP : va_P D vwCl [((bd 0), .inr (5, [.int (nI 0), .ref (bd 1), .ref (bd 2), .int (nI ((mU m_) - (mU m_) / 6 + 1)), .ref (bd 3), .ref (bd 4), .ref (bd 5), .int (nI ln_), .int (nI at_), .int (if iw_ = true then 1 else 0), .ref (bd 6), .ref (bd 7), .ref (bd 8), .ref (bd 9), .ref (bd 10), .ref (bd 11), .ref (bd 12), .ref (bd 13), .ref (bd 14)])), ((bd 1), .inl (cy 0, 130, .inl (nIf w_97))), ((bd 2), .inl (cy 0, 780, .inl (nIf w_46))), ((bd 8), .inl (cy 0, 16, .inl (nIf (fil (gTo f_ a_) o1_ (f_ 0))))), ((bd 9), .inl (cy 0, 16, .inl (nIf (fil (fun q_ => pw xa_ zp_.toInt q_) o2_ (f_ 0)))))] H := hP
              have hD : va_D zA [((bd 0), .inr (5, [.int (nI 0), .ref (bd 1), .ref (bd 2), .int (nI ((mU m_) - (mU m_) / 6 + 1)), .ref (bd 3), .ref (bd 4), .ref (bd 5), .int (nI ln_), .int (nI at_), .int (if iw_ = true then 1 else 0), .ref (bd 6), .ref (bd 7), .ref (bd 8), .ref (bd 9), .ref (bd 10), .ref (bd 11), .ref (bd 12), .ref (bd 13), .ref (bd 14)])), ((bd 1), .inl (cy 0, 130, .inl (nIf w_97))), ((bd 2), .inl (cy 0, 780, .inl (nIf w_46))), ((bd 8), .inl (cy 0, 16, .inl (nIf (fil (gTo f_ a_) o1_ (f_ 0))))), ((bd 9), .inl (cy 0, 16, .inl (nIf (fil (fun q_ => pw xa_ zp_.toInt q_) o2_ (f_ 0)))))] := hD
              have eu_ : mU m_ - mU m_ / 6 + 1 = upD (mU m_) := (upD_E hU6).symm
              rw [eu_] at hP hD
              have e_ : opPower m_ a_ zp_ = (nI (mC m_), putM m_ (mN m_, mP m_, mT m_, mC m_ + 1, vp_updL (mM m_) (mC m_) y_)) := by unfold opPower comeM; rw [if_pos hba, if_pos (bZ_iff.mpr c25), if_pos (by omega), hy_, hxa_]
              rw [e_] at kr
              exact kr _ (w_97, w_46, (fil (gTo f_ a_) o1_ (f_ 0)), (fil (fun q_ => pw xa_ zp_.toInt q_) o2_ (f_ 0))) _ _ _ _ dX8_power_100 (vp_nar_int _) (adds_m hw hM (rec_u hw hX6 hU6 hM h46) hXy h97) hP hD hS
            · skip
              refine lv_aload_n hx hb dX8_power_70 rfl (lv_at hl 0 rfl) ?_
              refine va_get (D := D) (ci := 5) (v := .ref (bd 9)) (C := RX8) (T := TX8) (N := 19) hx hb hts (fun w h => List.mem_cons_of_mem _ (zinX8 w h)) hown hK.1 hP 0 rfl rfl 13 (by decide) (hts _ (List.mem_cons_of_mem _ zw_82)) (fun _ h9 => h9) rfl dX8_power_71 ?_
              refine lv_iload_n hx hb dX8_power_74 rfl (lv_at hl 3 rfl) ?_
              refine lv_aload_n hx hb dX8_power_75 rfl (lv_at hl 0 rfl) ?_
              refine lv_aload_n hx hb dX8_power_76 rfl (lv_at hl 0 rfl) ?_
              refine va_get (D := D) (ci := 5) (v := .ref (bd 8)) (C := RX8) (T := TX8) (N := 19) hx hb hts (fun w h => List.mem_cons_of_mem _ (zinX8 w h)) hown hK.1 hP 0 rfl rfl 12 (by decide) (hts _ (List.mem_cons_of_mem _ zw_81)) (fun _ h9 => h9) rfl dX8_power_77 ?_
              refine lv_iload_n hx hb dX8_power_80 rfl (lv_at hl 2 rfl) ?_
              refine lv_iload_n hx hb dX8_power_81 rfl (lv_at hl 3 rfl) ?_
              refine zcRi (As := [.ref (bd 8), .int zp_, .int (nI i_)]) (rest := [.int (nI i_), .ref (bd 9)]) ⟨hx, hb, hml, hown, hts⟩ (c_X8_powered l D cy bd ((mU m_) - (mU m_) / 6 + 1) ln_ at_ iw_ f_ (bd 8) (fil (gTo f_ a_) o1_ (f_ 0)) xa_ zp_ i_ (by omega) hXa hwa (by omega) (by omega)) (cwV 3 hts (zG_V zw_293 zw_294 zw_295 zw_5 zw_296) rfl rfl rfl zd_X8_powered ⟨Nat.le_of_ble_eq_true rfl, Nat.le_of_ble_eq_true rfl⟩) hK hP [0, 1, 3] rfl rfl rfl rfl rfl hl.1 rfl (Nat.le_of_ble_eq_true rfl) dX8_power_82 ⟨Nat.zero_le _, Nat.zero_le _⟩ (fun r82 h82 => ?_)
              subst h82
              refine zi_iast hx hb hK hP hD hS 4 rfl (by omega) (by omega) dX8_power_85 (fun H locs hP hD hS => ?_)
              rw [upd_nIf] at hP hD
              have hP : va_P D vwCl [((bd 0), .inr (5, [.int (nI 0), .ref (bd 1), .ref (bd 2), .int (nI ((mU m_) - (mU m_) / 6 + 1)), .ref (bd 3), .ref (bd 4), .ref (bd 5), .int (nI ln_), .int (nI at_), .int (if iw_ = true then 1 else 0), .ref (bd 6), .ref (bd 7), .ref (bd 8), .ref (bd 9), .ref (bd 10), .ref (bd 11), .ref (bd 12), .ref (bd 13), .ref (bd 14)])), ((bd 1), .inl (cy 0, 130, .inl (nIf f_))), ((bd 2), .inl (cy 0, 780, .inl (nIf w_46))), ((bd 8), .inl (cy 0, 16, .inl (nIf (fil (gTo f_ a_) o1_ (f_ 0))))), ((bd 9), .inl (cy 0, 16, .inl (nIf (uN1 (fil (fun q_ => pw xa_ zp_.toInt q_) o2_ i_) i_ (pw xa_ zp_.toInt i_)))))] H := hP
              have hD : va_D zA [((bd 0), .inr (5, [.int (nI 0), .ref (bd 1), .ref (bd 2), .int (nI ((mU m_) - (mU m_) / 6 + 1)), .ref (bd 3), .ref (bd 4), .ref (bd 5), .int (nI ln_), .int (nI at_), .int (if iw_ = true then 1 else 0), .ref (bd 6), .ref (bd 7), .ref (bd 8), .ref (bd 9), .ref (bd 10), .ref (bd 11), .ref (bd 12), .ref (bd 13), .ref (bd 14)])), ((bd 1), .inl (cy 0, 130, .inl (nIf f_))), ((bd 2), .inl (cy 0, 780, .inl (nIf w_46))), ((bd 8), .inl (cy 0, 16, .inl (nIf (fil (gTo f_ a_) o1_ (f_ 0))))), ((bd 9), .inl (cy 0, 16, .inl (nIf (uN1 (fil (fun q_ => pw xa_ zp_.toInt q_) o2_ i_) i_ (pw xa_ zp_.toInt i_)))))] := hD
              have hP := zP_rowN hP 4 (fil (fun q_ => pw xa_ zp_.toInt q_) o2_ (i_ + 1)) rfl (fun j_ _ => congrFun (fil_s (fun q_ => pw xa_ zp_.toInt q_) o2_ i_) j_)
              have hP : va_P D vwCl [((bd 0), .inr (5, [.int (nI 0), .ref (bd 1), .ref (bd 2), .int (nI ((mU m_) - (mU m_) / 6 + 1)), .ref (bd 3), .ref (bd 4), .ref (bd 5), .int (nI ln_), .int (nI at_), .int (if iw_ = true then 1 else 0), .ref (bd 6), .ref (bd 7), .ref (bd 8), .ref (bd 9), .ref (bd 10), .ref (bd 11), .ref (bd 12), .ref (bd 13), .ref (bd 14)])), ((bd 1), .inl (cy 0, 130, .inl (nIf f_))), ((bd 2), .inl (cy 0, 780, .inl (nIf w_46))), ((bd 8), .inl (cy 0, 16, .inl (nIf (fil (gTo f_ a_) o1_ (f_ 0))))), ((bd 9), .inl (cy 0, 16, .inl (nIf (fil (fun q_ => pw xa_ zp_.toInt q_) o2_ (i_ + 1)))))] H := hP
              have hD : va_D zA [((bd 0), .inr (5, [.int (nI 0), .ref (bd 1), .ref (bd 2), .int (nI ((mU m_) - (mU m_) / 6 + 1)), .ref (bd 3), .ref (bd 4), .ref (bd 5), .int (nI ln_), .int (nI at_), .int (if iw_ = true then 1 else 0), .ref (bd 6), .ref (bd 7), .ref (bd 8), .ref (bd 9), .ref (bd 10), .ref (bd 11), .ref (bd 12), .ref (bd 13), .ref (bd 14)])), ((bd 1), .inl (cy 0, 130, .inl (nIf f_))), ((bd 2), .inl (cy 0, 780, .inl (nIf w_46))), ((bd 8), .inl (cy 0, 16, .inl (nIf (fil (gTo f_ a_) o1_ (f_ 0))))), ((bd 9), .inl (cy 0, 16, .inl (nIf (fil (fun q_ => pw xa_ zp_.toInt q_) o2_ (i_ + 1)))))] := hD.set (p := 4) rfl
              refine lv_iinc (v := nI (i_ + 1)) (lv' := [(3, .int (nI (i_ + 1))), (0, .ref (bd 0)), (1, .int a_), (2, .int zp_)]) hx hb dX8_power_86 hl (k := 3) rfl (nI_1 _) (by decide) rfl (fun ls hl => ?_)
              refine lv_goto (tgt := 60) hx hb dX8_power_89 (by decide) ?_
              exact ih60 (i_ + 1) (by omega) (by omega) _ _ hP hD hS _ (lv_sub hl [1, 2, 3, 0] rfl)
        exact L60 (f_ 0 - 0 + 1) 0 (Nat.zero_le _) (Nat.lt_succ_self _) _ _ hP hD hS _ (lv_sub hl [1, 2, 3, 0] rfl)
      · skip
        refine lv_bipush (v := (-4)) hx hb dX8_power_42 (by decide) ?_
        have e_ : opPower m_ a_ zp_ = (-4, m_) := by unfold opPower comeM; rw [if_pos (bM_iff.mpr (by omega)), if_pos (bZ_iff.mpr c25), if_neg (by omega)]
        rw [e_] at kr
        exact kr _ (f_, u_, o1_, o2_) _ _ _ _ dX8_power_44 (vp_nar_int _) ⟨rfl, hM⟩ hP hD hS
    · skip
      refine lv_bipush (v := (-2)) hx hb dX8_power_28 (by decide) ?_
      have e_ : opPower m_ a_ zp_ = (-2, m_) := by unfold opPower; rw [if_pos (bM_iff.mpr (by omega)), if_neg (fun q_ => c25 (bZ_iff.mp q_))]
      rw [e_] at kr
      exact kr _ (f_, u_, o1_, o2_) _ _ _ _ dX8_power_30 (vp_nar_int _) ⟨rfl, hM⟩ hP hD hS
  · skip
    refine lv_iconst (v := (-1)) hx hb dX8_power_13 (by decide) ?_
    have e_ : opPower m_ a_ zp_ = (-1, m_) := if_neg (fun q_ => c10 (by have := bM_iff.mp q_; omega))
    rw [e_] at kr
    exact kr _ (f_, u_, o1_, o2_) _ _ _ _ dX8_power_14 (vp_nar_int _) ⟨rfl, hM⟩ hP hD hS
